-- PURE LAYER: the class's parts, edges, asks
/-- the rows of Parts -/
def TRw (S : zS) (T : Tr) (nr : Nat) (sa : Nat → Nat) (ne : Nat) (ep : Nat → Nat) (el : Nat → Int32) (lst al : Nat → List Nat) (nx nk : Nat → Option Nat) (ue : Nat → Nat) : Prop :=
  S.1 13 = rowOf (tQ T) (fun p => nI (tH T p).1) ∧ S.1 14 = rowOf (tQ T) (fun p => (tH T p).2) ∧ S.1 15 = rowOf (tQ T) (fun p => if p = 0 then -1 else nI (tU T p)) ∧ S.1 16 = rowOf (tQ T) (fun p => if p = 0 then -1 else nI (ue p)) ∧ S.1 17 = rowOf (tQ T) (fun p => oI (lst p).head?) ∧
  S.1 18 = rowOf ne el ∧ S.1 19 = rowOf ne (fun e => oI (nx e)) ∧ S.1 20 = rowOf ne (fun e => oI (tCh T (ep e) (el e))) ∧ S.1 21 = rowOf ne (fun e => oI (al e).head?) ∧
  S.1 22 = rowOf (tA T) (fun k => nI (tK T k).1) ∧ S.1 23 = rowOf (tA T) (fun k => nI (tK T k).2.1) ∧ S.1 24 = rowOf (tA T) (fun k => oI (nk k)) ∧ S.1 25 = rowOf nr (fun r => nI (sa r))
/-- what they keep to -/
def EI (T : Tr) (P : Nat → Pt) (ne : Nat) (ep : Nat → Nat) (el : Nat → Int32) (lst al : Nat → List Nat) (nx nk : Nat → Option Nat) (ue : Nat → Nat) : Prop :=
  (∀ p, p < tQ T → lkd nx (lst p) ∧ (∀ e, e ∈ lst p ↔ e < ne ∧ ep e = p) ∧ (lst p).Pairwise (fun a b => el a < el b)) ∧
  (∀ e, e < ne → ep e < tQ T ∧ lkd nk (al e) ∧ ∀ k, k ∈ al e ↔ k < tA T ∧ (tK T k).2.1 = ep e ∧ pM (P (tK T k).2.2) = el e) ∧
  (∀ c, 1 ≤ c → c < tQ T → ue c < ne ∧ ep (ue c) = tU T c ∧ el (ue c) = tL T c) ∧
  ∀ k, k < tA T → ∃ e, e < ne ∧ ep e = (tK T k).2.1 ∧ el e = pM (P (tK T k).2.2)
def lastB (b : Int32) (l : List Nat) : Int32 := match l.getLast? with
  | none => b
  | some e => nI e
section PED
variable {S : zS} {T : Tr} {nr : Nat} {sa : Nat → Nat} {P : Nat → Pt} {ne : Nat} {ep : Nat → Nat} {el : Nat → Int32} {lst al : Nat → List Nat} {nx nk : Nat → Option Nat} {ue : Nat → Nat}
theorem i32_irr {x : Int32} : ¬ x < x := by rw [Int32.lt_iff_toInt_lt]; omega
theorem i32_nle {x y : Int32} : ¬ x ≤ y ↔ y < x := by rw [Int32.le_iff_toInt_le, Int32.lt_iff_toInt_lt]; omega
theorem i32_tr {x y z : Int32} (h : x < y) (k : y < z) : x < z := by rw [Int32.lt_iff_toInt_lt] at *; omega
theorem i32_ltr {x y z : Int32} (h : x ≤ y) (k : y < z) : x < z := by rw [Int32.lt_iff_toInt_lt] at *; rw [Int32.le_iff_toInt_le] at h; omega
theorem i32_eq {x y : Int32} (h : x ≤ y) (k : ¬ y = x) : x < y := by
  rw [Int32.lt_iff_toInt_lt]; rw [Int32.le_iff_toInt_le] at h; rw [← Int32.toInt_inj] at k; omega
theorem i32_le {x y : Int32} (h : x < y) : ¬ y ≤ x := by rw [Int32.lt_iff_toInt_lt] at h; rw [Int32.le_iff_toInt_le]; omega
theorem EI_nodup (h : EI T P ne ep el lst al nx nk ue) {p : Nat} (hp : p < tQ T) : (lst p).Nodup := (h.1 p hp).2.2.imp (fun {a b} hab => fun q => by subst q; exact i32_irr hab)
theorem EI_len (h : EI T P ne ep el lst al nx nk ue) {p : Nat} (hp : p < tQ T) : (lst p).length ≤ ne := nodup_len ne _ (EI_nodup h hp) (fun x hx => (((h.1 p hp).2.1 x).mp hx).1)
theorem p_lastBelow_L {l : Int32} (hr18 : S.1 18 = rowOf ne el) (hr19 : S.1 19 = rowOf ne (fun e => oI (nx e))) (hne : ne < 65536) : ∀ (l1 l2 : List Nat) (b : Int32) (cnt n : Nat), lkd nx (l1 ++ l2) → (∀ e, e ∈ l1 → e < ne ∧ el e < l) → (∀ e, l2.head? = some e → e < ne ∧ l ≤ el e) → (l1 ++ l2).length ≤ cnt → cnt < 65536 → l1.length < n → f_Par_lastBelow_L21 n S l b (oI (l1 ++ l2).head?) (nI cnt) = some (lastB b l1) := by
  intro l1
  induction l1 with
  | nil =>
    intro l2 b cnt n h h1 h2 hc hc2 hn
    cases n with
    | zero => simp at hn
    | succ n =>
      unfold f_Par_lastBelow_L21
      by_cases c : nI cnt ≤ 0
      · rw [if_pos c]; rfl
      · rw [if_neg c]
        cases l2 with
        | nil => rw [if_pos (by rfl)]; rfl
        | cons e l2 =>
          obtain ⟨he, hl⟩ := h2 e rfl
          have e1 : oI ([] ++ e :: l2).head? = nI e := rfl
          rw [e1, if_neg (nI_m1 (by omega)), r_at_rd, hr18, rowOf_rd he (by omega), if_pos hl]; rfl
  | cons e l1 ih =>
    intro l2 b cnt n h h1 h2 hc hc2 hn
    cases n with
    | zero => simp at hn
    | succ n =>
      unfold f_Par_lastBelow_L21
      obtain ⟨he, hl⟩ := h1 e List.mem_cons_self
      have hc1 : 1 ≤ cnt := by simp at hc; omega
      have e1 : oI ((e :: l1) ++ l2).head? = nI e := rfl
      have e2 : nI cnt + (-1) = nI (cnt - 1) := sb_m1 (by omega)
      rw [if_neg (by (simp (disch := omega) only [nI_1, nI_add, Int32.lt_iff_toInt_lt, Int32.le_iff_toInt_le, ← Int32.toInt_inj, nI_toInt, tI_0, tI_1, tI_2, tI_3, tI_4, tI_m1, tI_m2, tI_m3, tI_m4, tI_64, tI_128, tI_255, tI_256, tI_1000, tI_1024, tI_4096, tI_10000, tI_16384, tI_16386, tI_M]; omega)), e1, if_neg (nI_m1 (by omega)), r_at_rd, hr18, rowOf_rd he (by omega), if_neg (i32_le hl), zbind_e, r_at_rd, hr19, rowOf_rd he (by omega), e2]
      have hn1 : nx e = (l1 ++ l2).head? := h.1
      rw [hn1, ih l2 (nI e) (cnt - 1) n h.2 (fun x hx => h1 x (List.mem_cons_of_mem _ hx)) h2 (by simp at hc ⊢; omega) (by omega) (by simp at hn; omega)]
      cases l1 with
      | nil => rfl
      | cons y l1 =>
        unfold lastB
        rw [List.getLast?_cons_cons]
        cases q : (y :: l1).getLast? with
        | none => simp at q
        | some z => rfl
/-- the split of a part's edges at a label -/
theorem split_at (h : EI T P ne ep el lst al nx nk ue) {p : Nat} (hp : p < tQ T) (l : Int32) : ∃ l1 l2, lst p = l1 ++ l2 ∧ (∀ e, e ∈ l1 → e < ne ∧ el e < l) ∧ ∀ e, e ∈ l2 → e < ne ∧ l ≤ el e := by
  obtain ⟨h1, h2, h3⟩ := h.1 p hp
  have gen : ∀ k : List Nat, k.Pairwise (fun a b => el a < el b) → ∃ l1 l2, k = l1 ++ l2 ∧ (∀ e, e ∈ l1 → el e < l) ∧ ∀ e, e ∈ l2 → l ≤ el e := by
    intro k
    induction k with
    | nil => intro _; exact ⟨[], [], rfl, (by intro e he; cases he), (by intro e he; cases he)⟩
    | cons x k ih =>
      intro hk
      obtain ⟨q1, q2⟩ := List.pairwise_cons.mp hk
      by_cases c : el x < l
      · obtain ⟨l1, l2, e1, e2, e3⟩ := ih q2
        refine ⟨x :: l1, l2, by rw [e1]; rfl, fun e he => ?_, e3⟩
        rcases List.mem_cons.mp he with e | e
        · subst e; exact c
        · exact e2 _ e
      · refine ⟨[], x :: k, rfl, (by intro e he; cases he), fun e he => ?_⟩
        have hx : l ≤ el x := by rw [Int32.le_iff_toInt_le]; rw [Int32.lt_iff_toInt_lt] at c; omega
        rcases List.mem_cons.mp he with e | e
        · subst e; exact hx
        · have := i32_ltr hx (q1 _ e)
          rw [Int32.le_iff_toInt_le]; rw [Int32.lt_iff_toInt_lt] at this; omega
  obtain ⟨l1, l2, e1, e2, e3⟩ := gen (lst p) h3
  refine ⟨l1, l2, e1, fun e he => ⟨((h2 e).mp (by rw [e1]; exact List.mem_append_left _ he)).1, e2 e he⟩, fun e he => ⟨((h2 e).mp (by rw [e1]; exact List.mem_append_right _ he)).1, e3 e he⟩⟩
theorem p_lastBelow (hR : TRw S T nr sa ne ep el lst al nx nk ue) (hE : EI T P ne ep el lst al nx nk ue) {p : Nat} (hp : p < tQ T) (hq : tQ T < 65536) (hne : ne < 65536) {l : Int32} {l1 l2 : List Nat} (e : lst p = l1 ++ l2) (h1 : ∀ e, e ∈ l1 → e < ne ∧ el e < l) (h2 : ∀ e, e ∈ l2 → e < ne ∧ l ≤ el e) : f_Par_lastBelow S (nI p) l = some (lastB (-1) l1) ∧ f_Par_edgeAfter S (nI p) (lastB (-1) l1) = oI l2.head? := by
  obtain ⟨r13, r14, r15, r16, r17, r18, r19, r20, r21, r22, r23, r24, r25⟩ := hR
  have hl := (hE.1 p hp).1
  rw [e] at hl
  have hlen := EI_len hE hp
  rw [e] at hlen
  have hlen1 : l1.length ≤ ne := by simp at hlen; omega
  constructor
  · unfold f_Par_lastBelow
    have hs : r_size S 18 = nI ne := by unfold r_size; rw [r18, rowOf_len]
    rw [zbind_e, zbind_e, hs, r_at_rd, r17, rowOf_rd hp (by omega), e]
    exact p_lastBelow_L r18 r19 hne l1 l2 (-1) ne zbig hl h1 (fun x hx => h2 x (List.mem_of_mem_head? hx)) hlen hne (by unfold zbig; omega)
  · unfold f_Par_edgeAfter
    rcases List.eq_nil_or_concat l1 with q | ⟨k, x, q⟩
    · subst q
      show (if ¬ (-1 : Int32) = -1 then _ else _) = _
      rw [if_neg (by simp), r_at_rd, r17, rowOf_rd hp (by omega), e]; rfl
    · subst q
      rw [List.concat_eq_append] at *
      have hx := (h1 x (by simp)).1
      have hg : lastB (-1) (k ++ [x]) = nI x := by unfold lastB; simp
      rw [hg]
      rw [if_pos (nI_m1 (by omega)), r_at_rd, r19, rowOf_rd hx (by omega)]
      rw [List.append_assoc] at hl
      rw [lkd_last hl]
      rfl
/-- an edge that is new -/
theorem p_addEdge (ho : okS S) (hR : TRw S T nr sa ne ep el lst al nx nk ue) (hE : EI T P ne ep el lst al nx nk ue) (hT : TW T) {p : Nat} (hp : p < tQ T) (hq : tQ T < 65536) (hne : ne < 65535) {l : Int32} {l1 l2 : List Nat} (e : lst p = l1 ++ l2) (h1 : ∀ e, e ∈ l1 → e < ne ∧ el e < l) (h2 : ∀ e, e ∈ l2 → e < ne ∧ l < el e) :
    ∃ S' nx', f_Par_addEdge S (nI p) (lastB (-1) l1) l = (S', nI ne) ∧ zLike [17, 18, 19, 20, 21] S S' ∧ TRw S' T nr sa (ne + 1) (va_up ep ne p) (va_up el ne l) (va_up lst p (l1 ++ ne :: l2)) (va_up al ne []) nx' nk ue ∧ EI T P (ne + 1) (va_up ep ne p) (va_up el ne l) (va_up lst p (l1 ++ ne :: l2)) (va_up al ne []) nx' nk ue := by
  have h2' : ∀ e, e ∈ l2 → e < ne ∧ l ≤ el e := fun e he => ⟨(h2 e he).1, by have := (h2 e he).2; rw [Int32.le_iff_toInt_le]; rw [Int32.lt_iff_toInt_lt] at this; omega⟩
  have eA := (p_lastBelow hR hE hp hq (by omega) e h1 h2').2
  have hR' := hR
  obtain ⟨r13, r14, r15, r16, r17, r18, r19, r20, r21, r22, r23, r24, r25⟩ := hR
  obtain ⟨E1, E2, E3, E4⟩ := hE
  have hlk := (E1 p hp).1
  have hmem := (E1 p hp).2.1
  have hpw := (E1 p hp).2.2
  rw [e] at hlk hpw
  have hnd : (l1 ++ l2).Nodup := hpw.imp (fun {a b} hab => fun q => by subst q; exact i32_irr hab)
  have hfresh : ∀ x, x ∈ l1 ++ l2 → x < ne := fun x hx => ((hmem x).mp (by rw [e]; exact hx)).1
  have hnew : ne ∉ l1 ++ l2 := fun q => by have := hfresh ne q; omega
  -- no edge with this label
  have hno : ∀ x, x < ne → ¬ (ep x = p ∧ el x = l) := fun x hx q => by
    have hm : x ∈ l1 ++ l2 := by rw [← e]; exact (hmem x).mpr ⟨hx, q.1⟩
    rcases List.mem_append.mp hm with m | m
    · have := (h1 x m).2; rw [q.2] at this; exact i32_irr this
    · have := (h2 x m).2; rw [q.2] at this; exact i32_irr this
  have hnc : tCh T p l = none := by
    cases q : tCh T p l with
    | none => rfl
    | some c =>
      obtain ⟨a, b, d, f⟩ := tCh_ok q
      obtain ⟨u1, u2, u3⟩ := E3 c a b
      exact absurd ⟨by rw [u2, d], by rw [u3, f]⟩ (hno _ u1)
  -- the rows
  obtain ⟨S1, e1, m1, s1⟩ := zAdd (S := S) (k := 19) (oI l2.head?) ho (by decide) (by rw [r19, rowOf_len]; omega)
  obtain ⟨S2, e2, m2, s2⟩ := zAdd (S := S1) (k := 20) (-1) m1.2.2 (by decide) (by rw [m1.1 20 (by decide), r20, rowOf_len]; omega)
  obtain ⟨S3, e3, m3, s3⟩ := zAdd (S := S2) (k := 21) (-1) m2.2.2 (by decide) (by rw [m2.1 21 (by decide), m1.1 21 (by decide), r21, rowOf_len]; omega)
  obtain ⟨S4, e4, m4, s4⟩ := zAdd (S := S3) (k := 18) l m3.2.2 (by decide) (by rw [m3.1 18 (by decide), m2.1 18 (by decide), m1.1 18 (by decide), r18, rowOf_len]; omega)
  have l18 : (S3.1 18).length = ne := by rw [m3.1 18 (by decide), m2.1 18 (by decide), m1.1 18 (by decide), r18, rowOf_len]
  have k19 : S4.1 19 = rowOf (ne + 1) (fun x => oI (va_up nx ne l2.head? x)) := by
    rw [m4.1 19 (by decide), m3.1 19 (by decide), m2.1 19 (by decide), s1, r19]
    exact rowOf_ext (fun i hi => by rw [va_n (by omega)]) (by rw [va_s])
  have k17 : S4.1 17 = rowOf (tQ T) (fun p => oI (lst p).head?) := by
    rw [m4.1 17 (by decide), m3.1 17 (by decide), m2.1 17 (by decide), m1.1 17 (by decide), r17]
  have k18 : S4.1 18 = rowOf (ne + 1) (va_up el ne l) := by
    rw [s4, m3.1 18 (by decide), m2.1 18 (by decide), m1.1 18 (by decide), r18]
    exact rowOf_ext (fun i hi => by rw [va_n (by omega)]) (by rw [va_s])
  have k20 : S4.1 20 = rowOf (ne + 1) (fun x => oI (tCh T (va_up ep ne p x) (va_up el ne l x))) := by
    rw [m4.1 20 (by decide), m3.1 20 (by decide), s2, m1.1 20 (by decide), r20]
    exact rowOf_ext (fun i hi => by rw [va_n (by omega), va_n (by omega)]) (by rw [va_s, va_s, hnc]; rfl)
  have k21 : S4.1 21 = rowOf (ne + 1) (fun x => oI (va_up al ne [] x).head?) := by
    rw [m4.1 21 (by decide), s3, m2.1 21 (by decide), m1.1 21 (by decide), r21]
    exact rowOf_ext (fun i hi => by rw [va_n (by omega)]) (by rw [va_s]; rfl)
  have kk : ∀ k, k ∉ [17, 18, 19, 20, 21] → S4.1 k = S.1 k := fun k hk => by
    have hk' : k ≠ 17 ∧ k ≠ 18 ∧ k ≠ 19 ∧ k ≠ 20 ∧ k ≠ 21 := by simpa using hk
    rw [m4.1 k (by simp; omega), m3.1 k (by simp; omega), m2.1 k (by simp; omega), m1.1 k (by simp; omega)]
  have kx : S4.2.2 = S.2.2 := by rw [m4.2.1, m3.2.1, m2.2.1, m1.2.1]
  -- what they keep to
  have hei : ∀ nx', lkd nx' (l1 ++ ne :: l2) → (∀ x, x ∉ l1 ++ l2 → x ≠ ne → nx' x = nx x) → EI T P (ne + 1) (va_up ep ne p) (va_up el ne l) (va_up lst p (l1 ++ ne :: l2)) (va_up al ne []) nx' nk ue := by
    intro nx' hl' hsame
    refine ⟨fun p' hp' => ?_, fun x hx => ?_, fun c a b => ?_, fun k hk => ?_⟩
    · by_cases q : p' = p
      · subst q
        rw [va_s]
        refine ⟨hl', fun x => ?_, ?_⟩
        · by_cases w : x = ne
          · subst w; rw [va_s]; simp
          · rw [va_n w]
            have := hmem x
            rw [e] at this
            constructor
            · intro hx
              have : x ∈ l1 ++ l2 := by
                rcases List.mem_append.mp hx with y | y
                · exact List.mem_append_left _ y
                · rcases List.mem_cons.mp y with y | y
                  · exact absurd y w
                  · exact List.mem_append_right _ y
              have := (hmem x).mp (by rw [e]; exact this)
              exact ⟨by omega, this.2⟩
            · intro hx
              have := this.mpr ⟨by omega, hx.2⟩
              rcases List.mem_append.mp this with y | y
              · exact List.mem_append_left _ y
              · exact List.mem_append_right _ (List.mem_cons_of_mem _ y)
        · have old : ∀ x, x ∈ l1 ++ l2 → va_up el ne l x = el x := fun x hx => va_n (fun q => by subst q; exact hnew hx)
          obtain ⟨w1, w2, w3⟩ := List.pairwise_append.mp hpw
          refine List.pairwise_append.mpr ⟨?_, List.pairwise_cons.mpr ⟨fun b hb => ?_, ?_⟩, fun a ha b hb => ?_⟩
          · refine List.Pairwise.imp_of_mem (fun {a b} ha hb hab => ?_) w1
            rw [old a (List.mem_append_left _ ha), old b (List.mem_append_left _ hb)]; exact hab
          · rw [va_s, old b (List.mem_append_right _ hb)]; exact (h2 b hb).2
          · refine List.Pairwise.imp_of_mem (fun {a b} ha hb hab => ?_) w2
            rw [old a (List.mem_append_right _ ha), old b (List.mem_append_right _ hb)]; exact hab
          · rw [old a (List.mem_append_left _ ha)]
            rcases List.mem_cons.mp hb with y | y
            · subst y; rw [va_s]; exact (h1 a ha).2
            · rw [old b (List.mem_append_right _ y)]; exact w3 a ha b y
      · rw [va_n q]
        obtain ⟨w1, w2, w3⟩ := E1 p' hp'
        refine ⟨lkd_congr (fun x hx => ?_) w1, fun x => ?_, ?_⟩
        · have := (w2 x).mp hx
          refine hsame x (fun m => ?_) (by omega)
          have := (hmem x).mp (by rw [e]; exact m)
          omega
        · by_cases w : x = ne
          · subst w; rw [va_s, w2]
            constructor
            · intro y; omega
            · intro y; exact absurd y.2.symm q
          · rw [va_n w, w2]
            constructor
            · intro y; exact ⟨by omega, y.2⟩
            · intro y; exact ⟨by omega, y.2⟩
        · refine List.Pairwise.imp_of_mem (fun {a b} ha hb hab => ?_) w3
          have := (w2 a).mp ha
          have := (w2 b).mp hb
          rw [va_n (by omega), va_n (by omega)]; exact hab
    · by_cases w : x = ne
      · subst w
        rw [va_s, va_s, va_s]
        refine ⟨hp, trivial, fun k => ⟨(by intro y; cases y), fun y => ?_⟩⟩
        obtain ⟨x', z1, z2, z3⟩ := E4 k y.1
        exact absurd ⟨by rw [z2]; exact y.2.1, by rw [z3]; exact y.2.2⟩ (hno x' z1)
      · rw [va_n w, va_n w, va_n w]; exact E2 x (by omega)
    · obtain ⟨z1, z2, z3⟩ := E3 c a b
      rw [va_n (by omega), va_n (by omega)]
      exact ⟨by omega, z2, z3⟩
    · obtain ⟨x, z1, z2, z3⟩ := E4 k hk
      exact ⟨x, by omega, by rw [va_n (by omega)]; exact z2, by rw [va_n (by omega)]; exact z3⟩
  have hmid := lkd_mid (x := ne) hlk hnew hnd
  have start : ∀ b, f_Par_edgeAfter S (nI p) b = oI l2.head? → f_Par_addEdge S (nI p) b l = if ¬ b = (-1) then zbind (r_set S4 19 b (nI ne)) fun S10 => (S10, nI ne) else zbind (r_set S4 17 (nI p) (nI ne)) fun S11 => (S11, nI ne) := fun b hb => by
    unfold f_Par_addEdge
    rw [hb, e1, zbind2_e, e2, zbind2_e, e3, zbind2_e, e4, zbind2_e, l18]
  have rest : ∀ (S5 : zS) (nx' : Nat → Option Nat), (∀ k, k ∉ [17, 18, 19, 20, 21] → S5.1 k = S.1 k) → S5.1 18 = S4.1 18 → S5.1 20 = S4.1 20 → S5.1 21 = S4.1 21 → S5.1 17 = rowOf (tQ T) (fun q => oI (va_up lst p (l1 ++ ne :: l2) q).head?) → S5.1 19 = rowOf (ne + 1) (fun x => oI (nx' x)) → TRw S5 T nr sa (ne + 1) (va_up ep ne p) (va_up el ne l) (va_up lst p (l1 ++ ne :: l2)) (va_up al ne []) nx' nk ue := by
    intro S5 nx' g0 g18 g20 g21 g17 g19
    refine ⟨by rw [g0 13 (by decide)]; exact r13, by rw [g0 14 (by decide)]; exact r14, by rw [g0 15 (by decide)]; exact r15, by rw [g0 16 (by decide)]; exact r16, g17, by rw [g18]; exact k18, g19, by rw [g20]; exact k20, by rw [g21]; exact k21, by rw [g0 22 (by decide)]; exact r22, by rw [g0 23 (by decide)]; exact r23, by rw [g0 24 (by decide)]; exact r24, by rw [g0 25 (by decide)]; exact r25⟩
  rcases List.eq_nil_or_concat l1 with q | ⟨k, x, q⟩
  · subst q
    obtain ⟨S5, e5, m5, s5⟩ := zSet (S := S4) (k := 17) (i := p) (nI ne) m4.2.2 (by rw [k17, rowOf_len]; exact hp) (by rw [k17, rowOf_len]; omega)
    refine ⟨S5, va_up nx ne l2.head?, ?_, ⟨fun j hj => ?_, by rw [m5.2.1, kx], m5.2.2⟩, ?_, ?_⟩
    · have := start (-1) eA
      show f_Par_addEdge S (nI p) (-1) l = _
      rw [this, if_neg (by simp), zbind_e, e5]
    · have : j ≠ 17 := fun y => by subst y; simp at hj
      rw [m5.1 j (by simpa using this), kk j hj]
    · refine rest S5 (va_up nx ne l2.head?) (fun j hj => ?_) (m5.1 18 (by decide)) (m5.1 20 (by decide)) (m5.1 21 (by decide)) ?_ ?_
      · have : j ≠ 17 := fun y => by subst y; simp at hj
        rw [m5.1 j (by simpa using this), kk j hj]
      · rw [s5, k17, rowOf_set]
        refine rowOf_congr (fun i hi => ?_)
        by_cases y : i = p
        · subst y; rw [va_s, va_s]; rfl
        · rw [va_n y, va_n y]
      · rw [m5.1 19 (by decide), k19]
    · exact hei _ hmid (fun x hx hx' => va_n hx')
  · subst q
    rw [List.concat_eq_append] at *
    have hg' : (k ++ [x]).getLast? = some x := by simp
    have hg : lastB (-1) (k ++ [x]) = nI x := by unfold lastB; rw [hg']
    rw [hg'] at hmid
    rw [hg] at eA ⊢
    have hx : x < ne := (h1 x (by simp)).1
    obtain ⟨S5, e5, m5, s5⟩ := zSet (S := S4) (k := 19) (i := x) (nI ne) m4.2.2 (by rw [k19, rowOf_len]; omega) (by rw [k19, rowOf_len]; omega)
    refine ⟨S5, va_up (va_up nx ne l2.head?) x (some ne), ?_, ⟨fun j hj => ?_, by rw [m5.2.1, kx], m5.2.2⟩, ?_, ?_⟩
    · have := start (nI x) eA
      show f_Par_addEdge S (nI p) (nI x) l = _
      rw [this, if_pos (nI_m1 (by omega)), zbind_e, e5]
    · have : j ≠ 19 := fun y => by subst y; simp at hj
      rw [m5.1 j (by simpa using this), kk j hj]
    · refine rest S5 (va_up (va_up nx ne l2.head?) x (some ne)) (fun j hj => ?_) (m5.1 18 (by decide)) (m5.1 20 (by decide)) (m5.1 21 (by decide)) ?_ ?_
      · have : j ≠ 19 := fun y => by subst y; simp at hj
        rw [m5.1 j (by simpa using this), kk j hj]
      · rw [m5.1 17 (by decide), k17]
        refine rowOf_congr (fun i hi => ?_)
        by_cases y : i = p
        · subst y; rw [va_s, e]
          cases k with
          | nil => rfl
          | cons z k => rfl
        · rw [va_n y]
      · rw [s5, k19, rowOf_set]
        refine rowOf_congr (fun i hi => ?_)
        by_cases y : i = x
        · subst y; rw [va_s, va_s]; rfl
        · rw [va_n y, va_n y]
    · refine hei _ hmid (fun y hy hy' => ?_)
      rw [va_n (fun z => by subst z; exact hy (by simp)), va_n hy']
end PED
