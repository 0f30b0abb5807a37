-- PURE LAYER: the class's value without a rule: parts above a part, the least other number
def upF (T : Tr) (Q : Nat → Prop) : Nat → Nat → Nat → Prop
  | 0, _, _ => False
  | n + 1, u, c => u ≠ 0 ∧ Q (tU T u) ∧ (tU T u = c ∨ upF T Q n (tU T u) c)
/-- c lies above u, and all that lies from there down to u keeps to Q -/
def up (T : Tr) (Q : Nat → Prop) (u c : Nat) : Prop := upF T Q (u + 1) u c
def K4 (T : Tr) (x : Nat) : Prop := (tH T x).1 = 4
section PGA
variable {S : zS} {M : zM} {T : Tr} {nr : Nat} {sa : Nat → Nat} {nf : Nat} {fam : Nat → Nat} {bit : Nat → Int64} {np : Nat} {P : Nat → Pt} {nl : Nat} {fl : Nat → Nat × Nat} {ru : Nat → Nat} {ne : Nat} {ep : Nat → Nat} {el : Nat → Int32} {lst al : Nat → List Nat} {nx nk : Nat → Option Nat} {ue : Nat → Nat} {A : Am} {nE nN : Nat → Option Nat} {Q : Nat → Prop}
theorem upF_any (hT : TW T) : ∀ n m u c, u < tQ T → u < n → u < m → (upF T Q n u c ↔ upF T Q m u c) := by
  intro n
  induction n with
  | zero => intro m u c _ h; omega
  | succ n ih =>
    intro m u c hu h1 h2
    cases m with
    | zero => omega
    | succ m =>
      unfold upF
      by_cases e : u = 0
      · subst e; simp
      · have hup := hT.2.1 u (by omega) hu
        rw [ih m (tU T u) c (by omega) (by omega) (by omega)]
theorem up_0 {c : Nat} : ¬ up T Q 0 c := by unfold up upF; simp
theorem up_s (hT : TW T) {u c : Nat} (h1 : 1 ≤ u) (h2 : u < tQ T) : up T Q u c ↔ Q (tU T u) ∧ (tU T u = c ∨ up T Q (tU T u) c) := by
  have hu := hT.2.1 u h1 h2
  unfold up
  rw [upF, upF_any hT u (tU T u + 1) (tU T u) c (by omega) (by omega) (by omega)]
  constructor
  · exact fun h => h.2
  · exact fun h => ⟨by omega, h⟩
theorem up_lt (hT : TW T) : ∀ n u c, u < n → u < tQ T → up T Q u c → c < u := by
  intro n
  induction n with
  | zero => intro u c h; omega
  | succ n ih =>
    intro u c h hu hc
    by_cases e : u = 0
    · subst e; exact absurd hc up_0
    · have hup := hT.2.1 u (by omega) hu
      rcases ((up_s hT (by omega) hu).mp hc).2 with z | z
      · omega
      · have := ih (tU T u) c (by omega) (by omega) z
        omega
theorem up_Q (hT : TW T) : ∀ n u c, u < n → u < tQ T → up T Q u c → Q c := by
  intro n
  induction n with
  | zero => intro u c h; omega
  | succ n ih =>
    intro u c h hu hc
    by_cases e : u = 0
    · subst e; exact absurd hc up_0
    · have hup := hT.2.1 u (by omega) hu
      obtain ⟨a, z⟩ := (up_s hT (by omega) hu).mp hc
      rcases z with z | z
      · rw [← z]; exact a
      · exact ih (tU T u) c (by omega) (by omega) z
theorem up_imp (hT : TW T) {Q' : Nat → Prop} (hQ : ∀ x, Q x → Q' x) : ∀ n u c, u < n → u < tQ T → up T Q u c → up T Q' u c := by
  intro n
  induction n with
  | zero => intro u c h; omega
  | succ n ih =>
    intro u c h hu hc
    by_cases e : u = 0
    · subst e; exact absurd hc up_0
    · have hup := hT.2.1 u (by omega) hu
      obtain ⟨a, z⟩ := (up_s hT (by omega) hu).mp hc
      refine (up_s hT (by omega) hu).mpr ⟨hQ _ a, ?_⟩
      rcases z with z | z
      · exact Or.inl z
      · exact Or.inr (ih (tU T u) c (by omega) (by omega) z)
/-- the class marks the records above a part -/
theorem c_mark (hT : TW T) (hq : tQ T ≤ 16385) (hH : ∀ p, p < tQ T → (tH T p).1 ≤ 4) : ∀ (n u left : Nat) (S : zS) (s : Nat → Int32), okS S → TRw S T nr sa ne ep el lst al nx nk ue → u < tQ T → u ≤ left → left < 60000 → u < n → S.1 41 = rowOf (tQ T) s → ∃ S' s', f_Gap_tellBranch_L73 n S (if u = 0 then -1 else nI (tU T u)) (nI left) = some S' ∧ zLike [41] S S' ∧ S'.1 41 = rowOf (tQ T) s' ∧ ∀ c, c < tQ T → (up T (K4 T) u c → s' c = 4) ∧ (¬ up T (K4 T) u c → s' c = s c) := by
  intro n
  induction n with
  | zero => intro u left S s _ _ _ _ _ h; omega
  | succ n ih =>
    intro u left S s ho hR hu hl1 hl2 hn h41
    unfold f_Gap_tellBranch_L73
    have stop : (∀ c, ¬ up T (K4 T) u c) → ∃ S' s', some S = some S' ∧ zLike [41] S S' ∧ S'.1 41 = rowOf (tQ T) s' ∧ ∀ c, c < tQ T → (up T (K4 T) u c → s' c = 4) ∧ (¬ up T (K4 T) u c → s' c = s c) := fun h => ⟨S, s, rfl, zLike_rf ho, h41, fun c _ => ⟨fun z => absurd z (h c), fun _ => rfl⟩⟩
    by_cases c0 : u = 0
    · subst c0
      by_cases d : nI left ≤ 0
      · rw [if_pos d]; exact stop (fun c => up_0)
      · have : f_Par_shape S (-1) = -1 := by unfold f_Par_shape; rw [r_at_rd, rd_m1]
        rw [if_neg d, if_pos rfl, this, if_pos (by decide)]
        exact stop (fun c => up_0)
    · have hup := hT.2.1 u (by omega) hu
      have hHu := hH (tU T u) (by omega)
      have e13 : f_Par_shape S (nI (tU T u)) = nI (tH T (tU T u)).1 := by unfold f_Par_shape; rw [r_at_rd, hR.1, rowOf_rd (by omega) (by omega)]
      rw [if_neg (by (simp (disch := omega) only [nI_1, nI_add, Int32.lt_iff_toInt_lt, Int32.le_iff_toInt_le, ← Int32.toInt_inj, nI_toInt, tI_0, tI_1, tI_2, tI_3, tI_4, tI_m1, tI_m2, tI_m3, tI_m4, tI_64, tI_128, tI_255, tI_256, tI_1000, tI_1024, tI_4096, tI_10000, tI_16384, tI_16386, tI_M]; omega)), if_neg c0, e13]
      by_cases k4 : (tH T (tU T u)).1 = 4
      · rw [if_neg (by rw [k4]; decide), zbind_e]
        obtain ⟨S1, f1, l1, g1⟩ := zSet (S := S) (k := 41) (i := tU T u) 4 ho (by rw [h41, rowOf_len]; omega) (by rw [h41, rowOf_len]; omega)
        rw [f1]
        rw [h41, rowOf_set] at g1
        have hR1 := TRw_like hR l1 (by simp)
        have e15 : f_Par_upper S1 (nI (tU T u)) = if tU T u = 0 then -1 else nI (tU T (tU T u)) := by unfold f_Par_upper; rw [r_at_rd, hR1.2.2.1, rowOf_rd (by omega) (by omega)]
        rw [e15, zbind_e, sb_m1 (by omega)]
        obtain ⟨S2, s2, a1, a2, a3, a4⟩ := ih (tU T u) (left - 1) S1 _ l1.2.2 hR1 (by omega) (by omega) (by omega) (by omega) g1
        refine ⟨S2, s2, a1, zLike_tr l1 a2, a3, fun c hc => ⟨fun z => ?_, fun z => ?_⟩⟩
        · obtain ⟨_, z⟩ := (up_s hT (by omega) hu).mp z
          by_cases y : up T (K4 T) (tU T u) c
          · exact (a4 c hc).1 y
          · rcases z with z | z
            · rw [(a4 c hc).2 y, ← z, va_s]
            · exact absurd z y
        · have y1 : ¬ up T (K4 T) (tU T u) c := fun y => z ((up_s hT (by omega) hu).mpr ⟨k4, Or.inr y⟩)
          have y2 : c ≠ tU T u := fun y => z ((up_s hT (by omega) hu).mpr ⟨k4, Or.inl y.symm⟩)
          rw [(a4 c hc).2 y1, va_n y2]
      · rw [if_pos (by (simp (disch := omega) only [nI_1, nI_add, Int32.lt_iff_toInt_lt, Int32.le_iff_toInt_le, ← Int32.toInt_inj, nI_toInt, tI_0, tI_1, tI_2, tI_3, tI_4, tI_m1, tI_m2, tI_m3, tI_m4, tI_64, tI_128, tI_255, tI_256, tI_1000, tI_1024, tI_4096, tI_10000, tI_16384, tI_16386, tI_M]; omega))]
        exact stop (fun c z => k4 ((up_s hT (by omega) hu).mp z).1)
/-- the least number that no branch has -/
theorem c_least_L (hR18 : S.1 18 = rowOf ne el) (hne : ne < 65536) (hN : NRw S A nE nN) (hn : aN A ≤ 4096) (hEd : EdI A nE ne ep el) : ∀ (l : List Nat) (n c k : Nat) (l1 : List Int32), lkd nN l → (∀ w, w ∈ l → w < aN A) → (l1 ++ (l.map (aL A)).filterMap id).Pairwise (· < ·) → (nI k ∉ l1) → (∀ i, i < k → nI i ∈ l1) → l.length < n → l.length ≤ c → c < 65536 → k + l.length < 60000 → ∃ m, f_Gap_leastOther_L20 n S (nI k) (oI l.head?) (nI c) = some (nI m) ∧ nI m ∉ l1 ++ (l.map (aL A)).filterMap id ∧ (∀ i, i < m → nI i ∈ l1 ++ (l.map (aL A)).filterMap id) := by
  intro l
  induction l with
  | nil =>
    intro n c k l1 _ _ _ hk1 hk2 hn' _ _ _
    cases n with
    | zero => simp at hn'
    | succ n =>
      refine ⟨k, ?_, by simpa using hk1, by simpa using hk2⟩
      unfold f_Gap_leastOther_L20
      by_cases d : nI c ≤ 0
      · rw [if_pos d]
      · rw [if_neg d, if_pos (by rfl)]
  | cons w l ih =>
    intro n c k l1 hl hm hs hk1 hk2 hn' hc hc2 hkb
    cases n with
    | zero => simp at hn'
    | succ n =>
      have hw := hm w List.mem_cons_self
      have hc1 : 1 ≤ c := by simp at hc; omega
      obtain ⟨m1, m2⟩ := hEd w hw
      unfold f_Gap_leastOther_L20
      have e1 : oI (w :: l).head? = nI w := rfl
      have e31 : f_Nod_edge S (nI w) = oI (nE w) := by unfold f_Nod_edge; rw [r_at_rd, hN.2.2.2.2.1, rowOf_rd hw (by omega)]
      have e34 : f_Nod_nextBranch S (nI w) = oI l.head? := by unfold f_Nod_nextBranch; rw [r_at_rd, hN.2.2.2.2.2.2.2.1, rowOf_rd hw (by omega), hl.1]
      rw [if_neg (by (simp (disch := omega) only [nI_1, nI_add, Int32.lt_iff_toInt_lt, Int32.le_iff_toInt_le, ← Int32.toInt_inj, nI_toInt, tI_0, tI_1, tI_2, tI_3, tI_4, tI_m1, tI_m2, tI_m3, tI_m4, tI_64, tI_128, tI_255, tI_256, tI_1000, tI_1024, tI_4096, tI_10000, tI_16384, tI_16386, tI_M]; omega)), e1, if_neg (nI_m1 (by omega)), zbind_e, e31, e34, zbind_e, zbind_e, sb_m1 hc1]
      have hlen : (w :: l).length = l.length + 1 := rfl
      cases g : nE w with
      | none =>
        rw [g] at m1
        have m1 : none = aL A w := m1
        have ef : ((w :: l).map (aL A)).filterMap id = (l.map (aL A)).filterMap id := by rw [List.map_cons, ← m1]; rfl
        rw [ef] at hs ⊢
        rw [oI_n, if_pos rfl]
        exact ih n (c - 1) k l1 hl.2 (fun y hy => hm y (List.mem_cons_of_mem _ hy)) hs hk1 hk2 (by omega) (by omega) (by omega) (by omega)
      | some e =>
        obtain ⟨he, hep⟩ := m2 e g
        rw [g] at m1
        have m1 : some (el e) = aL A w := m1
        have ef : ((w :: l).map (aL A)).filterMap id = el e :: (l.map (aL A)).filterMap id := by rw [List.map_cons, ← m1]; rfl
        rw [ef] at hs ⊢
        have e18 : f_Par_label S (nI e) = el e := by unfold f_Par_label; rw [r_at_rd, hR18, rowOf_rd he (by omega)]
        have ea : l1 ++ el e :: (l.map (aL A)).filterMap id = (l1 ++ [el e]) ++ (l.map (aL A)).filterMap id := by simp
        rw [ea] at hs ⊢
        rw [oI_s, if_neg (nI_m1 (by omega)), e18]
        have hlt : ∀ x, x ∈ l1 → x < el e := fun x hx => by
          have := (List.pairwise_append.mp hs).1
          exact (List.pairwise_append.mp this).2.2 x hx (el e) (by simp)
        by_cases z : el e = nI k
        · rw [if_neg (by simp [z]), nI_1]
          refine ih n (c - 1) (k + 1) (l1 ++ [el e]) hl.2 (fun y hy => hm y (List.mem_cons_of_mem _ hy)) hs ?_ ?_ (by omega) (by omega) (by omega) (by omega)
          · intro y
            rcases List.mem_append.mp y with y | y
            · have := hlt _ y
              rw [z] at this
              have : ¬ nI (k + 1) < nI k := by (simp (disch := omega) only [nI_1, nI_add, Int32.lt_iff_toInt_lt, Int32.le_iff_toInt_le, ← Int32.toInt_inj, nI_toInt, tI_0, tI_1, tI_2, tI_3, tI_4, tI_m1, tI_m2, tI_m3, tI_m4, tI_64, tI_128, tI_255, tI_256, tI_1000, tI_1024, tI_4096, tI_10000, tI_16384, tI_16386, tI_M]; omega)
              contradiction
            · have y : nI (k + 1) = el e := by simpa using y
              rw [z] at y
              have := (nI_eq (by omega) (by omega)).mp y
              omega
          · intro i hi
            by_cases y : i = k
            · subst y; simp [z]
            · exact List.mem_append_left _ (hk2 i (by omega))
        · rw [if_pos z]
          refine ih n (c - 1) k (l1 ++ [el e]) hl.2 (fun y hy => hm y (List.mem_cons_of_mem _ hy)) hs ?_ (fun i hi => List.mem_append_left _ (hk2 i hi)) (by omega) (by omega) (by omega) (by omega)
          intro y
          rcases List.mem_append.mp y with y | y
          · exact hk1 y
          · have y : nI k = el e := by simpa using y
            exact z y.symm
theorem c_least (hF : SF nf fam bit np P nl fl T nr ru sa) (hR18 : S.1 18 = rowOf ne el) (hne : ne < 65536) (hN : NRw S A nE nN) (hKI : KI A nN) (hn : aN A ≤ 4096) (hEd : EdI A nE ne ep el) {v p : Nat} (hv : v < aN A) {ls : List Int32} {os : List (Option Int32)} (hk : kidOK T P nr fam A v p ls os) (hall : ∀ y, nuR T P (aO A v) p nr y → y ∈ ls) : ∃ m, f_Gap_leastOther S (nI v) = some (nI m) ∧ isLo (nuR T P (aO A v) p nr) m := by
  obtain ⟨k1, k2⟩ := hKI v hv
  have e32 : f_Nod_firstBranch S (nI v) = oI (aC A v).head? := by unfold f_Nod_firstBranch; rw [r_at_rd, hN.2.2.2.2.2.1, rowOf_rd hv (by omega)]
  have e27 : f_Nod_size S = nI (aN A) := by unfold f_Nod_size r_size; rw [hN.1, rowOf_len]
  have hlen : (aC A v).length ≤ aN A := nodup_len _ _ (lkd_nodup _ k1) (fun w hw => (k2 w hw).1)
  have ef : ((aC A v).map (aL A)).filterMap id = ls := by
    rw [hk.1, List.filterMap_append]
    have : List.filterMap id os = [] := by
      rcases hk.2.1 with o | o <;> rw [o] <;> rfl
    rw [this, List.append_nil, List.filterMap_map]
    simp
  unfold f_Gap_leastOther
  rw [zbind_e, zbind_e, e32, e27]
  obtain ⟨m, a1, a2, a3⟩ := c_least_L hR18 hne hN hn hEd (aC A v) zbig (aN A) 0 [] k1 (fun w hw => (k2 w hw).1) (by rw [ef]; exact hk.2.2.1) (by simp) (fun i hi => by omega) (by unfold zbig; omega) hlen (by omega) (by omega)
  rw [ef] at a2 a3
  exact ⟨m, a1, fun z => a2 (hall _ z), fun i hi => hk.2.2.2.1 _ (a3 i hi)⟩
end PGA
