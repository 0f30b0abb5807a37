-- PURE LAYER: the class's ruleOut, letIn, nextEdge; its nodes
section PRO
variable {S : zS} {T : Tr} {nr : Nat} {sa : Nat → Nat} {nf : Nat} {fam : Nat → Nat} {bit : Nat → Int64} {np : Nat} {P : Nat → Pt} {nl : Nat} {fl : Nat → Nat × Nat} {ru : Nat → Nat} {ne : Nat} {ep : Nat → Nat} {el : Nat → Int32} {lst al : Nat → List Nat} {nx nk : Nat → Option Nat} {ue : Nat → Nat}
theorem c_ruleOut_L (hF : SF nf fam bit np P nl fl T nr ru sa) (hE : EI T P ne ep el lst al nx nk ue) (hne : ne < 65536) {v : Nat} (hv : v < 100000) {tk : Option Nat} (htk : ∀ e, tk = some e → e < ne) : ∀ (l : List Nat) (n c : Nat) (S : zS) (ou : Nat → Option Nat), okS S → TRw S T nr sa ne ep el lst al nx nk ue → OU S nr ou → obd nr 100000 ou → lkd nx l → (∀ e, e ∈ l → e < ne) → l.length < n → l.length ≤ c → c < 65536 → ∃ S' ou', f_Grw_ruleOut_L25 n S (nI v) (oI tk) (oI l.head?) (nI c) = some S' ∧ zLike [37] S S' ∧ OU S' nr ou' ∧ chg (fun r => ∃ e, e ∈ l ∧ some e ≠ tk ∧ byE T al e r) none (some v) ou ou' := by
  intro l
  induction l with
  | nil =>
    intro n c S ou ho _ hO _ _ _ hn' _ _
    cases n with
    | zero => simp at hn'
    | succ n =>
      refine ⟨S, ou, ?_, zLike_rf ho, hO, chg_0 (fun r ⟨k, hk, _⟩ => by cases hk)⟩
      unfold f_Grw_ruleOut_L25
      by_cases d : nI c ≤ 0
      · rw [if_pos d]
      · rw [if_neg d, if_pos (by rfl)]
  | cons e l ih =>
    intro n c S ou ho hR hO hob hl hm hn' hc hc2
    cases n with
    | zero => simp at hn'
    | succ n =>
      have he := hm e List.mem_cons_self
      have hc1 : 1 ≤ c := by simp at hc; omega
      unfold f_Grw_ruleOut_L25
      have e1 : oI (e :: l).head? = nI e := rfl
      have r19 : S.1 19 = rowOf ne (fun e => oI (nx e)) := hR.2.2.2.2.2.2.1
      have en : ∀ S', zLike [37] S S' → f_Par_nextEdge S' (nI e) = oI l.head? := fun S' h => by unfold f_Par_nextEdge; rw [r_at_rd, h.1 19 (by decide), r19, rowOf_rd he (by omega), hl.1]
      rw [if_neg (by (simp (disch := omega) only [nI_1, nI_add, Int32.lt_iff_toInt_lt, Int32.le_iff_toInt_le, ← Int32.toInt_inj, nI_toInt, tI_0, tI_1, tI_2, tI_3, tI_4, tI_m1, tI_m2, tI_m3, tI_m4, tI_64, tI_128, tI_255, tI_256, tI_1000, tI_1024, tI_4096, tI_10000, tI_16384, tI_16386, tI_M]; omega)), e1, if_neg (nI_m1 (by omega))]
      have one : ∀ r, (∃ x, x ∈ e :: l ∧ some x ≠ tk ∧ byE T al x r) ↔ (some e ≠ tk ∧ byE T al e r) ∨ ∃ x, x ∈ l ∧ some x ≠ tk ∧ byE T al x r := fun r => by simp
      have hoe : nI e = oI tk ↔ some e = tk := oI_inj (x := some e) (fun v w => by cases w; omega) (fun v w => by have := htk v w; omega)
      by_cases q : some e = tk
      · rw [if_pos (hoe.mpr q), zbind_e, en S (zLike_rf ho), sb_m1 hc1]
        obtain ⟨S2, ou2, b1, b2, b3, b4⟩ := ih n (c - 1) S ou ho hR hO hob hl.2 (fun x hx => hm x (List.mem_cons_of_mem _ hx)) (by simp at hn'; omega) (by simp at hc; omega) (by omega)
        refine ⟨S2, ou2, b1, b2, b3, chg_congr b4 (fun r => ?_)⟩
        rw [one r]; simp [q]
      · rw [if_neg (fun w => q (hoe.mp w))]
        obtain ⟨S1, ou1, a1, a2, a3, a4⟩ := c_changeOuts hF ho hR hE hne hO hob (fr := none) (to := some v) (by simp) (fun v w => by cases w) (fun x w => by cases w; exact hv) he
        have a1' : f_Grw_changeOuts S (nI e) (-1) (nI v) = some S1 := a1
        rw [a1', zob_s, zbind_e, en S1 a2, sb_m1 hc1]
        obtain ⟨S2, ou2, b1, b2, b3, b4⟩ := ih n (c - 1) S1 ou1 a2.2.2 (TRw_like hR a2 (by simp)) a3 (chg_bd a4 hob (fun x w => by cases w; exact hv)) hl.2 (fun x hx => hm x (List.mem_cons_of_mem _ hx)) (by simp at hn'; omega) (by simp at hc; omega) (by omega)
        refine ⟨S2, ou2, b1, zLike_tr a2 b2, b3, chg_congr (chg_tr (by simp) a4 b4) (fun r => ?_)⟩
        rw [one r]; simp [q]
theorem c_letIn_L (hF : SF nf fam bit np P nl fl T nr ru sa) (hE : EI T P ne ep el lst al nx nk ue) (hne : ne < 65536) {v : Nat} (hv : v < 100000) : ∀ (l : List Nat) (n c : Nat) (S : zS) (ou : Nat → Option Nat), okS S → TRw S T nr sa ne ep el lst al nx nk ue → OU S nr ou → obd nr 100000 ou → lkd nx l → (∀ e, e ∈ l → e < ne) → l.length < n → l.length ≤ c → c < 65536 → ∃ S' ou', f_Grw_letIn_L24 n S (nI v) (oI l.head?) (nI c) = some S' ∧ zLike [37] S S' ∧ OU S' nr ou' ∧ chg (fun r => ∃ e, e ∈ l ∧ byE T al e r) (some v) none ou ou' := by
  intro l
  induction l with
  | nil =>
    intro n c S ou ho _ hO _ _ _ hn' _ _
    cases n with
    | zero => simp at hn'
    | succ n =>
      refine ⟨S, ou, ?_, zLike_rf ho, hO, chg_0 (fun r ⟨k, hk, _⟩ => by cases hk)⟩
      unfold f_Grw_letIn_L24
      by_cases d : nI c ≤ 0
      · rw [if_pos d]
      · rw [if_neg d, if_pos (by rfl)]
  | cons e l ih =>
    intro n c S ou ho hR hO hob hl hm hn' hc hc2
    cases n with
    | zero => simp at hn'
    | succ n =>
      have he := hm e List.mem_cons_self
      have hc1 : 1 ≤ c := by simp at hc; omega
      unfold f_Grw_letIn_L24
      have e1 : oI (e :: l).head? = nI e := rfl
      have r19 : S.1 19 = rowOf ne (fun e => oI (nx e)) := hR.2.2.2.2.2.2.1
      have en : ∀ S', zLike [37] S S' → f_Par_nextEdge S' (nI e) = oI l.head? := fun S' h => by unfold f_Par_nextEdge; rw [r_at_rd, h.1 19 (by decide), r19, rowOf_rd he (by omega), hl.1]
      rw [if_neg (by (simp (disch := omega) only [nI_1, nI_add, Int32.lt_iff_toInt_lt, Int32.le_iff_toInt_le, ← Int32.toInt_inj, nI_toInt, tI_0, tI_1, tI_2, tI_3, tI_4, tI_m1, tI_m2, tI_m3, tI_m4, tI_64, tI_128, tI_255, tI_256, tI_1000, tI_1024, tI_4096, tI_10000, tI_16384, tI_16386, tI_M]; omega)), e1, if_neg (nI_m1 (by omega))]
      have one : ∀ r, (∃ x, x ∈ e :: l ∧ byE T al x r) ↔ byE T al e r ∨ ∃ x, x ∈ l ∧ byE T al x r := fun r => by simp
      obtain ⟨S1, ou1, a1, a2, a3, a4⟩ := c_changeOuts hF ho hR hE hne hO hob (fr := some v) (to := none) (by simp) (fun x w => by cases w; exact hv) (fun v w => by cases w) he
      have a1' : f_Grw_changeOuts S (nI e) (nI v) (-1) = some S1 := a1
      rw [a1', zob_s, zbind_e, en S1 a2, sb_m1 hc1]
      obtain ⟨S2, ou2, b1, b2, b3, b4⟩ := ih n (c - 1) S1 ou1 a2.2.2 (TRw_like hR a2 (by simp)) a3 (chg_bd a4 hob (fun v w => by cases w)) hl.2 (fun x hx => hm x (List.mem_cons_of_mem _ hx)) (by simp at hn'; omega) (by simp at hc; omega) (by omega)
      refine ⟨S2, ou2, b1, zLike_tr a2 b2, b3, chg_congr (chg_tr (by simp) a4 b4) (fun r => ?_)⟩
      rw [one r]
/-- some edge of a part by which a rule asks -/
theorem anyE_iff (hF : SF nf fam bit np P nl fl T nr ru sa) (hE : EI T P ne ep el lst al nx nk ue) {p : Nat} (hp : p < tQ T) {tk : Option Nat} (htk : ∀ e, tk = some e → e < ne ∧ ep e = p) (r : Nat) : (∃ e, e ∈ lst p ∧ some e ≠ tk ∧ byE T al e r) ↔ ∃ q, ak T r p = some q ∧ tk.map el ≠ some (pM (P q)) := by
  have hmem := (hE.1 p hp).2.1
  constructor
  · intro ⟨e, h1, h2, h3⟩
    obtain ⟨he, hep⟩ := (hmem e).mp h1
    obtain ⟨q, a, b⟩ := (byE_iff hF hE he).mp h3
    rw [hep] at a
    refine ⟨q, a, fun w => ?_⟩
    cases tk with
    | none => cases w
    | some x =>
      have w : el x = pM (P q) := by simpa using w
      obtain ⟨hx, hxp⟩ := htk x rfl
      exact h2 (by rw [EI_uni hE he hx (by rw [hep, hxp]) (by rw [w, b])])
  · intro ⟨q, h1, h2⟩
    obtain ⟨j, a, b⟩ := ak_ok h1
    obtain ⟨e, c1, c2, c3⟩ := hE.2.2.2 j a
    rw [b] at c2 c3
    have c2 : ep e = p := c2
    have c3 : el e = pM (P q) := c3
    refine ⟨e, (hmem e).mpr ⟨c1, c2⟩, fun w => ?_, (byE_iff hF hE c1).mpr ⟨q, by rw [c2]; exact h1, c3.symm⟩⟩
    rw [← w] at h2
    exact h2 (by simp [c3])
theorem c_ruleOut (hF : SF nf fam bit np P nl fl T nr ru sa) (ho : okS S) (hR : TRw S T nr sa ne ep el lst al nx nk ue) (hE : EI T P ne ep el lst al nx nk ue) (hne : ne < 65536) {ou : Nat → Option Nat} (hO : OU S nr ou) (hob : obd nr 100000 ou) {v p : Nat} (hv : v < 100000) (hp : p < tQ T) (h27 : f_Nod_part S (nI v) = nI p) {tk : Option Nat} (htk : ∀ e, tk = some e → e < ne ∧ ep e = p) : ∃ S' ou', f_Grw_ruleOut S (nI v) (oI tk) = some S' ∧ zLike [37] S S' ∧ OU S' nr ou' ∧ chg (fun r => ∃ q, ak T r p = some q ∧ tk.map el ≠ some (pM (P q))) none (some v) ou ou' := by
  have hq := hF.2.2.2.2.2.1
  have r17 : S.1 17 = rowOf (tQ T) (fun p => oI (lst p).head?) := hR.2.2.2.2.1
  have r18 : S.1 18 = rowOf ne el := hR.2.2.2.2.2.1
  have e1 : f_Par_firstEdge S (nI p) = oI (lst p).head? := by unfold f_Par_firstEdge; rw [r_at_rd, r17, rowOf_rd hp (by omega)]
  have e2 : f_Par_edges S = nI ne := by unfold f_Par_edges r_size; rw [r18, rowOf_len]
  have hlen := EI_len hE hp
  unfold f_Grw_ruleOut
  rw [zbind_e, zbind_e, h27, e1, e2]
  obtain ⟨S', ou', a1, a2, a3, a4⟩ := c_ruleOut_L hF hE hne hv (tk := tk) (fun e w => (htk e w).1) (lst p) zbig ne S ou ho hR hO hob (hE.1 p hp).1 (fun e he => (((hE.1 p hp).2.1 e).mp he).1) (by unfold zbig; omega) hlen hne
  exact ⟨S', ou', a1, a2, a3, chg_congr a4 (anyE_iff hF hE hp htk)⟩
theorem c_letIn (hF : SF nf fam bit np P nl fl T nr ru sa) (ho : okS S) (hR : TRw S T nr sa ne ep el lst al nx nk ue) (hE : EI T P ne ep el lst al nx nk ue) (hne : ne < 65536) {ou : Nat → Option Nat} (hO : OU S nr ou) (hob : obd nr 100000 ou) {v p : Nat} (hv : v < 100000) (hp : p < tQ T) (h27 : f_Nod_part S (nI v) = nI p) : ∃ S' ou', f_Grw_letIn S (nI v) = some S' ∧ zLike [37] S S' ∧ OU S' nr ou' ∧ chg (fun r => ∃ q, ak T r p = some q) (some v) none ou ou' := by
  have hq := hF.2.2.2.2.2.1
  have r17 : S.1 17 = rowOf (tQ T) (fun p => oI (lst p).head?) := hR.2.2.2.2.1
  have r18 : S.1 18 = rowOf ne el := hR.2.2.2.2.2.1
  have e1 : f_Par_firstEdge S (nI p) = oI (lst p).head? := by unfold f_Par_firstEdge; rw [r_at_rd, r17, rowOf_rd hp (by omega)]
  have e2 : f_Par_edges S = nI ne := by unfold f_Par_edges r_size; rw [r18, rowOf_len]
  have hlen := EI_len hE hp
  unfold f_Grw_letIn
  rw [zbind_e, zbind_e, h27, e1, e2]
  obtain ⟨S', ou', a1, a2, a3, a4⟩ := c_letIn_L hF hE hne hv (lst p) zbig ne S ou ho hR hO hob (hE.1 p hp).1 (fun e he => (((hE.1 p hp).2.1 e).mp he).1) (by unfold zbig; omega) hlen hne
  refine ⟨S', ou', a1, a2, a3, chg_congr a4 (fun r => ?_)⟩
  have := anyE_iff hF hE hp (tk := none) (fun e w => by cases w) r
  constructor
  · intro ⟨e, h1, h2⟩
    obtain ⟨q, h3, _⟩ := this.mp ⟨e, h1, by simp, h2⟩
    exact ⟨q, h3⟩
  · intro ⟨q, h1⟩
    obtain ⟨e, h2, _, h3⟩ := this.mpr ⟨q, h1, by simp⟩
    exact ⟨e, h2, h3⟩
/-- the next edge after the last, by the labels -/
theorem c_nextEdge_from (hF : SF nf fam bit np P nl fl T nr ru sa) (hR : TRw S T nr sa ne ep el lst al nx nk ue) (hE : EI T P ne ep el lst al nx nk ue) (hne : ne < 65536) {ou : Nat → Option Nat} (hO : OU S nr ou) (hob : obd nr 100000 ou) {p : Nat} (hp : p < tQ T) {l1 l2 : List Nat} (hl : lst p = l1 ++ l2) {last : Option Int32} (hlast : ∀ e, e ∈ l1 → ¬ aft last (el e)) (hlast2 : ∀ e, e ∈ l2 → aft last (el e)) : ∃ o, f_Grw_nextEdge_L57 zbig S (oI l2.head?) (nI ne) = some (oI o) ∧ isNx (nuR T P (fun r => decide (ou r = none)) p nr) last (o.map el) ∧ ∀ e, o = some e → e < ne ∧ ep e = p := by
  have hmem := (hE.1 p hp).2.1
  have hlk := (hE.1 p hp).1
  have hpw := (hE.1 p hp).2.2
  have hlen := EI_len hE hp
  rw [hl] at hlk hpw hlen
  have m2 : ∀ e, e ∈ l2 → e < ne ∧ ep e = p := fun e he => (hmem e).mp (by rw [hl]; exact List.mem_append_right _ he)
  -- every number has an edge
  have has : ∀ y, nuR T P (fun r => decide (ou r = none)) p nr y → ∃ e, e ∈ l1 ++ l2 ∧ el e = y := fun y hy => by
    obtain ⟨r, q, h1, h2, h3, h4⟩ := hy
    obtain ⟨j, a, b⟩ := ak_ok h3
    obtain ⟨e, c1, c2, c3⟩ := hE.2.2.2 j a
    rw [b] at c2 c3
    exact ⟨e, by rw [← hl]; exact (hmem e).mpr ⟨c1, c2⟩, by rw [c3]; exact h4⟩
  rcases c_nextEdge_L hF hR hE hne hO hob l2 zbig ne (lkd_app hlk) m2 (by unfold zbig; simp at hlen; omega) (by simp at hlen; omega) hne with ⟨a, b⟩ | ⟨k1, e, k2, b1, b2, b3, b4⟩
  · refine ⟨none, a, fun y hy ha => ?_, (by intro e w; cases w)⟩
    obtain ⟨e, h1, h2⟩ := has y hy
    rcases List.mem_append.mp h1 with w | w
    · exact hlast e w (by rw [h2]; exact ha)
    · exact b e w (by rw [h2]; exact hy)
  · refine ⟨some e, b2, ⟨b3, hlast2 e (by rw [b1]; simp), fun y hy ha => ?_⟩, fun x w => by cases w; exact m2 e (by rw [b1]; simp)⟩
    obtain ⟨x, h1, h2⟩ := has y hy
    have hpw2 := (List.pairwise_append.mp hpw).2.1
    rw [b1] at hpw2
    have h3 := (List.pairwise_append.mp hpw2).2.1
    rcases List.mem_append.mp h1 with w | w
    · exact absurd (by rw [h2]; exact ha) (hlast x w)
    · rw [b1] at w
      rcases List.mem_append.mp w with w | w
      · exact absurd (by rw [h2]; exact hy) (b4 x w)
      · rcases List.mem_cons.mp w with w | w
        · rw [w] at h2; rw [← h2, Int32.le_iff_toInt_le]; omega
        · have := (List.pairwise_cons.mp h3).1 x w
          rw [h2, Int32.lt_iff_toInt_lt] at this
          rw [Int32.le_iff_toInt_le]; omega
end PRO
