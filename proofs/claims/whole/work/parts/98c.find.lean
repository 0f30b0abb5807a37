-- PURE LAYER: the class's value without a rule: found
/-- what is told of a branch -/
def nlab (T : Tr) (P : Nat → Pt) (nr : Nat) (A : Am) (u p x : Nat) (y : Int32) : Prop := (∀ z, aL A x = some z → y = z) ∧ (aL A x = none → ∃ n, y = nI n ∧ isLo (nuR T P (aO A u) p nr) n)
/-- a way from the root -/
def PA (A : Am) (D : Nat) (an pp : Nat → Nat) : Prop := an 0 = 0 ∧ (∀ i, i ≤ D → an i < aN A) ∧ ∀ i, i < D → aU A (an (i + 1)) = some (an i) ∧ aP A (an i) = some (pp i)
section PFI
variable {S : zS} {M : zM} {T : Tr} {nr : Nat} {sa : Nat → Nat} {nf : Nat} {fam : Nat → Nat} {bit : Nat → Int64} {np : Nat} {P : Nat → Pt} {nl : Nat} {fl : Nat → Nat × Nat} {ru : Nat → Nat} {ne : Nat} {ep : Nat → Nat} {el : Nat → Int32} {lst al : Nat → List Nat} {nx nk : Nat → Option Nat} {ue : Nat → Nat} {A : Am} {nE nN : Nat → Option Nat} {D : Nat} {an pp : Nat → Nat}
theorem nlab_one {u p x : Nat} {y y' : Int32} (h : nlab T P nr A u p x y) (h' : nlab T P nr A u p x y') : y = y' := by
  cases g : aL A x with
  | none =>
    obtain ⟨n, e1, e2⟩ := h.2 g
    obtain ⟨n', e1', e2'⟩ := h'.2 g
    rw [e1, e1', isLo_one e2 e2']
  | some z => rw [h.1 z g, h'.1 z g]
theorem miss_PA (hT : TI T P nr sa fam A) {m : Nat} (hm : m < aN A) (h : missW M T P nr A m an) : ∃ pp, PA A (aD A m) an pp ∧ ∀ i, i < aD A m → M.1 29 i = nI (pp i) ∧ nlab T P nr A (an i) (pp i) (an (i + 1)) (M.1 30 i) := by
  obtain ⟨h0, h1⟩ := h
  have hn : ∀ i, i ≤ aD A m → an i < aN A := fun i hi => by
    by_cases e : i = aD A m
    · rw [e, h0]; exact hm
    · exact (h1 i (by omega)).1
  have hdep : ∀ j, j ≤ aD A m → aD A (an (aD A m - j)) = aD A m - j := by
    intro j
    induction j with
    | zero => intro _; rw [Nat.sub_zero, h0]
    | succ j ih =>
      intro hj
      have := ih (by omega)
      obtain ⟨a1, a2, a3, a4⟩ := h1 (aD A m - (j + 1)) (by omega)
      have e : aD A m - (j + 1) + 1 = aD A m - j := by omega
      rw [e] at a2 a3
      have nz : an (aD A m - j) ≠ 0 := fun z => by
        rw [z, hT.1.2.1] at a3; cases a3
      obtain ⟨u, p, b1, b2, b3, b4, b5, b6, b7⟩ := hT.2.1 _ (show 1 ≤ an (aD A m - j) by omega) a2
      rw [a3] at b2; cases b2
      omega
  have h00 : an 0 = 0 := by
    have := hdep (aD A m) (Nat.le_refl _)
    rw [Nat.sub_self] at this
    by_cases z : an 0 = 0
    · exact z
    · obtain ⟨u, p, b1, b2, b3, b4, b5, b6, b7⟩ := hT.2.1 (an 0) (by omega) (hn 0 (by omega))
      omega
  refine ⟨fun i => (aP A (an i)).getD 0, ⟨h00, hn, fun i hi => ?_⟩, fun i hi => ?_⟩
  · obtain ⟨a1, a2, a3, p, a4, _⟩ := h1 i hi
    refine ⟨a3, ?_⟩
    show aP A (an i) = some ((aP A (an i)).getD 0)
    rw [a4]; rfl
  · obtain ⟨a1, a2, a3, p, a4, a5, a6, a7⟩ := h1 i hi
    show M.1 29 i = nI ((aP A (an i)).getD 0) ∧ nlab T P nr A (an i) ((aP A (an i)).getD 0) (an (i + 1)) (M.1 30 i)
    rw [a4]
    exact ⟨a5, fun z e => a6 z e, a7⟩
theorem PA_up (hT : TI T P nr sa fam A) (h : PA A D an pp) {i : Nat} (hi : i < D) : 1 ≤ an (i + 1) ∧ upOK T P nr A (an (i + 1)) ∧ aW A (an (i + 1)) = pp i :: aW A (an i) := by
  obtain ⟨a1, a2⟩ := h.2.2 i hi
  have nz : an (i + 1) ≠ 0 := fun z => by
    rw [z, hT.1.2.1] at a1; cases a1
  have b := hT.2.1 _ (show 1 ≤ an (i + 1) by omega) (h.2.1 (i + 1) (by omega))
  refine ⟨by omega, b, ?_⟩
  obtain ⟨u, p, b1, b2, b3, b4, b5, b6, b7⟩ := b
  rw [a1] at b2; cases b2
  rw [a2] at b3; cases b3
  exact b5
theorem PA_W (hT : TI T P nr sa fam A) (h : PA A D an pp) : ∀ i, i ≤ D → ∀ c, c ∈ aW A (an i) ↔ ∃ j, j < i ∧ pp j = c := by
  intro i
  induction i with
  | zero =>
    intro _ c
    rw [h.1, hT.1.2.2.2.1]
    constructor
    · intro z; cases z
    · rintro ⟨j, j1, _⟩; omega
  | succ i ih =>
    intro hi c
    rw [(PA_up hT h (by omega)).2.2, List.mem_cons, ih (by omega) c]
    constructor
    · rintro (z | ⟨j, j1, j2⟩)
      · exact ⟨i, by omega, z.symm⟩
      · exact ⟨j, by omega, j2⟩
    · rintro ⟨j, j1, j2⟩
      by_cases e : j = i
      · subst e; exact Or.inl j2.symm
      · exact Or.inr ⟨j, by omega, j2⟩
theorem PA_ne (hF : SF nf fam bit np P nl fl T nr ru sa) (hT : TI T P nr sa fam A) (h : PA A D an pp) {i j : Nat} (hij : i < j) (hj : j < D) : pp i ≠ pp j := fun e => by
  have h1 := (look_part hF hT (h.2.1 j (by omega)) (h.2.2 j hj).2).2
  exact h1 ((PA_W hT h j (by omega) _).mpr ⟨i, hij, e⟩)
theorem PA_part (hF : SF nf fam bit np P nl fl T nr ru sa) (hT : TI T P nr sa fam A) (h : PA A D an pp) {i : Nat} (hi : i < D) : pp i < tQ T ∧ 1 ≤ (tH T (pp i)).1 ∧ (tH T (pp i)).1 ≤ 3 := by
  have hn := h.2.1 i (by omega)
  have hp := (h.2.2 i hi).2
  obtain ⟨q, b1, b2, b3, b4⟩ := part_kind hF hT hn hp
  exact ⟨(look_part hF hT hn hp).1, by rw [b4]; exact b2, by rw [b4]; exact b3⟩
/-- the class tells a branch -/
theorem c_tellBr (hF : SF nf fam bit np P nl fl T nr ru sa) (hne : ne < 65536) (hT : TI T P nr sa fam A) (hD : ∀ v, v < aN A → doneV T P nr fam A v) (hKI : KI A nN) (hEd : EdI A nE ne ep el) (hn : aN A ≤ 4096) (ho : okS S) (hR : TRw S T nr sa ne ep el lst al nx nk ue) (hN : NRw S A nE nN) {u p w : Nat} (hu : u < aN A) (hw : w < aN A) (hp : aP A u = some p) {s1 s2 : Nat → Int32} (h41 : S.1 41 = rowOf (tQ T) s1) (h42 : S.1 42 = rowOf (tQ T) s2) : ∃ S' s1' y, f_Gap_tellBranch S (nI u) (oI (nE w)) = some S' ∧ zLike [41, 42] S S' ∧ S'.1 41 = rowOf (tQ T) s1' ∧ S'.1 42 = rowOf (tQ T) (va_up s2 p y) ∧ nlab T P nr A u p w y ∧ s1' p = nI (tH T p).1 ∧ ∀ c, c < tQ T → c ≠ p → (up T (K4 T) p c → s1' c = 4) ∧ (¬ up T (K4 T) p c → s1' c = s1 c) := by
  have hq := hF.2.2.2.2.2.1
  have hTW := hF.2.1.1
  obtain ⟨hpQ, _⟩ := look_part hF hT hu hp
  have e27 : f_Nod_part S (nI u) = nI p := by unfold f_Nod_part; rw [r_at_rd, hN.1, rowOf_rd hu (by omega), hp]; rfl
  have e13 : f_Par_shape S (nI p) = nI (tH T p).1 := by unfold f_Par_shape; rw [r_at_rd, hR.1, rowOf_rd hpQ (by omega)]
  unfold f_Gap_tellBranch
  rw [zbind_e, e27, e13, zbind_e]
  obtain ⟨S1, f1, l1, g1⟩ := zSet (S := S) (k := 41) (i := p) (nI (tH T p).1) ho (by rw [h41, rowOf_len]; omega) (by rw [h41, rowOf_len]; omega)
  rw [f1]
  rw [h41, rowOf_set] at g1
  have hR1 := TRw_like hR l1 (by simp)
  have hN1 : NRw S1 A nE nN := NRw_like (ks := []) hN (fun k h1 h2 => l1.1 k (by simp; omega))
  have h421 : S1.1 42 = rowOf (tQ T) s2 := by rw [l1.1 42 (by simp)]; exact h42
  -- what stands behind the mark
  have tail : ∀ y0, nlab T P nr A u p w y0 → ∃ S' s1' y, (zbind (r_set S1 42 (nI p) y0) fun S4 => zbind (f_Par_upper S4 (nI p)) fun v5 => zbind (f_Par_size S4) fun v6 => f_Gap_tellBranch_L73 zbig S4 v5 v6) = some S' ∧ zLike [41, 42] S S' ∧ S'.1 41 = rowOf (tQ T) s1' ∧ S'.1 42 = rowOf (tQ T) (va_up s2 p y) ∧ nlab T P nr A u p w y ∧ s1' p = nI (tH T p).1 ∧ ∀ c, c < tQ T → c ≠ p → (up T (K4 T) p c → s1' c = 4) ∧ (¬ up T (K4 T) p c → s1' c = s1 c) := by
    intro y hy
    obtain ⟨S2, f2, l2, g2⟩ := zSet (S := S1) (k := 42) (i := p) y l1.2.2 (by rw [h421, rowOf_len]; omega) (by rw [h421, rowOf_len]; omega)
    rw [h421, rowOf_set] at g2
    rw [f2, zbind_e]
    have hR2 := TRw_like hR1 l2 (by simp)
    have e15 : f_Par_upper S2 (nI p) = if p = 0 then -1 else nI (tU T p) := by unfold f_Par_upper; rw [r_at_rd, hR2.2.2.1, rowOf_rd hpQ (by omega)]
    have e13s : f_Par_size S2 = nI (tQ T) := by unfold f_Par_size r_size; rw [hR2.1, rowOf_len]
    rw [e15, zbind_e, e13s, zbind_e]
    have g12 : S2.1 41 = rowOf (tQ T) (va_up s1 p (nI (tH T p).1)) := by rw [l2.1 41 (by simp)]; exact g1
    obtain ⟨S3, s3, a1, a2, a3, a4⟩ := c_mark hTW hq (fun p hp => SF_H hF hp) zbig p (tQ T) S2 _ l2.2.2 hR2 hpQ (by omega) (by omega) (by unfold zbig; omega) g12
    refine ⟨S3, s3, y, a1, zLike_tr (zLike_tr (zLike_mono l1 (by simp)) (zLike_mono l2 (by simp))) (zLike_mono a2 (by simp)), a3, by rw [a2.1 42 (by simp)]; exact g2, hy, ?_, fun c hc hcp => ⟨(a4 c hc).1, fun z => ?_⟩⟩
    · have nu : ¬ up T (K4 T) p p := fun z => by have := up_lt hTW (p + 1) p p (by omega) hpQ z; omega
      rw [(a4 p hpQ).2 nu, va_s]
    · rw [(a4 c hc).2 z, va_n hcp]
  obtain ⟨m1, m2⟩ := hEd w hw
  cases g : nE w with
  | none =>
    rw [g] at m1
    have m1 : none = aL A w := m1
    rw [oI_n, if_neg (by simp)]
    obtain ⟨ls, os, k1, k2, k3⟩ := hD u hu p hp
    obtain ⟨n, b1, b2⟩ := c_least (S := S1) hF hR1.2.2.2.2.2.1 hne hN1 hKI hn hEd hu k1 k2
    rw [b1, zob_s]
    exact tail (nI n) ⟨(by intro z e; rw [← m1] at e; cases e), fun _ => ⟨n, rfl, b2⟩⟩
  | some e =>
    rw [g] at m1
    have m1 : some (el e) = aL A w := m1
    have he := (m2 e g).1
    rw [oI_s, if_pos (nI_m1 (by omega))]
    have e18 : f_Par_label S1 (nI e) = el e := by unfold f_Par_label; rw [r_at_rd, hR1.2.2.2.2.2.1, rowOf_rd he (by omega)]
    rw [e18]
    exact tail (el e) ⟨(by intro z e'; rw [← m1] at e'; exact Option.some.inj e'), (by intro e'; rw [← m1] at e'; cases e')⟩
theorem c_find_L (hF : SF nf fam bit np P nl fl T nr ru sa) (hne : ne < 65536) (hT : TI T P nr sa fam A) (hD : ∀ v, v < aN A → doneV T P nr fam A v) (hKI : KI A nN) (hEd : EdI A nE ne ep el) (hn : aN A ≤ 4096) (hPA : PA A D an pp) : ∀ (i n left : Nat) (S : zS) (s1 s2 : Nat → Int32), i ≤ D → i < n → i < left → left < 60000 → okS S → TRw S T nr sa ne ep el lst al nx nk ue → NRw S A nE nN → S.1 41 = rowOf (tQ T) s1 → S.1 42 = rowOf (tQ T) s2 → ∃ S' s1' s2', f_Gap_find_L55 n S (nI (an i)) (nI left) = some S' ∧ zLike [41, 42] S S' ∧ S'.1 41 = rowOf (tQ T) s1' ∧ S'.1 42 = rowOf (tQ T) s2' ∧ (∀ j, j < i → s1' (pp j) = nI (tH T (pp j)).1 ∧ nlab T P nr A (an j) (pp j) (an (j + 1)) (s2' (pp j))) ∧ ∀ c, c < tQ T → (∀ j, j < i → pp j ≠ c) → s2' c = s2 c ∧ ((∃ j, j < i ∧ up T (K4 T) (pp j) c) → s1' c = 4) ∧ ((∀ j, j < i → ¬ up T (K4 T) (pp j) c) → s1' c = s1 c) := by
  have hTW := hF.2.1.1
  intro i
  induction i with
  | zero =>
    intro n left S s1 s2 _ hn' hl1 hl2 ho hR hN h41 h42
    cases n with
    | zero => omega
    | succ n =>
      have e30 : f_Nod_upper S (nI (an 0)) = -1 := by
        unfold f_Nod_upper; rw [r_at_rd, hN.2.2.2.1, rowOf_rd (hPA.2.1 0 (by omega)) (by omega), hPA.1, hT.1.2.1]; rfl
      unfold f_Gap_find_L55
      rw [if_neg (by (simp (disch := omega) only [nI_1, nI_add, Int32.lt_iff_toInt_lt, Int32.le_iff_toInt_le, ← Int32.toInt_inj, nI_toInt, tI_0, tI_1, tI_2, tI_3, tI_4, tI_m1, tI_m2, tI_m3, tI_m4, tI_64, tI_128, tI_255, tI_256, tI_1000, tI_1024, tI_4096, tI_10000, tI_16384, tI_16386, tI_M]; omega)), e30, if_pos rfl]
      exact ⟨S, s1, s2, rfl, zLike_rf ho, h41, h42, fun j hj => by omega, fun c _ _ => ⟨rfl, fun ⟨j, hj, _⟩ => by omega, fun _ => rfl⟩⟩
  | succ i ih =>
    intro n left S s1 s2 hi hn' hl1 hl2 ho hR hN h41 h42
    cases n with
    | zero => omega
    | succ n =>
      obtain ⟨a1, a2⟩ := hPA.2.2 i (by omega)
      have b1 := hPA.2.1 i (by omega)
      have b2 := hPA.2.1 (i + 1) (by omega)
      have e30 : f_Nod_upper S (nI (an (i + 1))) = nI (an i) := by
        unfold f_Nod_upper; rw [r_at_rd, hN.2.2.2.1, rowOf_rd b2 (by omega), a1]; rfl
      have e31 : f_Nod_edge S (nI (an (i + 1))) = oI (nE (an (i + 1))) := by unfold f_Nod_edge; rw [r_at_rd, hN.2.2.2.2.1, rowOf_rd b2 (by omega)]
      unfold f_Gap_find_L55
      rw [if_neg (by (simp (disch := omega) only [nI_1, nI_add, Int32.lt_iff_toInt_lt, Int32.le_iff_toInt_le, ← Int32.toInt_inj, nI_toInt, tI_0, tI_1, tI_2, tI_3, tI_4, tI_m1, tI_m2, tI_m3, tI_m4, tI_64, tI_128, tI_255, tI_256, tI_1000, tI_1024, tI_4096, tI_10000, tI_16384, tI_16386, tI_M]; omega)), e30, e31, if_neg (nI_m1 (by omega))]
      obtain ⟨S1, t1, y, c1, c2, c3, c4, c5, c6, c7⟩ := c_tellBr hF hne hT hD hKI hEd hn ho hR hN b1 b2 a2 h41 h42
      have hR1 := TRw_like hR c2 (by simp)
      have hN1 : NRw S1 A nE nN := NRw_like (ks := []) hN (fun k h1 h2 => c2.1 k (by simp; omega))
      have e301 : f_Nod_upper S1 (nI (an (i + 1))) = nI (an i) := by
        unfold f_Nod_upper; rw [r_at_rd, hN1.2.2.2.1, rowOf_rd b2 (by omega), a1]; rfl
      rw [c1, zob_s, zbind_e, e301, sb_m1 (by omega)]
      obtain ⟨S2, t2, r2, d1, d2, d3, d4, d5, d6⟩ := ih n (left - 1) S1 t1 _ (by omega) (by omega) (by omega) (by omega) c2.2.2 hR1 hN1 c3 c4
      obtain ⟨p1, p2, p3⟩ := PA_part hF hT hPA (show i < D by omega)
      have nup : ∀ j, j < i → ¬ up T (K4 T) (pp j) (pp i) := fun j hj z => by
        have q1 := (PA_part hF hT hPA (show j < D by omega)).1
        have : (tH T (pp i)).1 = 4 := up_Q hTW (pp j + 1) (pp j) (pp i) (by omega) q1 z
        omega
      have dif : ∀ j, j < i → pp j ≠ pp i := fun j hj => PA_ne hF hT hPA hj (by omega)
      refine ⟨S2, t2, r2, d1, zLike_tr c2 d2, d3, d4, fun j hj => ?_, fun c hc hall => ?_⟩
      · by_cases e : j = i
        · subst e
          obtain ⟨g1, g2, g3⟩ := d6 (pp j) p1 dif
          rw [g3 nup, g1, va_s]
          exact ⟨c6, c5⟩
        · exact d5 j (by omega)
      · obtain ⟨g1, g2, g3⟩ := d6 c hc (fun j hj => hall j (by omega))
        have hci : c ≠ pp i := fun z => hall i (by omega) z.symm
        obtain ⟨k1, k2⟩ := c7 c hc hci
        refine ⟨by rw [g1, va_n hci], fun ⟨j, hj, z⟩ => ?_, fun z => ?_⟩
        · by_cases w : ∃ j, j < i ∧ up T (K4 T) (pp j) c
          · exact g2 w
          · have e : j = i := by
              by_cases e : j = i
              · exact e
              · exact absurd ⟨j, by omega, z⟩ w
            subst e
            rw [g3 (fun j' hj' z' => w ⟨j', hj', z'⟩)]
            exact k1 z
        · rw [g3 (fun j hj => z j (by omega))]
          exact k2 (z i (by omega))
end PFI
