-- PURE LAYER: the class's steps through the tree
/-- the way from the root to the node at hand -/
def PTH (A : Am) (d : Nat) (pf : Nat → Nat) : Prop := pf 0 = 0 ∧ pf d < aN A ∧ ∀ i, i < d → aU A (pf (i + 1)) = some (pf i) ∧ (aC A (pf i)).getLast? = some (pf (i + 1)) ∧ pf i < pf (i + 1)
theorem curL_s {T : Tr} {lk : List Nat} {k : Nat} : curL T lk (some k) = (tK T k).2.1 :: lk := rfl
theorem PTH_lt {A : Am} {d : Nat} {pf : Nat → Nat} (h : PTH A d pf) : ∀ j, j ≤ d → ∀ i, i < j → pf i < pf j := by
  intro j
  induction j with
  | zero => intro _ i h; omega
  | succ j ih =>
    intro hj i hi
    have h1 := (h.2.2 j (by omega)).2.2
    by_cases c : i = j
    · subst c; exact h1
    · have := ih (by omega) i (by omega); omega
theorem PTH_n {A : Am} {d : Nat} {pf : Nat → Nat} (h : PTH A d pf) {i : Nat} (hi : i ≤ d) : pf i < aN A := by
  by_cases c : i = d
  · subst c; exact h.2.1
  · have := PTH_lt h d (Nat.le_refl _) i (by omega)
    have := h.2.1
    omega
/-- edges that branches go by -/
def EdI (A : Am) (nE : Nat → Option Nat) (ne : Nat) (ep : Nat → Nat) (el : Nat → Int32) : Prop := ∀ v, v < aN A → (nE v).map el = aL A v ∧ ∀ e, nE v = some e → e < ne ∧ ∀ u p, aU A v = some u → aP A u = some p → ep e = p
/-- which rules are out, and where -/
def OuI (A : Am) (nr d : Nat) (pf : Nat → Nat) (ou : Nat → Option Nat) : Prop := (∀ r, r < nr → (ou r = none ↔ aO A (pf d) r = true)) ∧ (∀ i, i < d → ∀ r, r < nr → (ou r = some (pf i) ↔ aO A (pf i) r = true ∧ aO A (pf (i + 1)) r = false)) ∧ ∀ r, r < nr → ∀ v, ou r = some v → ∃ i, i < d ∧ v = pf i
def DSC (S : zS) (A : Am) (d : Nat) (pf : Nat → Nat) (nE nN ou : Nat → Option Nat) (nf : Nat) (fam : Nat → Nat) (T : Tr) (nr : Nat) (sa : Nat → Nat) (ne : Nat) (ep : Nat → Nat) (el : Nat → Int32) (lst al : Nat → List Nat) (nx nk : Nat → Option Nat) (ue : Nat → Nat) : Prop :=
  okS S ∧ TRw S T nr sa ne ep el lst al nx nk ue ∧ S.1 0 = rowOf nf (fun i => nI (fam i)) ∧ NRw S A nE nN ∧ KI A nN ∧ EdI A nE ne ep el ∧ OU S nr ou ∧ PTH A d pf ∧ OuI A nr d pf ou ∧ LC S T (curL T (aW A (pf d)) (aK A (pf d)))
section PCS
variable {S : zS} {T : Tr} {nr : Nat} {sa : Nat → Nat} {nf : Nat} {fam : Nat → Nat} {bit : Nat → Int64} {np : Nat} {P : Nat → Pt} {nl : Nat} {fl : Nat → Nat × Nat} {ru : Nat → Nat} {ne : Nat} {ep : Nat → Nat} {el : Nat → Int32} {lst al : Nat → List Nat} {nx nk : Nat → Option Nat} {ue : Nat → Nat} {A : Am} {nE nN ou : Nat → Option Nat} {d : Nat} {pf : Nat → Nat}
theorem OuI_bd (h : OuI A nr d pf ou) (hp : PTH A d pf) (hn : aN A < 60000) : obd nr 100000 ou := fun r v hr e => by
  obtain ⟨i, hi, ei⟩ := h.2.2 r hr v e
  have := PTH_n hp (show i ≤ d by omega)
  omega
theorem look_inner (hT : TI T P nr sa fam A) {v p : Nat} (hv : v < aN A) (hp : aP A v = some p) : ∃ r0 k0, aR A v = some r0 ∧ aK A v = some k0 ∧ (tK T k0).2.1 = p ∧ fP1 (aO A v) nr 0 (some r0) ∧ fA T (aW A v) (sa r0) (sx T nr sa r0) (some k0) := by
  obtain ⟨l1, l2, l3, l4⟩ := hT.2.2.1 v hv
  rw [hp] at l4
  cases ek : aK A v with
  | none => rw [ek] at l4; cases l4
  | some k0 =>
    cases er : aR A v with
    | none => have := l2 er; rw [ek] at this; cases this
    | some r0 =>
      rw [ek] at l4
      have f := l3 r0 er
      rw [ek] at f
      rw [er] at l1
      exact ⟨r0, k0, rfl, rfl, by simpa using l4.symm, l1, f⟩
theorem look_part (hF : SF nf fam bit np P nl fl T nr ru sa) (hT : TI T P nr sa fam A) {v p : Nat} (hv : v < aN A) (hp : aP A v = some p) : p < tQ T ∧ p ∉ aW A v := by
  obtain ⟨r0, k0, e1, e2, e3, e4, e5⟩ := look_inner hT hv hp
  have hs := SI_sx hF.2.2.1 e4.2.1
  rw [← e3]
  exact ⟨(SF_ask hF k0 (by have := e5.2.1; omega)).2, e5.2.2.1⟩
/-- the rules of a new branch -/
theorem nar_of {ou1 : Nat → Option Nat} {v p : Nat} {lab : Option Int32} (hO : ∀ r, r < nr → (ou r = none ↔ aO A v r = true)) (hc : chg (fun r => ∃ q, ak T r p = some q ∧ lab ≠ some (pM (P q))) none (some v) ou ou1) : ∀ r, r < nr → decide (ou1 r = none) = nar T P (aO A v) p lab r := by
  intro r hr
  obtain ⟨c1, c2⟩ := hc r
  unfold nar
  cases b : aO A v r with
  | false =>
    have : ou r ≠ none := fun e => by have := (hO r hr).mp e; rw [b] at this; cases this
    rw [c2 (fun w => this w.2)]
    simp [this]
  | true =>
    have e0 := (hO r hr).mpr b
    cases q : ak T r p with
    | none =>
      rw [c2 (fun ⟨⟨x, h1, _⟩, _⟩ => by rw [q] at h1; cases h1), e0]; rfl
    | some x =>
      cases lab with
      | none =>
        rw [c1 ⟨⟨x, q, by simp⟩, e0⟩]; rfl
      | some y =>
        by_cases w : pM (P x) = y
        · rw [c2 (fun ⟨⟨z, h1, h2⟩, _⟩ => by rw [q] at h1; cases h1; exact h2 (by rw [w])), e0]; simp [w]
        · rw [c1 ⟨⟨x, q, fun e => w (by simpa using e.symm)⟩, e0⟩]; simp [w]
theorem C_push (hF : SF nf fam bit np P nl fl T nr ru sa) (hE : EI T P ne ep el lst al nx nk ue) (hne : ne < 65536) (hT : TI T P nr sa fam A) (hn : aN A < 60000) (h : DSC S A d pf nE nN ou nf fam T nr sa ne ep el lst al nx nk ue) {p : Nat} (hp : aP A (pf d) = some p) {tk : Option Nat} (htk : ∀ e, tk = some e → e < ne ∧ ep e = p) :
    ∃ S1 S2 nN' ou1 R K, f_Grw_ruleOut S (nI (pf d)) (oI tk) = some S1 ∧ gEnter S1 (nI (pf d)) (oI tk) = some (S2, nI (aN A)) ∧ zLike [27, 28, 29, 30, 31, 32, 33, 34, 35, 36, 37, 38] S S2 ∧ (∀ r, r < nr → decide (ou1 r = none) = nar T P (aO A (pf d)) p (tk.map el) r) ∧ fP1 (fun r => decide (ou1 r = none)) nr 0 R ∧ (R = none → K = none) ∧ (∀ r, R = some r → fA T (p :: aW A (pf d)) (sa r) (sx T nr sa r) K) ∧ DSC S2 (amAdd T A (some (pf d)) (tk.map el) (fun r => decide (ou1 r = none)) (p :: aW A (pf d)) R K) (d + 1) (va_up pf (d + 1) (aN A)) (va_up nE (aN A) tk) nN' ou1 nf fam T nr sa ne ep el lst al nx nk ue := by
  obtain ⟨ho, hR, h0, hN, hK, hEd, hO, hPt, hOu, hL⟩ := h
  have hv := hPt.2.1
  have hob := OuI_bd hOu hPt hn
  obtain ⟨hpQ, hpn⟩ := look_part hF hT hv hp
  obtain ⟨r0, k0, l1, l2, l3, l4, l5⟩ := look_inner hT hv hp
  have e27 : f_Nod_part S (nI (pf d)) = nI p := by unfold f_Nod_part; rw [r_at_rd, hN.1, rowOf_rd hv (by omega), hp]; rfl
  obtain ⟨S1, ou1, a1, a2, a3, a4⟩ := c_ruleOut hF ho hR hE hne hO hob (v := pf d) (by omega) hpQ e27 htk
  have hob1 : obd nr 100000 ou1 := chg_bd a4 hob (fun v e => by cases e; omega)
  have hN1 : NRw S1 A nE nN := by
    obtain ⟨g27, g28, g29, g30, g31, g32, g33, g34, g35, g36⟩ := hN
    exact ⟨by rw [a2.1 27 (by decide)]; exact g27, by rw [a2.1 28 (by decide)]; exact g28, by rw [a2.1 29 (by decide)]; exact g29, by rw [a2.1 30 (by decide)]; exact g30, by rw [a2.1 31 (by decide)]; exact g31, by rw [a2.1 32 (by decide)]; exact g32, by rw [a2.1 33 (by decide)]; exact g33, by rw [a2.1 34 (by decide)]; exact g34, by rw [a2.1 35 (by decide)]; exact g35, by rw [a2.1 36 (by decide)]; exact g36⟩
  have hL1 : LC S1 T (p :: aW A (pf d)) := by
    have := LC_like hL a2 (by simp)
    rw [l2, curL_s, l3] at this
    exact this
  have hnar := nar_of (P := P) hOu.1 a4
  have hs := SI_sx hF.2.2.1 l4.2.1
  obtain ⟨S2, nN', R, K, b1, b2, b3, b4, b5, b6, b7, b8⟩ := c_enter hF a2.2.2 (TRw_like hR a2 (by simp)) a3 hob1 hL1 hN1 hK hn (some (pf d)) tk (tk.map el) (fun x e => by
    cases e
    refine ⟨hv, r0, k0, l1, l2, l4.2.1, fun r hr => ?_, l5.1, by have := l5.2.1; omega, fun j h1 h2 => List.mem_cons_of_mem _ (l5.2.2.2 j h1 h2)⟩
    have := l4.2.2.2 r (by omega) hr
    have hrn : r < nr := by have := l4.2.1; omega
    have h2 := hnar r hrn
    unfold nar at h2
    rw [this] at h2
    simpa using h2)
  refine ⟨S1, S2, nN', ou1, R, K, a1, b1, zLike_tr (zLike_mono a2 (by simp)) (zLike_mono b2 (by simp)), hnar, b6, b7, b8, b2.2.2, TRw_like (TRw_like hR a2 (by simp)) b2 (by simp), by rw [b2.1 0 (by decide), a2.1 0 (by decide)]; exact h0, b3, b4, ?_, OU_like a3 b2 (by simp), ?_, ?_, ?_⟩
  · -- edges
    intro w hw
    have hw : w < aN A + 1 := hw
    show (va_up nE (aN A) tk w).map el = va_up (aL A) (aN A) (tk.map el) w ∧ ∀ e, va_up nE (aN A) tk w = some e → e < ne ∧ ∀ u p', va_up (aU A) (aN A) (some (pf d)) w = some u → va_up (aP A) (aN A) (K.map (fun k => (tK T k).2.1)) u = some p' → ep e = p'
    by_cases c : w = aN A
    · subst c
      rw [va_s, va_s, va_s]
      refine ⟨rfl, fun e he => ⟨(htk e he).1, fun u p' e1 e2 => ?_⟩⟩
      cases e1
      rw [va_n (by omega), hp] at e2
      cases e2
      exact (htk e he).2
    · rw [va_n c, va_n c, va_n c]
      obtain ⟨q1, q2⟩ := hEd w (by omega)
      refine ⟨q1, fun e he => ⟨(q2 e he).1, fun u p' e1 e2 => ?_⟩⟩
      have hu : u < aN A := by
        by_cases z : w = 0
        · rw [z, hT.1.2.1] at e1; cases e1
        · obtain ⟨u', q', c1, c2, _⟩ := hT.2.1 w (by omega) (by omega)
          rw [c2] at e1; cases e1; omega
      rw [va_n (by omega)] at e2
      exact (q2 e he).2 u p' e1 e2
  · -- the way
    refine ⟨by rw [va_n (by omega)]; exact hPt.1, by rw [va_s]; show aN A < aN A + 1; omega, fun i hi => ?_⟩
    show va_up (aU A) (aN A) (some (pf d)) (va_up pf (d + 1) (aN A) (i + 1)) = some (va_up pf (d + 1) (aN A) i) ∧ (va_up (va_up (aC A) (aN A) []) (pf d) (aC A (pf d) ++ [aN A]) (va_up pf (d + 1) (aN A) i)).getLast? = some (va_up pf (d + 1) (aN A) (i + 1)) ∧ _
    rw [va_n (show i ≠ d + 1 by omega)]
    by_cases c : i = d
    · subst c
      rw [va_s, va_s, va_s]
      exact ⟨rfl, by simp, hv⟩
    · obtain ⟨q1, q2, q3⟩ := hPt.2.2 i (by omega)
      have hi1 := PTH_n hPt (show i + 1 ≤ d by omega)
      have hi0 := PTH_n hPt (show i ≤ d by omega)
      have hlt := PTH_lt hPt d (Nat.le_refl _) i (by omega)
      rw [va_n (show i + 1 ≠ d + 1 by omega), va_n (by omega), va_n (by omega), va_n (by omega)]
      exact ⟨q1, q2, q3⟩
  · -- who is out
    have eO : ∀ w, w < aN A → aO (amAdd T A (some (pf d)) (tk.map el) (fun r => decide (ou1 r = none)) (p :: aW A (pf d)) R K) w = aO A w := fun w hw => va_n (show w ≠ aN A by omega)
    have eO1 : aO (amAdd T A (some (pf d)) (tk.map el) (fun r => decide (ou1 r = none)) (p :: aW A (pf d)) R K) (aN A) = fun r => decide (ou1 r = none) := va_s
    obtain ⟨o1, o2, o3⟩ := hOu
    refine ⟨fun r hr => ?_, fun i hi r hr => ?_, fun r hr w hw => ?_⟩
    · rw [va_s, eO1]; simp
    · obtain ⟨c1, c2⟩ := a4 r
      rw [va_n (show i ≠ d + 1 by omega)]
      by_cases c : i = d
      · subst c
        rw [va_s, eO1, eO (pf i) hv]
        constructor
        · intro e
          have hch : (∃ q, ak T r p = some q ∧ tk.map el ≠ some (pM (P q))) ∧ ou r = none := Classical.byContradiction (fun w => by
            have := c2 w
            rw [e] at this
            obtain ⟨j, hj, ej⟩ := o3 r hr (pf i) this.symm
            have := PTH_lt hPt i (Nat.le_refl _) j hj
            omega)
          exact ⟨(o1 r hr).mp hch.2, by simp [e]⟩
        · intro ⟨e1, e2⟩
          have e0 := (o1 r hr).mpr e1
          have e2 : ou1 r ≠ none := by simpa using e2
          exact Classical.byContradiction (fun w => by
            by_cases z : (∃ q, ak T r p = some q ∧ tk.map el ≠ some (pM (P q))) ∧ ou r = none
            · exact w (c1 z)
            · rw [c2 z] at e2; exact e2 e0)
      · have hlt := PTH_lt hPt d (Nat.le_refl _) i (by omega)
        have hi1 := PTH_n hPt (show i + 1 ≤ d by omega)
        rw [va_n (show i + 1 ≠ d + 1 by omega), eO (pf i) (by omega), eO (pf (i + 1)) hi1, ← o2 i (by omega) r hr]
        by_cases z : (∃ q, ak T r p = some q ∧ tk.map el ≠ some (pM (P q))) ∧ ou r = none
        · rw [c1 z, z.2]
          constructor
          · intro e; have : pf d = pf i := Option.some.inj e; omega
          · intro e; cases e
        · rw [c2 z]
    · obtain ⟨c1, c2⟩ := a4 r
      by_cases z : (∃ q, ak T r p = some q ∧ tk.map el ≠ some (pM (P q))) ∧ ou r = none
      · rw [c1 z] at hw
        exact ⟨d, by omega, by rw [va_n (by omega)]; exact (Option.some.inj hw).symm⟩
      · rw [c2 z] at hw
        obtain ⟨j, hj, ej⟩ := o3 r hr w hw
        exact ⟨j, by omega, by rw [va_n (by omega)]; exact ej⟩
  · -- looked
    have eW : aW (amAdd T A (some (pf d)) (tk.map el) (fun r => decide (ou1 r = none)) (p :: aW A (pf d)) R K) (aN A) = p :: aW A (pf d) := va_s
    have eK : aK (amAdd T A (some (pf d)) (tk.map el) (fun r => decide (ou1 r = none)) (p :: aW A (pf d)) R K) (aN A) = K := va_s
    rw [va_s, eW, eK]
    exact b5
theorem C_pop (hF : SF nf fam bit np P nl fl T nr ru sa) (hE : EI T P ne ep el lst al nx nk ue) (hne : ne < 65536) (hT : TI T P nr sa fam A) (hn : aN A < 60000) (h : DSC S A d pf nE nN ou nf fam T nr sa ne ep el lst al nx nk ue) : (d = 0 ∧ ∃ S', f_Grw_leave S (nI (pf d)) = some (S', -1) ∧ zLike [37, 38] S S') ∨ ∃ d' S' ou', d = d' + 1 ∧ f_Grw_leave S (nI (pf d)) = some (S', nI (pf d')) ∧ zLike [37, 38] S S' ∧ DSC S' A d' pf nE nN ou' nf fam T nr sa ne ep el lst al nx nk ue := by
  obtain ⟨ho, hR, h0, hN, hK, hEd, hO, hPt, hOu, hL⟩ := h
  have hv := hPt.2.1
  have hob := OuI_bd hOu hPt hn
  have upU : ∀ x, aU A (pf d) = some x → x < aN A ∧ ∃ p, aP A x = some p ∧ p < tQ T := fun x e => by
    by_cases z : pf d = 0
    · rw [z, hT.1.2.1] at e; cases e
    · obtain ⟨u, q, c1, c2, c3, c4, c5, c6, c7⟩ := hT.2.1 (pf d) (by omega) hv
      rw [c2] at e; cases e
      exact ⟨by omega, q, c3, (look_part hF hT (by omega) c3).1⟩
  have hL' : match aP A (pf d) with
    | none => LC S T (aW A (pf d))
    | some p => LC S T (p :: aW A (pf d)) ∧ p < tQ T ∧ p ∉ aW A (pf d) := by
    cases q : aP A (pf d) with
    | none =>
      have l4 := (hT.2.2.1 (pf d) hv).2.2.2
      rw [q] at l4
      cases ek : aK A (pf d) with
      | none => rw [ek] at hL; exact hL
      | some k => rw [ek] at l4; cases l4
    | some p =>
      obtain ⟨r0, k0, e1, e2, e3, e4, e5⟩ := look_inner hT hv q
      rw [e2, curL_s, e3] at hL
      exact ⟨hL, look_part hF hT hv q⟩
  rcases c_leave hF ho hR hE hne hO hob hN hn hv hL' upU with ⟨a, S', b1, b2⟩ | ⟨x, p, S', ou', a1, a2, a3, a4, a5, a6, a7⟩
  · left
    refine ⟨?_, S', b1, zLike_mono b2 (by simp)⟩
    cases d with
    | zero => rfl
    | succ d' => have := (hPt.2.2 d' (by omega)).1; rw [a] at this; cases this
  · right
    cases d with
    | zero =>
      have : pf 0 = 0 := hPt.1
      rw [this, hT.1.2.1] at a1; cases a1
    | succ d' =>
      obtain ⟨q1, q2, q3⟩ := hPt.2.2 d' (by omega)
      rw [q1] at a1
      have hx : pf d' = x := Option.some.inj a1
      subst hx
      obtain ⟨u, q, c1, c2, c3, c4, c5, c6, c7⟩ := hT.2.1 (pf (d' + 1)) (by omega) hv
      rw [q1] at c2
      have hu : pf d' = u := Option.some.inj c2
      subst hu
      rw [a2] at c3
      have hq : p = q := Option.some.inj c3
      subst hq
      obtain ⟨o1, o2, o3⟩ := hOu
      refine ⟨d', S', ou', rfl, a3, a4, a4.2.2, TRw_like hR a4 (by simp), by rw [a4.1 0 (by decide)]; exact h0, ?_, hK, hEd, a5, ⟨hPt.1, by omega, fun i hi => hPt.2.2 i (by omega)⟩, ⟨fun r hr => ?_, fun i hi r hr => ?_, fun r hr w hw => ?_⟩, ?_⟩
      · obtain ⟨g27, g28, g29, g30, g31, g32, g33, g34, g35, g36⟩ := hN
        exact ⟨by rw [a4.1 27 (by decide)]; exact g27, by rw [a4.1 28 (by decide)]; exact g28, by rw [a4.1 29 (by decide)]; exact g29, by rw [a4.1 30 (by decide)]; exact g30, by rw [a4.1 31 (by decide)]; exact g31, by rw [a4.1 32 (by decide)]; exact g32, by rw [a4.1 33 (by decide)]; exact g33, by rw [a4.1 34 (by decide)]; exact g34, by rw [a4.1 35 (by decide)]; exact g35, by rw [a4.1 36 (by decide)]; exact g36⟩
      · obtain ⟨k1, k2⟩ := a7 r
        have hnar := c4 r hr
        constructor
        · intro e
          by_cases z : (∃ q, ak T r p = some q) ∧ ou r = some (pf d')
          · exact ((o2 d' (by omega) r hr).mp z.2).1
          · rw [k2 z] at e
            have := (o1 r hr).mp e
            rw [hnar] at this
            unfold nar at this
            cases b : aO A (pf d') r with
            | true => rfl
            | false => rw [b] at this; cases this
        · intro e
          cases b : aO A (pf (d' + 1)) r with
          | true =>
            have e0 := (o1 r hr).mpr b
            rw [k2 (fun z => by rw [e0] at z; cases z.2), e0]
          | false =>
            have e1 := (o2 d' (by omega) r hr).mpr ⟨e, b⟩
            refine k1 ⟨?_, e1⟩
            rw [hnar] at b
            unfold nar at b
            rw [e] at b
            cases q' : ak T r p with
            | none => rw [q'] at b; cases b
            | some y => exact ⟨y, rfl⟩
      · obtain ⟨k1, k2⟩ := a7 r
        have hlt : pf i < pf d' := PTH_lt hPt d' (by omega) i hi
        rw [← o2 i (by omega) r hr]
        by_cases z : (∃ q, ak T r p = some q) ∧ ou r = some (pf d')
        · rw [k1 z, z.2]
          constructor
          · intro e; cases e
          · intro e; have : pf d' = pf i := Option.some.inj e; omega
        · rw [k2 z]
      · obtain ⟨k1, k2⟩ := a7 r
        by_cases z : (∃ q, ak T r p = some q) ∧ ou r = some (pf d')
        · rw [k1 z] at hw; cases hw
        · rw [k2 z] at hw
          obtain ⟨j, hj, ej⟩ := o3 r hr w hw
          by_cases y : j = d'
          · subst y
            -- a rule that is out at the upper node has an ask there
            rw [ej] at hw
            have hb := (o2 j (by omega) r hr).mp hw
            have hnar := c4 r hr
            rw [hb.2] at hnar
            unfold nar at hnar
            rw [hb.1] at hnar
            cases q' : ak T r p with
            | none => rw [q'] at hnar; cases hnar
            | some y => exact absurd ⟨⟨y, q'⟩, hw⟩ z
          · exact ⟨j, by omega, ej⟩
      · obtain ⟨r0, k0, e1, e2, e3, e4, e5⟩ := look_inner hT (show pf d' < aN A by omega) a2
        rw [e2, curL_s, e3, ← c5]
        exact a6
end PCS
