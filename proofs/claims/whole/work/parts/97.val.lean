-- PURE LAYER: what a value has at a part; the class finds it
def vcF (P : Nat → Pt) (fl : Nat → Nat × Nat) (T : Tr) (val : Nat) : Nat → Nat → Option Nat
  | 0, _ => none
  | n + 1, c => if c = 0 then some val else match vcF P fl T val n (tU T c) with
    | none => none
    | some q => if (pK (P q), pS (P q)) = tH T (tU T c) then sub P fl q (tL T c) else none
def vc (P : Nat → Pt) (fl : Nat → Nat × Nat) (T : Tr) (val c : Nat) : Option Nat := vcF P fl T val (c + 1) c
/-- one step down -/
def vstep (P : Nat → Pt) (fl : Nat → Nat × Nat) (T : Tr) (c : Nat) : Option Nat → Option Nat
  | none => none
  | some q => if (pK (P q), pS (P q)) = tH T (tU T c) then sub P fl q (tL T c) else none
/-- a record's field is one of its fields -/
def lbOK (T : Tr) (c : Nat) : Prop := ∀ n : Nat, n ≤ 128 → tH T (tU T c) = (4, nI n) → ∃ f, f < n ∧ tL T c = nI f
def gpF (T : Tr) : Nat → Nat → Prop
  | 0, _ => False
  | n + 1, c => c = 0 ∨ (1 ≤ c ∧ c < tQ T ∧ lbOK T c ∧ gpF T n (tU T c))
section PVA
variable {S : zS} {T : Tr} {nr : Nat} {sa : Nat → Nat} {nf : Nat} {fam : Nat → Nat} {bit : Nat → Int64} {np : Nat} {P : Nat → Pt} {nl : Nat} {fl : Nat → Nat × Nat} {ru : Nat → Nat} {ne : Nat} {ep : Nat → Nat} {el : Nat → Int32} {lst al : Nat → List Nat} {nx nk : Nat → Option Nat} {ue : Nat → Nat} {val : Nat}
theorem vcF_any (hT : TW T) : ∀ n m c, c < tQ T → c < n → c < m → vcF P fl T val n c = vcF P fl T val m c := by
  intro n
  induction n with
  | zero => intro m c _ h; omega
  | succ n ih =>
    intro m c hc h1 h2
    cases m with
    | zero => omega
    | succ m =>
      unfold vcF
      by_cases d : c = 0
      · rw [if_pos d, if_pos d]
      · have hu := hT.2.1 c (by omega) hc
        rw [if_neg d, if_neg d, ih m (tU T c) (by omega) (by omega) (by omega)]
theorem vc_0 : vc P fl T val 0 = some val := by unfold vc vcF; rw [if_pos rfl]
theorem vc_s (hT : TW T) {c : Nat} (h1 : 1 ≤ c) (h2 : c < tQ T) : vc P fl T val c = vstep P fl T c (vc P fl T val (tU T c)) := by
  have hu := hT.2.1 c h1 h2
  unfold vc
  rw [vcF, if_neg (by omega), vcF_any hT c (tU T c + 1) (tU T c) (by omega) (by omega) (by omega)]
  rfl
theorem gpF_any (hT : TW T) : ∀ n m c, c < tQ T → c < n → c < m → gpF T n c → gpF T m c := by
  intro n
  induction n with
  | zero => intro m c _ h; omega
  | succ n ih =>
    intro m c hc h1 h2 h
    cases m with
    | zero => omega
    | succ m =>
      rcases h with h | ⟨a1, a2, a3, a4⟩
      · exact Or.inl h
      · have hu := hT.2.1 c a1 hc
        exact Or.inr ⟨a1, a2, a3, ih m (tU T c) (by omega) (by omega) (by omega) a4⟩
def gp (T : Tr) (c : Nat) : Prop := gpF T (c + 1) c
theorem gp_up (hT : TW T) {c : Nat} (h : gp T c) (h1 : 1 ≤ c) : c < tQ T ∧ lbOK T c ∧ gp T (tU T c) := by
  rcases h with h | ⟨a1, a2, a3, a4⟩
  · omega
  · have hu := hT.2.1 c h1 a2
    exact ⟨a2, a3, gpF_any hT _ _ _ (by omega) (by omega) (by omega) a4⟩
/-- a whole record has each of its fields, in their order -/
theorem whole_rec {q : Nat} (hw : pwf nf fam bit P nl fl q) (e4 : pK (P q) = 4) (hW : pW (P q) = true) : ∃ n : Nat, n ≤ 128 ∧ pS (P q) = nI n ∧ pN (P q) = n ∧ ∀ j, j < n → fN P fl q j = j := by
  obtain ⟨n, n1, n2, n3⟩ := hw.2.2.2.2.2.2.2.2.2.2.2.2.2.2.2.1 e4
  have hn := n3 hW
  refine ⟨n, n1, n2, hn, ?_⟩
  have hs := pwI hw
  have hb : ∀ i, i < n → fN P fl q i < n := fun i hi => by
    obtain ⟨m, m1, m2, m3⟩ := (hw.2.2.2.2.2.2.2.2.2.2.1 i (by omega)).2.2
    rw [n2] at m2
    have := (nI_eq (by omega) (by omega)).mp m2
    omega
  have := ps_id (m := n) (ps := fun j => (fN P fl q j, 0)) (fun i j h1 h2 => hs i j h1 (by omega)) hb
  exact this
theorem sub_whole (hW : PWF nf fam bit np P nl fl) {q x : Nat} {l : Int32} (hq : q < np) (hw : pW (P q) = true) (h : sub P fl q l = some x) : x < np ∧ pW (P x) = true := by
  have hwq := hW.2.2.2.2 q hq
  obtain ⟨w1, w2, w3⟩ := hwq.2.2.2.2.2.2.2.2.2.2.2.2.2.2.2.2 hw
  unfold sub at h
  split at h
  · obtain ⟨j, h1, h2, h3⟩ := subF_ok h
    rw [← h3]
    exact ⟨by have := (pwP hwq h1).1; omega, w3 j h1⟩
  · split at h
    · exact ⟨by have := (pwO hwq h).1; omega, w2 x h⟩
    · cases h
theorem vc_whole (hT : TW T) (hW : PWF nf fam bit np P nl fl) (hv : val < np) (hw : pW (P val) = true) : ∀ n c x, c < n → c < tQ T → vc P fl T val c = some x → x < np ∧ pW (P x) = true := by
  intro n
  induction n with
  | zero => intro c x h; omega
  | succ n ih =>
    intro c x hn hc h
    by_cases d : c = 0
    · subst d; rw [vc_0] at h; cases h; exact ⟨hv, hw⟩
    · have hu := hT.2.1 c (by omega) hc
      rw [vc_s hT (by omega) hc] at h
      cases g : vc P fl T val (tU T c) with
      | none => rw [g] at h; cases h
      | some q =>
        rw [g] at h
        obtain ⟨b1, b2⟩ := ih (tU T c) q (by omega) (by omega) g
        unfold vstep at h
        dsimp only at h
        split at h
        · exact sub_whole hW b1 b2 h
        · cases h
theorem c_inner (hP : PC S np P nl fl) (hW : PWF nf fam bit np P nl fl) (hR : TRw S T nr sa ne ep el lst al nx nk ue) (hE : EI T P ne ep el lst al nx nk ue) (hT : TW T) (hC : CI T) (hne : ne < 65536) (hq : tQ T ≤ 16385) {c : Nat} (h1 : 1 ≤ c) (h2 : c < tQ T) (hl : lbOK T c) (hH : (tH T (tU T c)).1 ≤ 4) (o : Option Nat) (ho : ∀ q, o = some q → q < np ∧ pW (P q) = true) : f_Wlk_inner S (oI o) (nI (tU T c)) (nI c) = oI (vstep P fl T c o) := by
  have hu := hT.2.1 c h1 h2
  have hnp := hW.1
  have e13 : f_Par_shape S (nI (tU T c)) = nI (tH T (tU T c)).1 := by unfold f_Par_shape; rw [r_at_rd, hR.1, rowOf_rd (by omega) (by omega)]
  have e14 : f_Par_sort S (nI (tU T c)) = (tH T (tU T c)).2 := by unfold f_Par_sort; rw [r_at_rd, hR.2.1, rowOf_rd (by omega) (by omega)]
  have e16 : f_Par_upperEdge S (nI c) = nI (ue c) := by unfold f_Par_upperEdge; rw [r_at_rd, hR.2.2.2.1, rowOf_rd h2 (by omega), if_neg (by omega)]
  obtain ⟨u1, u2, u3⟩ := hE.2.2.1 c h1 h2
  have e18 : f_Par_label S (nI (ue c)) = tL T c := by unfold f_Par_label; rw [r_at_rd, hR.2.2.2.2.2.1, rowOf_rd u1 (by omega), u3]
  unfold f_Wlk_inner
  rw [e13, e14, e16, e18]
  cases o with
  | none =>
    have : f_Pat_shape S (oI none) = -1 := by unfold f_Pat_shape; rw [oI_n, r_at_rd, rd_m1]
    rw [this]
    rw [if_pos (by (simp (disch := omega) only [nI_1, nI_add, Int32.lt_iff_toInt_lt, Int32.le_iff_toInt_le, ← Int32.toInt_inj, nI_toInt, tI_0, tI_1, tI_2, tI_3, tI_4, tI_m1, tI_m2, tI_m3, tI_m4, tI_64, tI_128, tI_255, tI_256, tI_1000, tI_1024, tI_4096, tI_10000, tI_16384, tI_16386, tI_M]; omega))]; rfl
  | some q =>
    obtain ⟨q1, q2⟩ := ho q rfl
    have hwq := hW.2.2.2.2 q q1
    have hKq := pwK hwq
    rw [oI_s, cK hP hnp q1, cS hP hnp q1, zbind_e]
    unfold vstep
    dsimp only
    -- the part above has a rule's shape
    by_cases e : (pK (P q), pS (P q)) = tH T (tU T c)
    · rw [if_pos e, ← e]
      rw [if_neg (show ¬ ¬ nI (pK (P q)) = nI (pK (P q)) by simp), if_pos (show pS (P q) = pS (P q) from rfl)]
      by_cases e4 : pK (P q) = 4
      · obtain ⟨n, n1, n2, n3, n4⟩ := whole_rec hwq e4 q2
        obtain ⟨f, f1, f2⟩ := hl n n1 (by rw [← e, e4, n2])
        have hf : fN P fl q f = f := n4 f f1
        rw [if_neg (show ¬ ¬ nI (pK (P q)) = 4 by rw [e4]; decide), f2, cFP hP hnp hW.2.1 q1 hwq (by omega)]
        have := sub_fld hwq e4 (j := f) (by omega)
        rw [hf] at this
        rw [this]; rfl
      · have n4 : ¬ nI (pK (P q)) = 4 := by (simp (disch := omega) only [nI_1, nI_add, Int32.lt_iff_toInt_lt, Int32.le_iff_toInt_le, ← Int32.toInt_inj, nI_toInt, tI_0, tI_1, tI_2, tI_3, tI_4, tI_m1, tI_m2, tI_m3, tI_m4, tI_64, tI_128, tI_255, tI_256, tI_1000, tI_1024, tI_4096, tI_10000, tI_16384, tI_16386, tI_M]; omega)
        rw [if_pos n4, cM hP hnp q1, cArg hP hnp q1 hwq]
        unfold sub
        rw [if_neg e4]
        by_cases m : pM (P q) = tL T c
        · rw [if_neg (by simp [m]), if_pos m]
        · rw [if_pos m, if_neg m]; rfl
    · rw [if_neg e]
      by_cases e1 : nI (pK (P q)) = nI (tH T (tU T c)).1
      · have hd : ¬ pS (P q) = (tH T (tU T c)).2 ∨ ¬ pK (P q) = (tH T (tU T c)).1 := by
          by_cases w : pS (P q) = (tH T (tU T c)).2
          · exact Or.inr (fun z => e (Prod.ext z w))
          · exact Or.inl w
        rcases hd with w | w
        · rw [if_neg (by simp [e1]), if_neg w]; rfl
        · exact absurd ((nI_eq (by omega) (by omega)).mp e1) w
      · rw [if_pos e1]; rfl
end PVA
