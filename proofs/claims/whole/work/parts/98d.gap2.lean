-- PURE LAYER: what both tell of the value without a rule
def anc (T : Tr) (u c : Nat) : Prop := up T (fun _ => True) u c
def GPs (M : zM) (T : Tr) (nf : Nat) (fam : Nat → Nat) (s1 s2 : Nat → Int32) (D : Nat) (pp : Nat → Nat) : Prop :=
  (∀ i, i < D → pp i < tQ T ∧ M.1 29 i = nI (pp i) ∧ s1 (pp i) = nI (tH T (pp i)).1 ∧ s2 (pp i) = M.1 30 i ∧ (1 ≤ (tH T (pp i)).1 ∧ (tH T (pp i)).1 ≤ 3) ∧ (∃ k, k < tA T ∧ (tK T k).2.1 = pp i) ∧ ((tH T (pp i)).1 = 2 → ∃ f t : Nat, (tH T (pp i)).2 = nI f ∧ M.1 30 i = nI t ∧ f < nf ∧ t < fam f)) ∧
  (∀ i j, i < j → j < D → pp i ≠ pp j) ∧
  ∀ c, c < tQ T → (∀ i, i < D → pp i ≠ c) → (s1 c = 4 ∧ (tH T c).1 = 4 ∧ ∃ i, i < D ∧ anc T (pp i) c) ∨ (s1 c = 0 ∧ ∀ i, i < D → ¬ anc T (pp i) c)
def GP (S : zS) (M : zM) (T : Tr) (nf : Nat) (fam : Nat → Nat) : Prop := (S.2.2.1 4 = -1 ∧ M.2.2 10 = -1) ∨ ∃ D pp s1 s2, ¬ S.2.2.1 4 = -1 ∧ M.2.2 10 = nI D ∧ D < 4097 ∧ S.1 41 = rowOf (tQ T) s1 ∧ S.1 42 = rowOf (tQ T) s2 ∧ GPs M T nf fam s1 s2 D pp
section PG2
variable {S : zS} {M : zM} {T : Tr} {nr : Nat} {sa : Nat → Nat} {nf : Nat} {fam : Nat → Nat} {bit : Nat → Int64} {np : Nat} {P : Nat → Pt} {nl : Nat} {fl : Nat → Nat × Nat} {ru : Nat → Nat} {ne : Nat} {ep : Nat → Nat} {el : Nat → Int32} {lst al : Nat → List Nat} {nx nk : Nat → Option Nat} {ue : Nat → Nat} {A : Am} {nE nN : Nat → Option Nat} {D : Nat} {an pp : Nat → Nat} {W : Nat → Prop}
theorem climb1 (hT : TW T) {c : Nat} (hc : ¬ W c) : ∀ n u, u < n → u < tQ T → gq T (fun x => K4 T (tU T x) ∨ W (tU T x)) u → anc T u c → up T (K4 T) u c ∨ ∃ w, W w ∧ w < u ∧ anc T w c := by
  intro n
  induction n with
  | zero => intro u h; omega
  | succ n ih =>
    intro u h hu hg ha
    by_cases e : u = 0
    · subst e; exact absurd ha up_0
    · have hup := hT.2.1 u (by omega) hu
      obtain ⟨_, g2, g3⟩ := gq_up hT hg (by omega)
      obtain ⟨_, a2⟩ := (up_s hT (by omega) hu).mp ha
      by_cases k : K4 T (tU T u)
      · rcases a2 with z | z
        · exact Or.inl ((up_s hT (by omega) hu).mpr ⟨k, Or.inl z⟩)
        · rcases ih (tU T u) (by omega) (by omega) g3 z with y | ⟨w, w1, w2, w3⟩
          · exact Or.inl ((up_s hT (by omega) hu).mpr ⟨k, Or.inr y⟩)
          · exact Or.inr ⟨w, w1, by omega, w3⟩
      · rcases g2 with z | z
        · exact absurd z k
        · rcases a2 with y | y
          · rw [y] at z; exact absurd z hc
          · exact Or.inr ⟨tU T u, z, by omega, y⟩
theorem climb2 (hT : TW T) {c : Nat} (hc : ¬ W c) (hW : ∀ w, W w → w < tQ T ∧ gq T (fun x => K4 T (tU T x) ∨ W (tU T x)) w) : ∀ n u, u < n → W u → anc T u c → ∃ w, W w ∧ up T (K4 T) w c := by
  intro n
  induction n with
  | zero => intro u h; omega
  | succ n ih =>
    intro u h hu ha
    obtain ⟨h1, h2⟩ := hW u hu
    rcases climb1 hT hc (u + 1) u (by omega) h1 h2 ha with z | ⟨w, w1, w2, w3⟩
    · exact ⟨u, hu, z⟩
    · exact ih w (by omega) w1 w3
/-- above the part that a node looks at: records, and parts looked at before -/
theorem gq_path (hF : SF nf fam bit np P nl fl T nr ru sa) (hT : TI T P nr sa fam A) {v p : Nat} (hv : v < aN A) (hp : aP A v = some p) (hW : ∀ u, u ∈ aW A v → W u) : gq T (fun x => K4 T (tU T x) ∨ W (tU T x)) p := by
  obtain ⟨r0, k0, e1, e2, e3, e4, e5⟩ := look_inner hT hv hp
  obtain ⟨c1, c2, c3, c4⟩ := e4
  obtain ⟨d1, d2, d3, d4⟩ := e5
  have hsx := (SI_sx hF.2.2.1 c2).2
  have hk0 : k0 < tA T := by omega
  obtain ⟨a1, a2, a3, a4, a5, a6⟩ := hF.2.1.2.2.1 k0 hk0
  have hr0 : (tK T k0).1 = r0 := (SI_in hF.2.2.1 c2 hk0 a1).mpr ⟨d1, d2⟩
  rw [hr0, e3] at a3 a6
  rw [e3] at a2
  refine chn_gq hF (fun c q x h1 h2 o1 o2 o3 o4 => ?_) (p + 1) p (by omega) a2 a6 ⟨_, a3⟩
  rcases o3 with o3 | ⟨k', k1, k2⟩
  · exact Or.inl (by show (tH T (tU T c)).1 = 4; rw [o2]; exact o3)
  · have hk' : k' < tA T := by omega
    have hin := (SI_in hF.2.2.1 c2 hk' (by rw [k2]; exact c2)).mp (by rw [k2])
    have hW' := d4 k' hin.1 k1
    rw [k2] at hW'
    exact Or.inr (hW _ hW')
/-- the number that is told of a family's part is one of its tags -/
theorem nlab_tag (hF : SF nf fam bit np P nl fl T nr ru sa) (hT : TI T P nr sa fam A) (hD : ∀ v, v < aN A → doneV T P nr fam A v) {u p x : Nat} {y : Int32} (hu : u < aN A) (hp : aP A u = some p) (hx : x ∈ aC A u) (h : nlab T P nr A u p x y) (k2 : (tH T p).1 = 2) : ∃ f t : Nat, (tH T p).2 = nI f ∧ y = nI t ∧ f < nf ∧ t < fam f := by
  have hw := hF.1.2.2.2.2
  obtain ⟨ls, os, c1, c2, c3⟩ := hD u hu p hp
  have tags : ∀ y, nuR T P (aO A u) p nr y → ∃ f t : Nat, (tH T p).2 = nI f ∧ y = nI t ∧ f < nf ∧ t < fam f := by
    rintro y ⟨r, q, r1, r2, r3, r4⟩
    obtain ⟨b1, b2, b3, b4, b5, b6, b7⟩ := SF_ak hF r3
    have kq : pK (P q) = 2 := by rw [b6] at k2; exact k2
    obtain ⟨f, t, g1, g2, g3, g4, g5⟩ := (hw q b3).2.2.2.2.2.2.2.2.2.2.2.2.2.1 kq
    exact ⟨f, t, by rw [b6]; exact g1, by rw [← r4]; exact g2, g3, g4⟩
  have memL : aL A x ∈ ls.map some ++ os := by rw [← c1.1]; exact List.mem_map.mpr ⟨x, hx, rfl⟩
  cases g : aL A x with
  | some z =>
    rw [h.1 z g]
    rw [g] at memL
    have : z ∈ ls := by
      rcases List.mem_append.mp memL with m | m
      · obtain ⟨a, a1, a2⟩ := List.mem_map.mp m
        cases a2; exact a1
      · rcases c1.2.1 with o | o
        · rw [o] at m; cases m
        · rw [o] at m; simp at m
    exact tags z (c1.2.2.2.1 z this)
  | none =>
    obtain ⟨n, n1, n2⟩ := h.2 g
    rw [g] at memL
    have ho : os = [none] := by
      rcases c1.2.1 with o | o
      · rw [o] at memL; simp at memL
      · exact o
    have hlen := (c1.2.2.2.2.2 ho).2
    unfold allOf at hlen
    rw [if_pos k2] at hlen
    obtain ⟨z, hz⟩ := nu_some hF hT hu hp
    obtain ⟨f, t, f1, f2, f3, f4⟩ := tags z hz
    have hf := hF.1.2.2.1 f f3
    have hnf := hF.1.2.2.2.1
    rw [f1, nI_clamp (by omega)] at hlen
    refine ⟨f, n, f1, n1, f3, ?_⟩
    -- the numbers below n all have branches
    rcases Nat.lt_or_ge n (fam f) with c | c
    · exact c
    · exfalso
      have sub : ∀ x, x ∈ (List.range (fam f)).map nI → x ∈ ls := fun x hx => by
        obtain ⟨i, i1, i2⟩ := List.mem_map.mp hx
        rw [List.mem_range] at i1
        rw [← i2]
        exact c2 _ (n2.2 i (by omega))
      have := List.Nodup.length_le_of_subset (range_nodup (n := fam f) (by omega)) sub
      simp at this
      omega
end PG2
