-- PURE LAYER: there is one tree
def lblt : Option Int32 → Option Int32 → Prop
  | some x, some y => x < y
  | some _, none => True
  | none, _ => False
/-- the branches that a node comes to have -/
def FU (T : Tr) (P : Nat → Pt) (nr : Nat) (fam : Nat → Nat) (po : Nat → Bool) (p : Nat) : Option Int32 → Prop
  | some y => nuR T P po p nr y
  | none => ∃ ls : List Int32, ls.Pairwise (· < ·) ∧ (∀ y, y ∈ ls ↔ nuR T P po p nr y) ∧ ls.length < allOf fam (tH T p)
/-- both trees have the same at a node -/
def agV (nr : Nat) (A B : Am) (v : Nat) : Prop := aU A v = aU B v ∧ aL A v = aL B v ∧ aP A v = aP B v ∧ aR A v = aR B v ∧ aK A v = aK B v ∧ aD A v = aD B v ∧ aW A v = aW B v ∧ ∀ r, r < nr → aO A v r = aO B v r
theorem lblt_irr {a : Option Int32} (h : lblt a a) : False := by
  cases a with
  | none => exact h
  | some x => exact i32_irr h
theorem lblt_asym {a b : Option Int32} (h : lblt a b) (k : lblt b a) : False := by
  cases a with
  | none => exact h
  | some x =>
    cases b with
    | none => exact k
    | some y => exact i32_irr (i32_tr h k)
theorem lblt_tot {a b : Option Int32} (h : a ≠ b) : lblt a b ∨ lblt b a := by
  cases a with
  | none =>
    cases b with
    | none => exact absurd rfl h
    | some y => exact Or.inr trivial
  | some x =>
    cases b with
    | none => exact Or.inl trivial
    | some y =>
      by_cases c : y ≤ x
      · exact Or.inr (i32_eq c (fun e => h (by rw [e])))
      · exact Or.inl (i32_nle.mp c)
theorem pw_both {R : Nat → Nat → Prop} : ∀ {l : List Nat}, l.Pairwise R → l.Pairwise (· < ·) → ∀ {a b}, a ∈ l → b ∈ l → a < b → R a b := by
  intro l
  induction l with
  | nil => intro _ _ a b h; cases h
  | cons x l ih =>
    intro h1 h2 a b ha hb hab
    obtain ⟨p1, p2⟩ := List.pairwise_cons.mp h1
    obtain ⟨q1, q2⟩ := List.pairwise_cons.mp h2
    rcases List.mem_cons.mp ha with e | e
    · rcases List.mem_cons.mp hb with f | f
      · omega
      · rw [e]; exact p1 b f
    · rcases List.mem_cons.mp hb with f | f
      · have := q1 a e; omega
      · exact ih p2 q2 e f hab
theorem sorted_eq : ∀ {l m : List Nat}, l.Pairwise (· < ·) → m.Pairwise (· < ·) → (∀ x, x ∈ l ↔ x ∈ m) → l = m := by
  intro l
  induction l with
  | nil =>
    intro m _ _ h
    cases m with
    | nil => rfl
    | cons y m => exact absurd ((h y).mpr List.mem_cons_self) (by simp)
  | cons x l ih =>
    intro m h1 h2 h
    cases m with
    | nil => exact absurd ((h x).mp List.mem_cons_self) (by simp)
    | cons y m =>
      obtain ⟨p1, p2⟩ := List.pairwise_cons.mp h1
      obtain ⟨q1, q2⟩ := List.pairwise_cons.mp h2
      have exy : x = y := by
        rcases List.mem_cons.mp ((h x).mp List.mem_cons_self) with e | e
        · exact e
        · rcases List.mem_cons.mp ((h y).mpr List.mem_cons_self) with f | f
          · exact f.symm
          · have := q1 x e
            have := p1 y f
            omega
      subst exy
      rw [ih p2 q2 (fun z => ?_)]
      constructor
      · intro hz
        rcases List.mem_cons.mp ((h z).mp (List.mem_cons_of_mem _ hz)) with e | e
        · have := p1 z hz; omega
        · exact e
      · intro hz
        rcases List.mem_cons.mp ((h z).mpr (List.mem_cons_of_mem _ hz)) with e | e
        · have := q1 z hz; omega
        · exact e
section PUN
variable {T : Tr} {nr : Nat} {sa : Nat → Nat} {fam : Nat → Nat} {P : Nat → Pt} {A B : Am}
theorem FU_congr {po po' : Nat → Bool} {p : Nat} (h : ∀ r, r < nr → po r = po' r) {l : Option Int32} (k : FU T P nr fam po p l) : FU T P nr fam po' p l := by
  cases l with
  | some y => exact (nuR_congr h).mp k
  | none =>
    obtain ⟨ls, a, b, c⟩ := k
    exact ⟨ls, a, fun y => (b y).trans (nuR_congr h), c⟩
theorem K1 (hT : TI T P nr sa fam A) (hP : PRE T P nr fam A) {u p : Nat} (hu : u < aN A) (hp : aP A u = some p) {w1 w2 : Nat} (h1 : w1 ∈ aC A u) (h2 : w2 ∈ aC A u) (hlt : w1 < w2) : lblt (aL A w1) (aL A w2) := by
  obtain ⟨ls, os, k⟩ := (hT.2.2.2 u hu).2 p hp
  have pw : ((aC A u).map (aL A)).Pairwise lblt := by
    rw [k.1]
    refine List.pairwise_append.mpr ⟨List.pairwise_map.mpr k.2.2.1, ?_, fun a ha b hb => ?_⟩
    · rcases k.2.1 with o | o
      · rw [o]; exact List.Pairwise.nil
      · rw [o]; exact List.pairwise_singleton _ _
    · obtain ⟨x, _, ex⟩ := List.mem_map.mp ha
      rcases k.2.1 with o | o
      · rw [o] at hb; cases hb
      · rw [o] at hb
        have : b = none := by simpa using hb
        rw [← ex, this]; trivial
  exact pw_both (R := fun a b => lblt (aL A a) (aL A b)) (List.pairwise_map.mp pw) (hP.2.1 u hu).1 h1 h2 hlt
theorem K3 (hT : TI T P nr sa fam A) {u p : Nat} (hu : u < aN A) (hp : aP A u = some p) {w : Nat} (h1 : w ∈ aC A u) : FU T P nr fam (aO A u) p (aL A w) := by
  obtain ⟨ls, os, k⟩ := (hT.2.2.2 u hu).2 p hp
  have mem : aL A w ∈ ls.map some ++ os := by rw [← k.1]; exact List.mem_map.mpr ⟨w, h1, rfl⟩
  rcases List.mem_append.mp mem with m | m
  · obtain ⟨x, x1, x2⟩ := List.mem_map.mp m
    rw [← x2]; exact k.2.2.2.1 x x1
  · rcases k.2.1 with o | o
    · rw [o] at m; cases m
    · rw [o] at m
      have e : aL A w = none := by simpa using m
      rw [e]
      exact ⟨ls, k.2.2.1, fun y => ⟨k.2.2.2.1 y, (k.2.2.2.2.2 o).1 y⟩, (k.2.2.2.2.2 o).2⟩
theorem K2 (hT : TI T P nr sa fam A) (hP : PRE T P nr fam A) {u p : Nat} (hu : u < aN A) (hp : aP A u = some p) {w : Nat} (h1 : w ∈ aC A u) {l : Option Int32} (hF : FU T P nr fam (aO A u) p l) (hl : lblt l (aL A w)) : ∃ w', w' ∈ aC A u ∧ w' < w ∧ aL A w' = l := by
  obtain ⟨ls, os, k⟩ := (hT.2.2.2 u hu).2 p hp
  cases l with
  | none => exact absurd hl (fun h => h)
  | some y =>
    have mem : aL A w ∈ ls.map some ++ os := by rw [← k.1]; exact List.mem_map.mpr ⟨w, h1, rfl⟩
    have hy : y ∈ ls := by
      rcases List.mem_append.mp mem with m | m
      · obtain ⟨x, x1, x2⟩ := List.mem_map.mp m
        rw [← x2] at hl
        by_cases c : y ∈ ls
        · exact c
        · exact absurd (i32_tr hl (k.2.2.2.2.1 y hF c x x1)) i32_irr
      · rcases k.2.1 with o | o
        · rw [o] at m; cases m
        · exact (k.2.2.2.2.2 o).1 y hF
    have : some y ∈ (aC A u).map (aL A) := by rw [k.1]; exact List.mem_append_left _ (List.mem_map.mpr ⟨y, hy, rfl⟩)
    obtain ⟨w', a, b⟩ := List.mem_map.mp this
    refine ⟨w', a, ?_, b⟩
    rcases Nat.lt_trichotomy w' w with z | z | z
    · exact z
    · rw [← z, b] at hl; exact absurd hl lblt_irr
    · have := K1 hT hP hu hp h1 a z
      rw [b] at this
      exact absurd hl (fun h => lblt_asym h this)
/-- a node with all its branches has each branch that may be -/
theorem K4all {u : Nat} (hD : doneV T P nr fam A u) {p : Nat} (hp : aP A u = some p) {l : Option Int32} (hF : FU T P nr fam (aO A u) p l) : ∃ w, w ∈ aC A u ∧ aL A w = l := by
  obtain ⟨ls, os, k1, k2, k3⟩ := hD p hp
  have : l ∈ (aC A u).map (aL A) := by
    rw [k1.1]
    cases l with
    | some y => exact List.mem_append_left _ (List.mem_map.mpr ⟨y, k2 y hF, rfl⟩)
    | none =>
      obtain ⟨ls', a, b, c⟩ := hF
      have nd : ls.Nodup := k1.2.2.1.imp (fun {a b} hab => fun q => by subst q; exact i32_irr hab)
      have := List.Nodup.length_le_of_subset nd (fun x hx => (b x).mpr (k1.2.2.2.1 x hx))
      rw [k3 (by omega)]
      simp
  obtain ⟨w, a, b⟩ := List.mem_map.mp this
  exact ⟨w, a, b⟩
theorem aos_le (hT : TI T P nr sa fam A) : ∀ n v u, u < n → u < aN A → aos A v u → v ≤ u := by
  intro n
  induction n with
  | zero => intro v u h; omega
  | succ n ih =>
    intro v u h hu ha
    unfold aos at ha
    rw [aosF] at ha
    rcases ha with e | ⟨u', e, ha⟩
    · omega
    · have hlt := (aU_lt hT hu e).1
      have := ih v u' (by omega) (by omega) ((aosF_any hT u (u' + 1) v u' (by omega) (by omega) (by omega)).mp ha)
      omega
theorem in_kids (hT : TI T P nr sa fam A) {w u : Nat} (hw : w < aN A) (e : aU A w = some u) : w ∈ aC A u ∧ u < w ∧ ∃ p, aP A u = some p := by
  obtain ⟨h1, h2⟩ := aU_lt hT hw e
  obtain ⟨u', p, b1, b2, b3, b4, b5, b6, b7⟩ := hT.2.1 w h2 hw
  rw [e] at b2; cases b2
  exact ⟨b7, h1, p, b3⟩
/-- a node cannot come where all branches were made before -/
theorem no_more (hTA : TI T P nr sa fam A) (hPA : PRE T P nr fam A) (hPB : PRE T P nr fam B) {n u : Nat} (hn : n < aN A) (hnB : n ≤ aN B) (e : aU A n = some u) (ag : ∀ v, v < n → agV nr A B v) (hD : doneV T P nr fam B u) (hk : ∀ w, w ∈ aC B u → w < n) : False := by
  obtain ⟨h1, h2, p, h3⟩ := in_kids hTA hn e
  obtain ⟨a1, a2, a3, a4, a5, a6, a7, a8⟩ := ag u h2
  have hF := K3 hTA (show u < aN A by omega) h3 h1
  obtain ⟨w, w1, w2⟩ := K4all hD (by rw [← a3]; exact h3) (FU_congr a8 hF)
  have hw := hk w w1
  obtain ⟨c1, c2, c3⟩ := (hPB.2.1 u (by omega)).2 w w1
  obtain ⟨b1, b2, _⟩ := ag w hw
  have hwA : w ∈ aC A u := (in_kids hTA (by omega) (by rw [b1]; exact c3)).1
  have := K1 hTA hPA (show u < aN A by omega) h3 hwA h1 hw
  rw [b2, w2] at this
  exact lblt_irr this
theorem agV_sym {v : Nat} (h : agV nr A B v) : agV nr B A v := by
  obtain ⟨a1, a2, a3, a4, a5, a6, a7, a8⟩ := h
  exact ⟨a1.symm, a2.symm, a3.symm, a4.symm, a5.symm, a6.symm, a7.symm, fun r hr => (a8 r hr).symm⟩
/-- a node's own things follow from what may be and what was looked at -/
theorem look_same (hTA : TI T P nr sa fam A) (hTB : TI T P nr sa fam B) {v : Nat} (hA : v < aN A) (hB : v < aN B) (hW : aW A v = aW B v) (hO : ∀ r, r < nr → aO A v r = aO B v r) : aP A v = aP B v ∧ aR A v = aR B v ∧ aK A v = aK B v := by
  obtain ⟨a1, a2, a3, a4⟩ := hTA.2.2.1 v hA
  obtain ⟨b1, b2, b3, b4⟩ := hTB.2.2.1 v hB
  have eR : aR A v = aR B v := fP1_one (fP1_congr a1 hO) b1
  have eK : aK A v = aK B v := by
    cases g : aR A v with
    | none => rw [a2 g, b2 (by rw [← eR]; exact g)]
    | some r =>
      have h1 := a3 r g
      have h2 := b3 r (by rw [← eR]; exact g)
      rw [hW] at h1
      exact fA_one h1 h2
  exact ⟨by rw [a4, b4, eK], eR, eK⟩
theorem UNI (hTA : TI T P nr sa fam A) (hPA : PRE T P nr fam A) (hTB : TI T P nr sa fam B) (hPB : PRE T P nr fam B) (hDB : ∀ v, v < aN B → doneV T P nr fam B v) : ∀ n, n ≤ aN A → n ≤ aN B ∧ ∀ v, v < n → agV nr A B v := by
  intro n
  induction n with
  | zero => intro _; exact ⟨Nat.zero_le _, fun v hv => by omega⟩
  | succ n ih =>
    intro hn
    obtain ⟨hnB, ag⟩ := ih (by omega)
    have hn' : n < aN A := by omega
    have key : n < aN B ∧ agV nr A B n := by
      by_cases n0 : n = 0
      · subst n0
        obtain ⟨a1, a2, a3, a4, a5⟩ := hTA.1
        obtain ⟨b1, b2, b3, b4, b5⟩ := hTB.1
        have hO : ∀ r, r < nr → aO A 0 r = aO B 0 r := fun r hr => by rw [a5 r hr, b5 r hr]
        have hW : aW A 0 = aW B 0 := by rw [a4, b4]
        obtain ⟨l1, l2, l3⟩ := look_same hTA hTB hn' (by omega) hW hO
        exact ⟨by omega, by rw [a2, b2], by rw [hPA.2.2, hPB.2.2], l1, l2, l3, by rw [a3, b3], hW, hO⟩
      · obtain ⟨u, p, b1, b2, b3, b4, b5, b6, b7⟩ := hTA.2.1 n (by omega) hn'
        have hnB' : n < aN B := by
          rcases Nat.lt_or_ge n (aN B) with c | c
          · exact c
          · exfalso
            have e : aN B = n := by omega
            exact no_more hTA hPA hPB hn' hnB b2 ag (hDB u (by omega)) (fun w hw => by rw [← e]; exact ((hPB.2.1 u (by omega)).2 w hw).1)
        obtain ⟨u', p', c1, c2, c3, c4, c5, c6, c7⟩ := hTB.2.1 n (by omega) hnB'
        have eu : u = u' := by
          apply Classical.byContradiction
          intro hne
          by_cases z : aos B u u'
          · have h1 := aos_le hTB (u' + 1) u u' (by omega) (by omega) z
            have h2 : ¬ aos A u' u := fun y => by
              have := aos_le hTA (u + 1) u' u (by omega) (by omega) y
              omega
            obtain ⟨d1, d2⟩ := hPA.1 n u hn' b2 u' c1 h2
            exact no_more hTB hPB hPA hnB' (by omega) c2 (fun v hv => agV_sym (ag v hv)) d1 d2
          · obtain ⟨d1, d2⟩ := hPB.1 n u' hnB' c2 u b1 z
            exact no_more hTA hPA hPB hn' hnB b2 ag d1 d2
        subst eu
        obtain ⟨g1, g2, g3, g4, g5, g6, g7, g8⟩ := ag u b1
        have ep : p = p' := by rw [g3, c3] at b3; exact (Option.some.inj b3).symm
        subst ep
        have hFA := K3 hTA (show u < aN A by omega) b3 b7
        have hFB := K3 hTB (show u < aN B by omega) c3 c7
        have el : aL A n = aL B n := by
          apply Classical.byContradiction
          intro hne
          rcases lblt_tot hne with z | z
          · obtain ⟨w, w1, w2, w3⟩ := K2 hTB hPB (show u < aN B by omega) c3 c7 (FU_congr g8 hFA) z
            obtain ⟨d1, d2, d3⟩ := (hPB.2.1 u (by omega)).2 w w1
            obtain ⟨e1, e2, _⟩ := ag w w2
            have hwA : w ∈ aC A u := (in_kids hTA (by omega) (by rw [e1]; exact d3)).1
            have := K1 hTA hPA (show u < aN A by omega) b3 hwA b7 w2
            rw [e2, w3] at this
            exact lblt_irr this
          · obtain ⟨w, w1, w2, w3⟩ := K2 hTA hPA (show u < aN A by omega) b3 b7 (FU_congr (fun r hr => (g8 r hr).symm) hFB) z
            obtain ⟨d1, d2, d3⟩ := (hPA.2.1 u (by omega)).2 w w1
            obtain ⟨e1, e2, _⟩ := ag w w2
            have hwB : w ∈ aC B u := (in_kids hTB (by omega) (by rw [← e1]; exact d3)).1
            have := K1 hTB hPB (show u < aN B by omega) c3 hwB c7 w2
            rw [← e2, w3] at this
            exact lblt_irr this
        have hO : ∀ r, r < nr → aO A n r = aO B n r := fun r hr => by
          rw [b4 r hr, c4 r hr, el]
          unfold nar
          rw [g8 r hr]
        have hW : aW A n = aW B n := by rw [b5, c5, g7]
        obtain ⟨l1, l2, l3⟩ := look_same hTA hTB hn' hnB' hW hO
        exact ⟨hnB', by rw [b2, c2], el, l1, l2, l3, by rw [b6, c6, g6], hW, hO⟩
    refine ⟨by omega, fun v hv => ?_⟩
    by_cases e : v = n
    · rw [e]; exact key.2
    · exact ag v (by omega)
/-- two whole trees are one -/
theorem UNI2 (hTA : TI T P nr sa fam A) (hPA : PRE T P nr fam A) (hDA : ∀ v, v < aN A → doneV T P nr fam A v) (hTB : TI T P nr sa fam B) (hPB : PRE T P nr fam B) (hDB : ∀ v, v < aN B → doneV T P nr fam B v) : aN A = aN B ∧ ∀ v, v < aN A → agV nr A B v ∧ aC A v = aC B v := by
  obtain ⟨h1, h2⟩ := UNI hTA hPA hTB hPB hDB (aN A) (Nat.le_refl _)
  obtain ⟨h3, _⟩ := UNI hTB hPB hTA hPA hDA (aN B) (Nat.le_refl _)
  refine ⟨by omega, fun v hv => ⟨h2 v hv, ?_⟩⟩
  refine sorted_eq (hPA.2.1 v hv).1 (hPB.2.1 v (by omega)).1 (fun x => ⟨fun hx => ?_, fun hx => ?_⟩)
  · obtain ⟨a1, a2, a3⟩ := (hPA.2.1 v hv).2 x hx
    exact (in_kids hTB (by omega) (by rw [← (h2 x a1).1]; exact a3)).1
  · obtain ⟨a1, a2, a3⟩ := (hPB.2.1 v (by omega)).2 x hx
    exact (in_kids hTA (by omega) (by rw [(h2 x (by omega)).1]; exact a3)).1
end PUN
