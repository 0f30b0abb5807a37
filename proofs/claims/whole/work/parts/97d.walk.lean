-- PURE LAYER: a value's way through the tree: branches
section PWK1
variable {S : zS} {M : zM} {T : Tr} {nr : Nat} {sa : Nat → Nat} {nf : Nat} {fam : Nat → Nat} {bit : Nat → Int64} {np : Nat} {P : Nat → Pt} {nl : Nat} {fl : Nat → Nat × Nat} {ru : Nat → Nat} {ne : Nat} {ep : Nat → Nat} {el : Nat → Int32} {lst al : Nat → List Nat} {nx nk : Nat → Option Nat} {ue : Nat → Nat} {val : Nat} {A : Am} {nE nN : Nat → Option Nat}
theorem c_branchFor_L (hR : TRw S T nr sa ne ep el lst al nx nk ue) (hne : ne < 65536) (hN : NRw S A nE nN) (hn : aN A ≤ 4096) (hEd : EdI A nE ne ep el) (x : Int32) : ∀ (l : List Nat) (n c : Nat), lkd nN l → (∀ w, w ∈ l → w < aN A) → l.length < n → l.length ≤ c → c < 65536 → (f_Wlk_branchFor_L18 n S x (oI l.head?) (nI c) = some (-1) ∧ ∀ w, w ∈ l → aL A w ≠ none ∧ aL A w ≠ some x) ∨ ∃ l1 w l2, l = l1 ++ w :: l2 ∧ f_Wlk_branchFor_L18 n S x (oI l.head?) (nI c) = some (nI w) ∧ (aL A w = none ∨ aL A w = some x) ∧ ∀ y, y ∈ l1 → aL A y ≠ none ∧ aL A y ≠ some x := by
  intro l
  induction l with
  | nil =>
    intro n c _ _ hn' _ _
    cases n with
    | zero => simp at hn'
    | succ n =>
      left
      refine ⟨?_, fun w hw => by cases hw⟩
      unfold f_Wlk_branchFor_L18
      by_cases d : nI c ≤ 0
      · rw [if_pos d]
      · rw [if_neg d, if_pos (by rfl)]
  | cons w l ih =>
    intro n c hl hm hn' hc hc2
    cases n with
    | zero => simp at hn'
    | succ n =>
      have hw := hm w List.mem_cons_self
      have hc1 : 1 ≤ c := by simp at hc; omega
      obtain ⟨m1, m2⟩ := hEd w hw
      unfold f_Wlk_branchFor_L18
      have e1 : oI (w :: l).head? = nI w := rfl
      have e31 : f_Nod_edge S (nI w) = oI (nE w) := by unfold f_Nod_edge; rw [r_at_rd, hN.2.2.2.2.1, rowOf_rd hw (by omega)]
      have e34 : f_Nod_nextBranch S (nI w) = oI l.head? := by unfold f_Nod_nextBranch; rw [r_at_rd, hN.2.2.2.2.2.2.2.1, rowOf_rd hw (by omega), hl.1]
      rw [if_neg (by (simp (disch := omega) only [nI_1, nI_add, Int32.lt_iff_toInt_lt, Int32.le_iff_toInt_le, ← Int32.toInt_inj, nI_toInt, tI_0, tI_1, tI_2, tI_3, tI_4, tI_m1, tI_m2, tI_m3, tI_m4, tI_64, tI_128, tI_255, tI_256, tI_1000, tI_1024, tI_4096, tI_10000, tI_16384, tI_16386, tI_M]; omega)), e1, if_neg (nI_m1 (by omega)), zbind_e, e31]
      cases g : nE w with
      | none =>
        rw [g] at m1
        rw [oI_n, if_pos rfl]
        exact Or.inr ⟨[], w, l, rfl, rfl, Or.inl m1.symm, fun y hy => by cases hy⟩
      | some e =>
        obtain ⟨he, hep⟩ := m2 e g
        rw [g] at m1
        have m1 : some (el e) = aL A w := m1
        have e18 : f_Par_label S (nI e) = el e := by unfold f_Par_label; rw [r_at_rd, hR.2.2.2.2.2.1, rowOf_rd he (by omega)]
        rw [oI_s, if_neg (nI_m1 (by omega)), e18]
        by_cases z : el e = x
        · rw [if_neg (by simp [z])]
          exact Or.inr ⟨[], w, l, rfl, rfl, Or.inr (by rw [← m1, z]), fun y hy => by cases hy⟩
        · rw [if_pos z, zbind_e, e34, sb_m1 hc1]
          have hwx : aL A w ≠ none ∧ aL A w ≠ some x := ⟨by rw [← m1]; simp, by rw [← m1]; intro q; exact z (Option.some.inj q)⟩
          rcases ih n (c - 1) hl.2 (fun y hy => hm y (List.mem_cons_of_mem _ hy)) (by simp at hn'; omega) (by simp at hc; omega) (by omega) with ⟨a, b⟩ | ⟨l1, y, l2, b1, b2, b3, b4⟩
          · refine Or.inl ⟨a, fun y hy => ?_⟩
            rcases List.mem_cons.mp hy with q | q
            · rw [q]; exact hwx
            · exact b y q
          · refine Or.inr ⟨w :: l1, y, l2, by rw [b1]; rfl, b2, b3, fun z hz => ?_⟩
            rcases List.mem_cons.mp hz with q | q
            · rw [q]; exact hwx
            · exact b4 z q
/-- the branch for a number -/
theorem c_branchFor (hR : TRw S T nr sa ne ep el lst al nx nk ue) (hne : ne < 65536) (hN : NRw S A nE nN) (hKI : KI A nN) (hn : aN A ≤ 4096) (hEd : EdI A nE ne ep el) {v p : Nat} (hv : v < aN A) {ls : List Int32} {os : List (Option Int32)} (hk : kidOK T P nr fam A v p ls os) (x : Int32) : (∃ w, w ∈ aC A v ∧ w < aN A ∧ f_Wlk_branchFor S (nI v) x = some (nI w) ∧ ((aL A w = some x ∧ x ∈ ls) ∨ (aL A w = none ∧ x ∉ ls))) ∨ (f_Wlk_branchFor S (nI v) x = some (-1) ∧ x ∉ ls ∧ os = []) := by
  obtain ⟨k1, k2⟩ := hKI v hv
  have e32 : f_Nod_firstBranch S (nI v) = oI (aC A v).head? := by unfold f_Nod_firstBranch; rw [r_at_rd, hN.2.2.2.2.2.1, rowOf_rd hv (by omega)]
  have e27 : f_Nod_size S = nI (aN A) := by unfold f_Nod_size r_size; rw [hN.1, rowOf_len]
  have hlen : (aC A v).length ≤ aN A := nodup_len _ _ (lkd_nodup _ k1) (fun w hw => (k2 w hw).1)
  have hmap := hk.1
  have inls : ∀ w, w ∈ aC A v → ∀ y, aL A w = some y → y ∈ ls := fun w hw y e => by
    have : some y ∈ (aC A v).map (aL A) := List.mem_map.mpr ⟨w, hw, e⟩
    rw [hmap] at this
    rcases List.mem_append.mp this with q | q
    · obtain ⟨z, z1, z2⟩ := List.mem_map.mp q
      cases z2; exact z1
    · rcases hk.2.1 with o | o
      · rw [o] at q; cases q
      · rw [o] at q; simp at q
  have ofls : ∀ y, y ∈ ls → ∃ w, w ∈ aC A v ∧ aL A w = some y := fun y hy => by
    have : some y ∈ (aC A v).map (aL A) := by rw [hmap]; exact List.mem_append_left _ (List.mem_map.mpr ⟨y, hy, rfl⟩)
    obtain ⟨w, w1, w2⟩ := List.mem_map.mp this
    exact ⟨w, w1, w2⟩
  unfold f_Wlk_branchFor
  rw [zbind_e, zbind_e, e32, e27]
  rcases c_branchFor_L hR hne hN hn hEd x (aC A v) zbig (aN A) k1 (fun w hw => (k2 w hw).1) (by unfold zbig; omega) hlen (by omega) with ⟨a, b⟩ | ⟨l1, w, l2, b1, b2, b3, b4⟩
  · right
    refine ⟨a, fun m => ?_, ?_⟩
    · obtain ⟨w, w1, w2⟩ := ofls x m
      exact (b w w1).2 w2
    · rcases hk.2.1 with o | o
      · exact o
      · exfalso
        have : none ∈ (aC A v).map (aL A) := by rw [hmap, o]; simp
        obtain ⟨w, w1, w2⟩ := List.mem_map.mp this
        exact (b w w1).1 w2
  · left
    have hw : w ∈ aC A v := by rw [b1]; simp
    refine ⟨w, hw, (k2 w hw).1, b2, ?_⟩
    rcases b3 with q | q
    · right
      refine ⟨q, fun m => ?_⟩
      -- all others stand last
      have hm : l1.map (aL A) ++ none :: l2.map (aL A) = ls.map some ++ os := by
        rw [← hmap, b1, List.map_append, List.map_cons, q]
      have h1 : l1.length ≥ ls.length := by
        rcases Nat.lt_or_ge l1.length ls.length with c | c
        · have e : (l1.map (aL A) ++ none :: l2.map (aL A))[l1.length]? = (ls.map some ++ os)[l1.length]? := by rw [hm]
          rw [List.getElem?_append_right (by simp), List.getElem?_append_left (by simpa using c)] at e
          simp [c] at e
        · exact c
      obtain ⟨y, y1, y2⟩ := ofls x m
      rw [b1] at y1
      have hl2 : l2 = [] := by
        have := congrArg List.length hm
        rcases hk.2.1 with o | o
        · rw [o] at this; simp at this; omega
        · rw [o] at this; simp at this
          exact List.length_eq_zero_iff.mp (by omega)
      rcases List.mem_append.mp y1 with z | z
      · exact (b4 y z).2 y2
      · rw [hl2] at z
        have : y = w := by simpa using z
        rw [this, q] at y2; cases y2
    · exact Or.inl ⟨q, inls w hw x q⟩
/-- does a pattern with this number have an argument there -/
theorem arg_ch (hF : SF nf fam bit np P nl fl T nr ru sa) (hEP : EP P fl T nr ru) (hTG : ∀ i j, i < j → j < nr → TG P fl (ru i) (ru j)) {r p q : Nat} (ha : ak T r p = some q) : (tCh T p (pM (P q))).isSome = (pO (P q)).isSome := by
  have hT := hF.2.1.1
  have hW := hF.1
  have hw := hW.2.2.2.2
  obtain ⟨a1, a2, a3, a4, a5, a6, a7⟩ := SF_ak hF ha
  have hk : ∀ a b x, a < np → x ∈ kidG P fl a b → x.1 < a := fun a b x ha hx => kidG_1 (hw a ha) hx
  cases g : tCh T p (pM (P q)) with
  | some c =>
    obtain ⟨c1, c2, c3, c4⟩ := tCh_ok g
    obtain ⟨r', y, b1, b2⟩ := hEP.1 c c1 c2
    obtain ⟨q', d1, d2⟩ := oc_up hT c1 c2 b2
    rw [c3] at d1
    rw [c4] at d2
    have hq' := oc_lt hT hW (hF.2.2.2.1 r' b1) _ _ _ (Nat.lt_succ_self _) a2 d1
    have nz := (sub_lt (hw q' hq') d2).2
    -- the same kind, whichever rule is first
    have key : pK (P q') = pK (P q) ∧ (pM (P q') = pM (P q) → (pO (P q')).isSome = (pO (P q)).isSome) := by
      rcases Nat.lt_trichotomy r' r with z | z | z
      · have tg := oc_TG hT hW (hF.2.2.2.1 r' b1) (hF.2.2.2.1 r a1) (hTG r' r z a1) _ _ _ _ (Nat.lt_succ_self _) a2 d1 a7
        rcases ((Hh_iff hk hq').mp tg).1 with g1 | g1 | ⟨g1, g2, g3⟩
        · exact absurd g1 nz.1
        · omega
        · exact ⟨g1, g3⟩
      · subst z
        rw [a7] at d1; cases d1
        exact ⟨rfl, fun _ => rfl⟩
      · have tg := oc_TG hT hW (hF.2.2.2.1 r a1) (hF.2.2.2.1 r' b1) (hTG r r' z b1) _ _ _ _ (Nat.lt_succ_self _) a2 a7 d1
        rcases ((Hh_iff hk a3).mp tg).1 with g1 | g1 | ⟨g1, g2, g3⟩
        · omega
        · exact absurd g1 nz.1
        · exact ⟨g1.symm, fun e => (g3 e.symm).symm⟩
    have n4 : pK (P q') ≠ 4 := by rw [key.1]; omega
    unfold sub at d2
    rw [if_neg n4] at d2
    split at d2
    · next hm =>
      rw [← key.2 hm, d2]; rfl
    · cases d2
  | none =>
    cases ox : pO (P q) with
    | none => rfl
    | some y =>
      obtain ⟨j, j1, j2⟩ := ak_ok ha
      have := hEP.2.1 j j1 y (by rw [j2]; exact ox)
      rw [j2] at this
      exact absurd g this
/-- a number that has no branch has the branch of all others -/
theorem all_cov (hF : SF nf fam bit np P nl fl T nr ru sa) {v p h : Nat} {ls : List Int32} {os : List (Option Int32)} (hk : kidOK T P nr fam A v p ls os) (hlen : ¬ ls.length < allOf fam (tH T p)) (hh : h < np) (hs : (pK (P h), pS (P h)) = tH T p) : pM (P h) ∈ ls := by
  have hw := hF.1.2.2.2.2
  have hnr := hF.2.2.2.2.2.2
  have few := ls_few hF hk
  have nd : ls.Nodup := hk.2.2.1.imp (fun {a b} hab => fun q => by subst q; exact i32_irr hab)
  -- every number is in the range
  have pig : ∀ B : Nat, B < 2 ^ 31 → (∀ x, x ∈ ls → ∃ t, t < B ∧ x = nI t) → (∃ t, t < B ∧ pM (P h) = nI t) → B ≤ ls.length → pM (P h) ∈ ls := by
    intro B hB h1 ⟨t, t1, t2⟩ h2
    apply Classical.byContradiction
    intro hn
    have := nodup_len B ((pM (P h) :: ls).map (fun x => x.toNatClampNeg)) (by
      refine List.pairwise_map.mpr ?_
      have nd2 : (pM (P h) :: ls).Nodup := List.nodup_cons.mpr ⟨hn, nd⟩
      refine List.Pairwise.imp_of_mem (fun {a b} ha hb hab => ?_) nd2
      have rng : ∀ x, x ∈ pM (P h) :: ls → ∃ t, t < B ∧ x = nI t := fun x hx => by
        rcases List.mem_cons.mp hx with q | q
        · rw [q]; exact ⟨t, t1, t2⟩
        · exact h1 x q
      obtain ⟨s, s1, s2⟩ := rng a ha
      obtain ⟨u, u1, u2⟩ := rng b hb
      rw [s2, u2, nI_clamp (by omega), nI_clamp (by omega)]
      intro e
      exact hab (by rw [s2, u2, e])) (fun y hy => by
      obtain ⟨x, x1, x2⟩ := List.mem_map.mp hy
      have : ∃ t, t < B ∧ x = nI t := by
        rcases List.mem_cons.mp x1 with q | q
        · rw [q]; exact ⟨t, t1, t2⟩
        · exact h1 x q
      obtain ⟨s, s1, s2⟩ := this
      rw [← x2, s2, nI_clamp (by omega)]; exact s1)
    simp at this
    omega
  have ofnu : ∀ x, x ∈ ls → ∃ q, q < np ∧ (pK (P q), pS (P q)) = tH T p ∧ pM (P q) = x := fun x hx => by
    obtain ⟨r, q, r1, r2, r3, r4⟩ := hk.2.2.2.1 x hx
    obtain ⟨b1, b2, b3, b4, b5, b6, b7⟩ := SF_ak hF r3
    exact ⟨q, b3, b6.symm, r4⟩
  unfold allOf at hlen
  by_cases e2 : (tH T p).1 = 2
  · rw [if_pos e2] at hlen
    have kh : pK (P h) = 2 := by rw [← hs] at e2; exact e2
    obtain ⟨f, t, g1, g2, g3, g4, g5⟩ := (hw h hh).2.2.2.2.2.2.2.2.2.2.2.2.2.1 kh
    have hf := hF.1.2.2.1 f g3
    have hfn := hF.1.2.2.2.1
    have hth : (tH T p).2 = nI f := by rw [← hs]; exact g1
    rw [hth, nI_clamp (by omega)] at hlen
    refine pig (fam f) (by omega) (fun x hx => ?_) ⟨t, g4, g2⟩ (by omega)
    obtain ⟨q, q1, q2, q3⟩ := ofnu x hx
    have kq : pK (P q) = 2 := by rw [← q2] at e2; exact e2
    obtain ⟨f', t', i1, i2, i3, i4, i5⟩ := (hw q q1).2.2.2.2.2.2.2.2.2.2.2.2.2.1 kq
    have : f' = f := by
      rw [← q2] at hth
      have hth : pS (P q) = nI f := hth
      rw [i1] at hth
      exact (nI_eq (by omega) (by omega)).mp hth
    subst this
    exact ⟨t', i4, by rw [← q3]; exact i2⟩
  · rw [if_neg e2] at hlen
    by_cases e1 : (tH T p).1 = 1 ∧ (tH T p).2 = 2
    · rw [if_pos e1] at hlen
      have kh : pK (P h) = 1 ∧ pS (P h) = 2 := by rw [← hs] at e1; exact e1
      refine pig 256 (by omega) (fun x hx => ?_) ((hw h hh).2.2.2.2.2.2.2.2.2.2.2.2.2.2.1 kh.1 kh.2) (by omega)
      obtain ⟨q, q1, q2, q3⟩ := ofnu x hx
      have kq : pK (P q) = 1 ∧ pS (P q) = 2 := by rw [← q2] at e1; exact e1
      obtain ⟨t, t1, t2⟩ := (hw q q1).2.2.2.2.2.2.2.2.2.2.2.2.2.2.1 kq.1 kq.2
      exact ⟨t, t1, by rw [← q3]; exact t2⟩
    · rw [if_neg e1] at hlen
      omega
end PWK1
