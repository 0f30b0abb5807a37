-- PURE LAYER: what holds while a rule is laid
/-- an ask, as it must be -/
def askOK (P : Nat → Pt) (fl : Nat → Nat × Nat) (T : Tr) (nr : Nat) (ru : Nat → Nat) (k : Nat) : Prop :=
  (tK T k).1 < nr ∧ (tK T k).2.1 < tQ T ∧ oc P fl T (ru (tK T k).1) (tK T k).2.1 = some (tK T k).2.2 ∧ (1 ≤ pK (P (tK T k).2.2) ∧ pK (P (tK T k).2.2) ≤ 3) ∧ tH T (tK T k).2.1 = (pK (P (tK T k).2.2), pS (P (tK T k).2.2)) ∧ chn P fl T (ru (tK T k).1) (tK T k).1 k (tK T k).2.1
/-- what holds of the parts of nr rules -/
def GI (P : Nat → Pt) (fl : Nat → Nat × Nat) (T : Tr) (nr : Nat) (ru : Nat → Nat) : Prop :=
  TW T ∧ CI T ∧ (∀ k, k < tA T → askOK P fl T nr ru k) ∧ (∀ k k', k < tA T → k' < tA T → (tK T k).1 = (tK T k').1 → (tK T k).2.1 = (tK T k').2.1 → k = k') ∧ ∀ p, p < tQ T → (tH T p).1 ≠ 0 → ∃ r q, r < nr ∧ oc P fl T (ru r) p = some q ∧ tH T p = (pK (P q), pS (P q))
/-- while rule r is laid: parts done, parts that wait -/
def LI (P : Nat → Pt) (fl : Nat → Nat × Nat) (T : Tr) (r : Nat) (ru : Nat → Nat) (Vis : List Nat) (st : List (Nat × Nat)) : Prop :=
  TW T ∧ CI T ∧ (∀ k, k < tA T → askOK P fl T (r + 1) ru k) ∧ (∀ k k', k < tA T → k' < tA T → (tK T k).1 = (tK T k').1 → (tK T k).2.1 = (tK T k').2.1 → k = k') ∧
  (∀ p, p < tQ T → (tH T p).1 ≠ 0 → (∃ r' q, r' < r ∧ oc P fl T (ru r') p = some q ∧ tH T p = (pK (P q), pS (P q))) ∨ (p ∈ Vis ∧ ∃ q, oc P fl T (ru r) p = some q ∧ tH T p = (pK (P q), pS (P q)))) ∧
  ((st.map Prod.snd).Nodup ∧ ∀ x, x ∈ st → x.2 ∉ Vis) ∧ (∀ s, s ∈ Vis ∨ s ∈ st.map Prod.snd → s ≠ 0 → tU T s ∈ Vis) ∧ (∀ x, x ∈ st → x.2 < tQ T ∧ oc P fl T (ru r) x.2 = some x.1 ∧ chn P fl T (ru r) r (tA T) x.2) ∧ (∀ v, v ∈ Vis → v < tQ T) ∧ ∀ k, k < tA T → (tK T k).1 = r → (tK T k).2.1 ∈ Vis
section PLI
variable {nf : Nat} {fam : Nat → Nat} {bit : Nat → Int64} {np : Nat} {P : Nat → Pt} {nl : Nat} {fl : Nat → Nat × Nat} {T T' : Tr} {r : Nat} {ru : Nat → Nat} {Vis : List Nat} {st ks : List (Nat × Nat)} {q p : Nat}
theorem LI_ext (hW : PWF nf fam bit np P nl fl) (hru : ∀ i, i ≤ r → ru i < np) (h : LI P fl T r ru Vis (st ++ [(q, p)])) (hT' : TW T') (hC' : CI T') (hE : Ext T T') (hS : ∀ i, i < tQ T → (tH T i).1 ≠ 0 → tH T' i = tH T i) (hH : ∀ i, i < tQ T' → i ≠ p → (tH T' i).1 ≠ 0 → i < tQ T ∧ tH T' i = tH T i)
    (hp1 : pK (P q) ≠ 0 → tH T' p = (pK (P q), pS (P q))) (hp2 : pK (P q) = 0 → tH T' p = tH T p) (hA : tA T' = tA T ∨ (tA T' = tA T + 1 ∧ tK T' (tA T) = (r, p, q) ∧ 1 ≤ pK (P q) ∧ pK (P q) ≤ 3))
    (hks : ∀ x, x ∈ ks → 1 ≤ x.2 ∧ x.2 < tQ T' ∧ tU T' x.2 = p ∧ sub P fl q (tL T' x.2) = some x.1 ∧ (pK (P q) = 4 ∨ tA T' = tA T + 1)) (hnd : (ks.map Prod.snd).Nodup) : LI P fl T' r ru (p :: Vis) (st ++ ks) := by
  obtain ⟨hT, hC, a1, a2, a3, ⟨a4, a5⟩, a6, a7, a8, a9⟩ := h
  have hr := hru r (Nat.le_refl _)
  have mp : (q, p) ∈ st ++ [(q, p)] := by simp
  have mst : ∀ x, x ∈ st → x ∈ st ++ [(q, p)] := fun x hx => List.mem_append_left _ hx
  have hpV : p ∉ Vis := a5 _ mp
  obtain ⟨hpQ, hpo, hpc⟩ := a7 _ mp
  have hpQ : p < tQ T := hpQ
  have hpo : oc P fl T (ru r) p = some q := hpo
  have hpc : chn P fl T (ru r) r (tA T) p := hpc
  have hq := oc_lt hT hW hr _ _ _ (Nat.lt_succ_self _) hpQ hpo
  have oce : ∀ root i, i < tQ T → oc P fl T' root i = oc P fl T root i := fun root i hi => oc_ext hT hT' hE _ _ (Nat.lt_succ_self _) hi
  have hAle : tA T ≤ tA T' := hE.2.1
  -- nodup of the old pile
  have nd' : (st.map Prod.snd).Nodup ∧ ∀ x, x ∈ st → x.2 ≠ p := by
    rw [List.map_append] at a4
    obtain ⟨n1, n2, n3⟩ := List.nodup_append.mp a4
    exact ⟨n1, fun x hx => n3 x.2 (List.mem_map_of_mem hx) p (by simp)⟩
  have hpT' : p < tQ T' := Nat.lt_of_lt_of_le hpQ hE.1
  have hpo' : oc P fl T' (ru r) p = some q := by rw [oce _ _ hpQ]; exact hpo
  have chp : chn P fl T' (ru r) r (tA T) p := chn_ext hT hT' hE hS hW hr (Nat.le_refl _) (Nat.le_refl _) _ _ (Nat.lt_succ_self _) hpQ hpc (fun _ => ⟨q, hpo⟩)
  have chp' : chn P fl T' (ru r) r (tA T') p := chn_ext hT hT' hE hS hW hr hAle (Nat.le_refl _) _ _ (Nat.lt_succ_self _) hpQ hpc (fun _ => ⟨q, hpo⟩)
  -- a new child isn't among the old ones
  have fresh : ∀ x, x ∈ ks → x.2 ∉ Vis ∧ ∀ y, y ∈ st → y.2 ≠ x.2 := by
    intro x hx
    obtain ⟨b1, b2, b3, b4, b5⟩ := hks x hx
    refine ⟨fun m => ?_, fun y hy e => ?_⟩
    · have hv := a8 _ m
      have := a6 _ (Or.inl m) (by omega)
      rw [← (hE.2.2.1 _ hv).1, b3] at this
      exact hpV this
    · obtain ⟨c1, c2, c3⟩ := a7 y (mst y hy)
      have := a6 y.2 (Or.inr (List.mem_map_of_mem (mst y hy))) (by omega)
      rw [← (hE.2.2.1 _ c1).1, e, b3] at this
      exact hpV this
  refine ⟨hT', hC', fun k hk => ?_, fun k k' hk hk' e1 e2 => ?_, fun i hi hn => ?_, ⟨?_, fun x hx => ?_⟩, fun s hs hs0 => ?_, fun x hx => ?_, fun v hv => ?_, fun k hk e => ?_⟩
  · by_cases c : k < tA T
    · obtain ⟨b1, b2, b3, b4, b5, b6⟩ := a1 k c
      have ek := hE.2.2.2 k c
      unfold askOK
      rw [ek]
      refine ⟨b1, Nat.lt_of_lt_of_le b2 hE.1, by rw [oce _ _ b2]; exact b3, b4, by rw [hS _ b2 (by rw [b5]; show pK _ ≠ 0; omega)]; exact b5, ?_⟩
      exact chn_ext hT hT' hE hS hW (hru _ (by omega)) (Nat.le_refl _) (by omega) _ _ (Nat.lt_succ_self _) b2 b6 (fun _ => ⟨_, b3⟩)
    · rcases hA with y | ⟨y1, y2, y3, y4⟩
      · omega
      · have : k = tA T := by omega
        subst this
        unfold askOK
        rw [y2]
        exact ⟨by show r < r + 1; omega, hpT', hpo', ⟨y3, y4⟩, hp1 (by omega), chp⟩
  · by_cases c : k < tA T
    · by_cases d : k' < tA T
      · rw [hE.2.2.2 k c, hE.2.2.2 k' d] at e1 e2
        exact a2 k k' c d e1 e2
      · rcases hA with y | ⟨y1, y2, y3, y4⟩
        · omega
        · have : k' = tA T := by omega
          subst this
          rw [hE.2.2.2 k c, y2] at e1 e2
          have := a9 k c e1
          rw [e2] at this
          exact absurd this hpV
    · rcases hA with y | ⟨y1, y2, y3, y4⟩
      · omega
      · have hk1 : k = tA T := by omega
        subst hk1
        by_cases d : k' < tA T
        · rw [hE.2.2.2 k' d, y2] at e1 e2
          have := a9 k' d e1.symm
          rw [← e2] at this
          exact absurd this hpV
        · omega
  · by_cases c : i = p
    · subst c
      by_cases z : pK (P q) = 0
      · rw [hp2 z] at hn ⊢
        rcases a3 i hpQ hn with ⟨r', x, w1, w2, w3⟩ | ⟨w1, -⟩
        · exact Or.inl ⟨r', x, w1, by rw [oce _ _ hpQ]; exact w2, w3⟩
        · exact absurd w1 hpV
      · exact Or.inr ⟨List.mem_cons_self, q, hpo', hp1 z⟩
    · obtain ⟨w1, w2⟩ := hH i hi c hn
      rw [w2] at hn ⊢
      rcases a3 i w1 hn with ⟨r', x, u1, u2, u3⟩ | ⟨u1, x, u2, u3⟩
      · exact Or.inl ⟨r', x, u1, by rw [oce _ _ w1]; exact u2, u3⟩
      · exact Or.inr ⟨List.mem_cons_of_mem _ u1, x, by rw [oce _ _ w1]; exact u2, u3⟩
  · rw [List.map_append]
    refine List.nodup_append.mpr ⟨nd'.1, hnd, fun a ha b hb => ?_⟩
    obtain ⟨y, hy, ey⟩ := List.mem_map.mp ha
    obtain ⟨x, hx, ex⟩ := List.mem_map.mp hb
    rw [← ey, ← ex]
    exact (fresh x hx).2 y hy
  · intro m
    rcases List.mem_append.mp hx with y | y
    · rcases List.mem_cons.mp m with z | z
      · exact nd'.2 x y z
      · exact a5 x (mst x y) z
    · obtain ⟨b1, b2, b3, b4, b5⟩ := hks x y
      rcases List.mem_cons.mp m with z | z
      · have := hT'.2.1 x.2 b1 b2
        omega
      · exact (fresh x y).1 z
  · rcases hs with y | y
    · rcases List.mem_cons.mp y with z | z
      · subst z
        rw [(hE.2.2.1 s hpQ).1]
        exact List.mem_cons_of_mem _ (a6 s (Or.inr (by simp)) hs0)
      · rw [(hE.2.2.1 s (a8 s z)).1]
        exact List.mem_cons_of_mem _ (a6 s (Or.inl z) hs0)
    · rw [List.map_append] at y
      rcases List.mem_append.mp y with z | z
      · obtain ⟨x, hx, ex⟩ := List.mem_map.mp z
        have hxQ := (a7 x (mst x hx)).1
        rw [← ex] at hs0 ⊢
        rw [(hE.2.2.1 _ hxQ).1]
        exact List.mem_cons_of_mem _ (a6 x.2 (Or.inr (List.mem_map_of_mem (mst x hx))) hs0)
      · obtain ⟨x, hx, ex⟩ := List.mem_map.mp z
        rw [← ex, (hks x hx).2.2.1]
        exact List.mem_cons_self
  · rcases List.mem_append.mp hx with y | y
    · obtain ⟨b1, b2, b3⟩ := a7 x (mst x y)
      refine ⟨Nat.lt_of_lt_of_le b1 hE.1, by rw [oce _ _ b1]; exact b2, ?_⟩
      exact chn_ext hT hT' hE hS hW hr hAle (Nat.le_refl _) _ _ (Nat.lt_succ_self _) b1 b3 (fun _ => ⟨_, b2⟩)
    · obtain ⟨b1, b2, b3, b4, b5⟩ := hks x y
      have hup : oc P fl T' (ru r) (tU T' x.2) = some q := by rw [b3]; exact hpo'
      refine ⟨b2, by rw [oc_sub hT' b1 b2 hup]; exact b4, ?_⟩
      refine (chn_s hT' b1 b2).mpr ⟨q, hup, ?_, ?_, ?_⟩
      · rw [b3]; exact hp1 (sub_lt (hW.2.2.2.2 q hq) b4).2.1
      · rcases b5 with w | w
        · exact Or.inl w
        · rcases hA with z | ⟨z1, z2, -⟩
          · omega
          · exact Or.inr ⟨tA T, by omega, by rw [b3]; exact z2⟩
      · rw [b3]; exact chp'
  · rcases List.mem_cons.mp hv with z | z
    · rw [z]; exact hpT'
    · exact Nat.lt_of_lt_of_le (a8 v z) hE.1
  · by_cases c : k < tA T
    · rw [hE.2.2.2 k c] at e ⊢
      exact List.mem_cons_of_mem _ (a9 k c e)
    · rcases hA with y | ⟨y1, y2, y3, y4⟩
      · omega
      · have : k = tA T := by omega
        subst this
        rw [y2]
        exact List.mem_cons_self
theorem LI_cons (hW : PWF nf fam bit np P nl fl) (hru : ∀ i, i ≤ r → ru i < np) (hTG : ∀ i, i < r → TG P fl (ru i) (ru r)) (h : LI P fl T r ru Vis (st ++ [(q, p)])) (hk : pK (P q) ≠ 0) : Cons T P p q := by
  obtain ⟨hT, hC, a1, a2, a3, ⟨a4, a5⟩, a6, a7, a8, a9⟩ := h
  have mp : (q, p) ∈ st ++ [(q, p)] := by simp
  obtain ⟨hpQ, hpo, hpc⟩ := a7 _ mp
  have hpQ : p < tQ T := hpQ
  have hpo : oc P fl T (ru r) p = some q := hpo
  have hr := hru r (Nat.le_refl _)
  by_cases z : (tH T p).1 = 0
  · exact Or.inl z
  · right
    rcases a3 p hpQ z with ⟨r', x, w1, w2, w3⟩ | ⟨w1, -⟩
    · have hx := oc_lt hT hW (hru r' (by omega)) _ _ _ (Nat.lt_succ_self _) hpQ w2
      have tg := oc_TG hT hW (hru r' (by omega)) hr (hTG r' w1) _ _ _ _ (Nat.lt_succ_self _) hpQ w2 hpo
      have hw := hW.2.2.2.2
      obtain ⟨g1, -⟩ := (Hh_iff (fun a b q ha hq => kidG_1 (hw a ha) hq) hx).mp tg
      rw [w3] at z ⊢
      rcases g1 with g | g | ⟨g, g', -⟩
      · exact absurd g z
      · exact absurd g hk
      · rw [g, g']
    · exact absurd w1 (a5 _ mp)
theorem LI_step (hW : PWF nf fam bit np P nl fl) (hru : ∀ i, i ≤ r → ru i < np) (hTG : ∀ i, i < r → TG P fl (ru i) (ru r)) (h : LI P fl T r ru Vis (st ++ [(q, p)])) : LI P fl (tStep P fl r q p T st).1 r ru (p :: Vis) (tStep P fl r q p T st).2 := by
  have h' := h
  have hcons := LI_cons hW hru hTG h
  obtain ⟨hT, hC, a1, a2, a3, ⟨a4, a5⟩, a6, a7, a8, a9⟩ := h
  have mp : (q, p) ∈ st ++ [(q, p)] := by simp
  obtain ⟨hpQ, hpo, hpc⟩ := a7 _ mp
  have hpQ : p < tQ T := hpQ
  have hpo : oc P fl T (ru r) p = some q := hpo
  have hr := hru r (Nat.le_refl _)
  have hq := oc_lt hT hW hr _ _ _ (Nat.lt_succ_self _) hpQ hpo
  have hwq := hW.2.2.2.2 q hq
  have hKq := pwK hwq
  have shS : pK (P q) ≠ 0 → ∀ i, (tH T i).1 ≠ 0 → va_up (tH T) p (pK (P q), pS (P q)) i = tH T i := by
    intro hk i hi
    by_cases c : i = p
    · subst c
      rw [va_s]
      rcases hcons hk with y | y
      · exact absurd y hi
      · exact y.symm
    · exact va_n c
  unfold tStep
  by_cases e4 : pK (P q) = 4
  · rw [if_pos e4]
    have hCs : CI (tShape T p (pK (P q), pS (P q))) := CI_shape hC (by show pK (P q) ≠ 0; omega)
    obtain ⟨b1, b2, b3, b4, b5, b6, ks, b7, b8, b9, b10⟩ := tFields_ok (P := P) (fl := fl) (q := q) (p := p) (pN (P q)) (tShape T p (pK (P q), pS (P q))) st hT hpQ
    have exS : Ext T (tShape T p (pK (P q), pS (P q))) := ⟨Nat.le_refl _, Nat.le_refl _, fun _ _ => ⟨rfl, rfl⟩, fun _ _ => rfl⟩
    generalize hX : (tFields P fl q p (pN (P q)) (tShape T p (pK (P q), pS (P q))) st).1 = X at *
    have b5' : ∀ i, i < tQ T → tH X i = va_up (tH T) p (pK (P q), pS (P q)) i := b5
    have hxp : tH X p = (pK (P q), pS (P q)) := by rw [b5' p hpQ, va_s]
    rw [b7]
    have tup : ∀ x, x ∈ ks → ∃ i, i < pN (P q) ∧ ∃ c, x = (fP P fl q i, c) ∧ 1 ≤ c ∧ c < tQ X ∧ tU X c = p ∧ tL X c = nI (fN P fl q i) := fun x hx => by
      obtain ⟨i, hi, e⟩ := getD_mem hx
      obtain ⟨c, w⟩ := b10 i (by omega)
      rw [e] at w
      exact ⟨pN (P q) - 1 - i, by omega, c, w⟩
    refine LI_ext hW hru h' b1 ?_ (Ext_tr exS b2) (fun i hi hn => by rw [b5' i hi]; exact shS (by omega) i hn) (fun i hi hne hn => ?_) (fun _ => hxp) (fun e => by omega) (Or.inl b4) (fun x hx => ?_) ?_
    · -- CI
      intro c h1 h2
      by_cases d : c < tQ T
      · have hu := hT.2.1 c h1 d
        rw [(b2.2.2.1 c d).1]
        show (tH X (tU T c)).1 ≠ 0
        rw [b5' _ (by omega)]
        exact hCs c h1 d
      · have := (b6 c (by show tQ T ≤ c; omega) h2).2
        rw [this, hxp]
        show pK (P q) ≠ 0; omega
    · by_cases d : i < tQ T
      · exact ⟨d, by rw [b5' i d, va_n hne]⟩
      · have := (b6 i (by show tQ T ≤ i; omega) hi).1
        rw [this] at hn
        exact absurd rfl hn
    · obtain ⟨i, hi, c, w1, w2, w3, w4, w5⟩ := tup x hx
      rw [w1]
      exact ⟨w2, w3, w4, by show sub P fl q (tL X c) = some (fP P fl q i); rw [w5]; exact sub_fld hwq e4 hi, Or.inl e4⟩
    · refine List.pairwise_iff_getElem.mpr (fun i j hi hj hij => ?_)
      rw [List.length_map] at hi hj
      rw [List.getElem_map, List.getElem_map]
      obtain ⟨c, w1, w2, w3, w4, w5⟩ := b10 i (by omega)
      obtain ⟨d, u1, u2, u3, u4, u5⟩ := b10 j (by omega)
      have g1 : ks[i] = (fP P fl q (pN (P q) - 1 - i), c) := by
        rw [← w1]; simp [List.getD, hi]
      have g2 : ks[j] = (fP P fl q (pN (P q) - 1 - j), d) := by
        rw [← u1]; simp [List.getD, hj]
      rw [g1, g2]
      intro e
      have e : c = d := e
      rw [← e, w5] at u5
      have f1 := (pwP hwq (j := pN (P q) - 1 - i) (by omega)).2
      have f2 := (pwP hwq (j := pN (P q) - 1 - j) (by omega)).2
      have := (nI_eq (by omega) (by omega)).mp u5
      have := pwI hwq (pN (P q) - 1 - j) (pN (P q) - 1 - i) (by omega) (by omega)
      omega
  · rw [if_neg e4]
    by_cases e0 : pK (P q) = 0
    · rw [if_pos e0]
      have := LI_ext (ks := []) hW hru h' hT hC Ext_rf (fun _ _ _ => rfl) (fun i hi _ _ => ⟨hi, rfl⟩) (fun z => absurd e0 z) (fun _ => rfl) (Or.inl rfl) (fun x hx => by cases hx) List.nodup_nil
      rw [List.append_nil] at this
      exact this
    · rw [if_neg e0]
      have exA : Ext T (tAsked P r q p T) := ⟨Nat.le_refl _, by show tA T ≤ tA T + 1; omega, fun _ _ => ⟨rfl, rfl⟩, fun k hk => va_n (show k ≠ tA T by omega)⟩
      have hCA : CI (tAsked P r q p T) := CI_shape hC e0
      have hTA : TW (tAsked P r q p T) := hT
      have hpA : p < tQ (tAsked P r q p T) := hpQ
      have hxp : tH (tAsked P r q p T) p = (pK (P q), pS (P q)) := va_s
      have kA : tK (tAsked P r q p T) (tA T) = (r, p, q) := va_s
      cases ox : pO (P q) with
      | none =>
        have := LI_ext (ks := []) hW hru h' hTA hCA exA (fun i _ hn => shS e0 i hn) (fun i hi hne _ => ⟨hi, va_n hne⟩) (fun _ => hxp) (fun z => absurd z e0) (Or.inr ⟨rfl, kA, by omega, by omega⟩) (fun x hx => by cases hx) List.nodup_nil
        rw [List.append_nil] at this
        exact this
      | some x =>
        dsimp only
        obtain ⟨t1, t2, t3, t4, t5, t6, t7, t8, t9, t10, t11, t12⟩ := tChild_ok hTA hpA (pM (P q))
        have exC : Ext (tAsked P r q p T) (tChild (tAsked P r q p T) p (pM (P q))).1 := ⟨t2, by omega, fun i hi => ⟨(t10 i hi).1, (t10 i hi).2.1⟩, fun j _ => by rw [t9]⟩
        have t10' : ∀ i, i < tQ T → tH (tChild (tAsked P r q p T) p (pM (P q))).1 i = va_up (tH T) p (pK (P q), pS (P q)) i := fun i hi => (t10 i hi).2.2
        refine LI_ext hW hru h' t1 (CI_child hCA hTA hpA (by rw [hxp]; exact e0)) (Ext_tr exA exC) (fun i hi hn => by rw [t10' i hi]; exact shS e0 i hn) (fun i hi hne hn => ?_) (fun _ => by rw [t10' p hpQ, va_s]) (fun z => absurd z e0) (Or.inr ⟨t8, by rw [t9]; exact kA, by omega, by omega⟩) (fun y hy => ?_) (by simp)
        · by_cases d : i < tQ T
          · exact ⟨d, by rw [t10' i d, va_n hne]⟩
          · have t3' : tQ (tChild (tAsked P r q p T) p (pM (P q))).1 ≤ tQ T + 1 := t3
            have hi' : i = tQ T := by omega
            have := (t11 (by show _ = tQ T + 1; omega)).2
            have this : tH (tChild (tAsked P r q p T) p (pM (P q))).1 (tQ T) = (0, 0) := this
            rw [hi', this] at hn
            exact absurd rfl hn
        · have : y = (x, (tChild (tAsked P r q p T) p (pM (P q))).2) := by simpa using hy
          rw [this]
          refine ⟨t4, t5, t6, ?_, Or.inr t8⟩
          show sub P fl q (tL (tChild (tAsked P r q p T) p (pM (P q))).1 (tChild (tAsked P r q p T) p (pM (P q))).2) = some x
          rw [t7]
          exact sub_arg e4 ox
end PLI
