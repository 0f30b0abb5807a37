-- PURE LAYER: the steps of laying; the class's loop
def Ext (T T' : Tr) : Prop := tQ T ≤ tQ T' ∧ tA T ≤ tA T' ∧ (∀ i, i < tQ T → tU T' i = tU T i ∧ tL T' i = tL T i) ∧ ∀ k, k < tA T → tK T' k = tK T k
theorem Ext_rf {T : Tr} : Ext T T := ⟨Nat.le_refl _, Nat.le_refl _, fun _ _ => ⟨rfl, rfl⟩, fun _ _ => rfl⟩
theorem Ext_tr {T T1 T2 : Tr} (h : Ext T T1) (k : Ext T1 T2) : Ext T T2 := ⟨Nat.le_trans h.1 k.1, Nat.le_trans h.2.1 k.2.1, fun i hi => by
  have a := h.2.2.1 i hi
  have b := k.2.2.1 i (Nat.lt_of_lt_of_le hi h.1)
  exact ⟨b.1.trans a.1, b.2.trans a.2⟩, fun i hi => (k.2.2.2 i (Nat.lt_of_lt_of_le hi h.2.1)).trans (h.2.2.2 i hi)⟩
section PLB
variable {nf : Nat} {fam : Nat → Nat} {bit : Nat → Int64} {np : Nat} {P : Nat → Pt} {nl : Nat} {fl : Nat → Nat × Nat} {S : zS} {T : Tr} {nr : Nat} {sa : Nat → Nat}
theorem tFields_ok {q p : Nat} : ∀ k T st, TW T → p < tQ T → TW (tFields P fl q p k T st).1 ∧ Ext T (tFields P fl q p k T st).1 ∧ tQ (tFields P fl q p k T st).1 ≤ tQ T + k ∧ tA (tFields P fl q p k T st).1 = tA T ∧ (∀ i, i < tQ T → tH (tFields P fl q p k T st).1 i = tH T i) ∧ (∀ i, tQ T ≤ i → i < tQ (tFields P fl q p k T st).1 → tH (tFields P fl q p k T st).1 i = (0, 0) ∧ tU (tFields P fl q p k T st).1 i = p) ∧ ∃ ks : List (Nat × Nat), (tFields P fl q p k T st).2 = st ++ ks ∧ ks.length = k ∧ pot P ks = zsum (fun j => pZ (P (fP P fl q j))) k ∧ ∀ i, i < k → ∃ c, ks.getD i (0, 0) = (fP P fl q (k - 1 - i), c) ∧ 1 ≤ c ∧ c < tQ (tFields P fl q p k T st).1 ∧ tU (tFields P fl q p k T st).1 c = p ∧ tL (tFields P fl q p k T st).1 c = nI (fN P fl q (k - 1 - i)) := by
  intro k
  induction k with
  | zero => intro T st h hp; exact ⟨h, Ext_rf, Nat.le_refl _, rfl, fun _ _ => rfl, fun i h1 h2 => by
      have h2 : i < tQ T := h2
      omega, [], by simp [tFields], rfl, rfl, fun i hi => by omega⟩
  | succ k ih =>
    intro T st h hp
    obtain ⟨t1, t2, t3, t4, t5, t6, t7, t8, t9, t10, t11, t12⟩ := tChild_ok h hp (nI (fN P fl q k))
    generalize hX : (tChild T p (nI (fN P fl q k))).1 = X at *
    generalize hc : (tChild T p (nI (fN P fl q k))).2 = c at *
    have ef : tFields P fl q p (k + 1) T st = tFields P fl q p k X (st ++ [(fP P fl q k, c)]) := by rw [tFields, hX, hc]
    rw [ef]
    obtain ⟨a1, a2, a3, a4, a5, a6, ks, a7, a8, a9, a10⟩ := ih X (st ++ [(fP P fl q k, c)]) t1 (by omega)
    have ex : Ext T X := ⟨t2, by omega, fun i hi => ⟨(t10 i hi).1, (t10 i hi).2.1⟩, fun j _ => by rw [t9]⟩
    refine ⟨a1, Ext_tr ex a2, by omega, by omega, fun i hi => by rw [a5 i (by omega), (t10 i hi).2.2], fun i h1 h2 => ?_, (fP P fl q k, c) :: ks, by rw [a7]; simp, by simp [a8], ?_, fun i hi => ?_⟩
    · by_cases d : i < tQ X
      · have hi : i = tQ T := by omega
        have := t11 (by omega)
        rw [a5 i d, (a2.2.2.1 i d).1, hi, this.2]
        refine ⟨rfl, ?_⟩
        have e6 := t6
        rw [this.1] at e6
        exact e6
      · exact a6 i (by omega) h2
    · show pZ (P (fP P fl q k)) + pot P ks = zsum (fun j => pZ (P (fP P fl q j))) k + pZ (P (fP P fl q k))
      rw [a9]; omega
    · cases i with
      | zero =>
        refine ⟨c, by simp [List.getD], t4, by have := a2.1; omega, ?_, ?_⟩
        · rw [(a2.2.2.1 c t5).1]; exact t6
        · rw [(a2.2.2.1 c t5).2]; exact t7
      | succ i =>
        obtain ⟨d, b1, b2⟩ := a10 i (by omega)
        have : k + 1 - 1 - (i + 1) = k - 1 - i := by omega
        rw [this]
        exact ⟨d, by simpa [List.getD] using b1, b2⟩
/-- what stands on the pile -/
def stok (np : Nat) (T : Tr) (st : List (Nat × Nat)) : Prop := ∀ x, x ∈ st → x.1 < np ∧ x.2 < tQ T
theorem getD_mem {ks : List (Nat × Nat)} {x : Nat × Nat} (h : x ∈ ks) : ∃ i, i < ks.length ∧ ks.getD i (0, 0) = x := by
  obtain ⟨i, hi, e⟩ := List.mem_iff_getElem.mp h
  exact ⟨i, hi, by simp [List.getD, hi, e]⟩
theorem tStep_ok (hW : PWF nf fam bit np P nl fl) {r q p : Nat} {st : List (Nat × Nat)} (hq : q < np) (hp : p < tQ T) (hT : TW T) (hs : stok np T st) : TW (tStep P fl r q p T st).1 ∧ Ext T (tStep P fl r q p T st).1 ∧ stok np (tStep P fl r q p T st).1 (tStep P fl r q p T st).2 ∧ pot P (tStep P fl r q p T st).2 + 1 ≤ pot P st + pZ (P q) ∧ tQ (tStep P fl r q p T st).1 + pot P (tStep P fl r q p T st).2 + st.length + 1 ≤ tQ T + pot P st + pZ (P q) + (tStep P fl r q p T st).2.length ∧ tA (tStep P fl r q p T st).1 + pot P (tStep P fl r q p T st).2 ≤ tA T + pot P st + pZ (P q) ∧ (∃ ks, (tStep P fl r q p T st).2 = st ++ ks) := by
  obtain ⟨hnp, hnl, -, -, hw⟩ := hW
  have hwq := hw q hq
  have hz := (pwZ hwq).1
  have exS : ∀ x, Ext T (tShape T p x) := fun x => ⟨Nat.le_refl _, Nat.le_refl _, fun _ _ => ⟨rfl, rfl⟩, fun _ _ => rfl⟩
  unfold tStep
  by_cases e4 : pK (P q) = 4
  · rw [if_pos e4]
    obtain ⟨a1, a2, a3, a4, a5, a6, ks, a7, a8, a9, a10⟩ := tFields_ok (P := P) (fl := fl) (q := q) (p := p) (pN (P q)) (tShape T p (pK (P q), pS (P q))) st hT hp
    have a3' : tQ (tFields P fl q p (pN (P q)) (tShape T p (pK (P q), pS (P q))) st).1 ≤ tQ T + pN (P q) := a3
    have a4' : tA (tFields P fl q p (pN (P q)) (tShape T p (pK (P q), pS (P q))) st).1 = tA T := a4
    have hR := pwR hwq e4
    have hex := Ext_tr (exS _) a2
    have hpot : pot P (tFields P fl q p (pN (P q)) (tShape T p (pK (P q), pS (P q))) st).2 = pot P st + zsum (fun j => pZ (P (fP P fl q j))) (pN (P q)) := by rw [a7, pot_app, a9]
    have hlen : (tFields P fl q p (pN (P q)) (tShape T p (pK (P q), pS (P q))) st).2.length = st.length + pN (P q) := by rw [a7]; simp [a8]
    refine ⟨a1, hex, fun x hx => ?_, by omega, by omega, by omega, ks, a7⟩
    rw [a7] at hx
    rcases List.mem_append.mp hx with m | m
    · exact ⟨(hs x m).1, by have := (hs x m).2; have := hex.1; omega⟩
    · obtain ⟨i, hi, e⟩ := getD_mem m
      obtain ⟨c, b1, b2, b3, -⟩ := a10 i (by omega)
      rw [e] at b1
      rw [b1]
      exact ⟨by have := (pwP hwq (j := pN (P q) - 1 - i) (by omega)).1; show fP P fl q _ < np; omega, b3⟩
  · rw [if_neg e4]
    by_cases e0 : pK (P q) = 0
    · rw [if_pos e0]
      exact ⟨hT, Ext_rf, hs, by show pot P st + 1 ≤ _; omega, by show tQ T + pot P st + st.length + 1 ≤ tQ T + pot P st + pZ (P q) + st.length; omega, by show tA T + pot P st ≤ _; omega, [], by simp⟩
    · rw [if_neg e0]
      have exA : Ext T (tAsked P r q p T) := ⟨Nat.le_refl _, by show tA T ≤ tA T + 1; omega, fun _ _ => ⟨rfl, rfl⟩, fun k hk => va_n (show k ≠ tA T by omega)⟩
      cases ox : pO (P q) with
      | none =>
        refine ⟨hT, exA, hs, by show pot P st + 1 ≤ _; omega, by show tQ T + pot P st + st.length + 1 ≤ tQ T + pot P st + pZ (P q) + st.length; omega, by show tA T + 1 + pot P st ≤ _; omega, [], by simp⟩
      | some x =>
        dsimp only
        obtain ⟨hx1, hx2⟩ := pwO hwq ox
        have hTA : TW (tAsked P r q p T) := hT
        have hpA : p < tQ (tAsked P r q p T) := hp
        obtain ⟨t1, t2, t3, t4, t5, t6, t7, t8, t9, t10, t11, t12⟩ := tChild_ok hTA hpA (pM (P q))
        have t2' : tQ T ≤ tQ (tChild (tAsked P r q p T) p (pM (P q))).1 := t2
        have t3' : tQ (tChild (tAsked P r q p T) p (pM (P q))).1 ≤ tQ T + 1 := t3
        have t8' : tA (tChild (tAsked P r q p T) p (pM (P q))).1 = tA T + 1 := t8
        have exC : Ext (tAsked P r q p T) (tChild (tAsked P r q p T) p (pM (P q))).1 := ⟨t2, by omega, fun i hi => ⟨(t10 i hi).1, (t10 i hi).2.1⟩, fun j _ => by rw [t9]⟩
        have hpot : pot P (st ++ [(x, (tChild (tAsked P r q p T) p (pM (P q))).2)]) = pot P st + pZ (P x) := by rw [pot_app]; simp [pot]
        refine ⟨t1, Ext_tr exA exC, fun y hy => ?_, by rw [hpot]; omega, by rw [hpot]; simp; omega, by rw [hpot]; omega, _, rfl⟩
        rcases List.mem_append.mp hy with m | m
        · exact ⟨(hs y m).1, by have := (hs y m).2; omega⟩
        · have : y = (x, (tChild (tAsked P r q p T) p (pM (P q))).2) := by simpa using m
          rw [this]
          exact ⟨by show x < np; omega, t5⟩
theorem tLay_s {r n q p : Nat} {st : List (Nat × Nat)} : tLay P fl r (n + 1) T (st ++ [(q, p)]) = tLay P fl r n (tStep P fl r q p T st).1 (tStep P fl r q p T st).2 := by
  rw [tLay]
  simp
theorem tLay_0 {r n : Nat} : tLay P fl r n T [] = T := by
  cases n with
  | zero => rfl
  | succ n => rw [tLay]; rfl
theorem p_lay_L (hW : PWF nf fam bit np P nl fl) {r B : Nat} (hB : B ≤ 16385) : ∀ n st S T (w : Nat), pot P st < n → stok np T st → S.1 26 = enc st → TC S T P nr sa → TW T → okS S → PC S np P nl fl → tQ T + pot P st ≤ st.length + B → tA T + pot P st ≤ B → pot P st + w ≤ 100000 → ∃ S', f_Par_lay_L30 n S (nI r) (nI w) = some S' ∧ zLy S S' ∧ TC S' (tLay P fl r n T st) P nr sa := by
  have hW' := hW
  obtain ⟨hnp, hnl, -, -, hw⟩ := hW
  intro n
  induction n with
  | zero => intro st S T w h; omega
  | succ n ih =>
    intro st S T w hlt hs h26 hC hT ho hP hQ hA hst
    have hpl := pot_len (P := P) st (fun x hx => (pwZ (hw x.1 (hs x hx).1)).1)
    unfold f_Par_lay_L30
    rcases List.eq_nil_or_concat st with e | ⟨st', ⟨q, p⟩, e⟩
    · subst e
      rw [if_pos (by unfold r_size; rw [h26]; decide), tLay_0]
      exact ⟨S, rfl, zLike_rf ho, hC⟩
    · subst e
      rw [List.concat_eq_append] at *
      have hl2 := enc_len (st' ++ [(q, p)])
      have hl1 : (st' ++ [(q, p)]).length = st'.length + 1 := by simp
      have hpe : pot P (st' ++ [(q, p)]) = pot P st' + pZ (P q) := by rw [pot_app]; simp [pot]
      obtain ⟨hq, hp⟩ := hs (q, p) (by simp)
      have hq : q < np := hq
      have hp : p < tQ T := hp
      have hrs : r_size S 26 = nI (2 * (st'.length + 1)) := by unfold r_size; rw [h26, hl2, hl1]
      rw [hrs]
      rw [if_neg (by (simp (disch := omega) only [nI_1, nI_add, Int32.lt_iff_toInt_lt, Int32.le_iff_toInt_le, ← Int32.toInt_inj, nI_toInt, tI_0, tI_1, tI_2, tI_3, tI_4, tI_m1, tI_m2, tI_m3, tI_m4, tI_64, tI_128, tI_255, tI_256, tI_1000, tI_1024, tI_4096, tI_10000, tI_16384, tI_16386, tI_M]; omega))]
      rw [if_neg (by (simp (disch := omega) only [nI_1, nI_add, Int32.lt_iff_toInt_lt, Int32.le_iff_toInt_le, ← Int32.toInt_inj, nI_toInt, tI_0, tI_1, tI_2, tI_3, tI_4, tI_m1, tI_m2, tI_m3, tI_m4, tI_64, tI_128, tI_255, tI_256, tI_1000, tI_1024, tI_4096, tI_10000, tI_16384, tI_16386, tI_M]; omega))]
      obtain ⟨S1, e1, l1, r1⟩ := zTake (S := S) (k := 26) (l := enc st' ++ [nI q]) (v := nI p) ho (by rw [h26, enc_app]; simp [enc])
      obtain ⟨S2, e2, l2, r2⟩ := zTake (S := S1) (k := 26) (l := enc st') (v := nI q) l1.2.2 r1
      rw [e1, zbind2_e, e2, zbind2_e]
      have l12 : zLy S S2 := zLike_tr (zLy_of l1 (by simp)) (zLy_of l2 (by simp))
      have hP2 := PC_ly hP l12
      have hC2 : TC S2 T P nr sa := TC_like hC (zLike_tr l1 l2) (by simp)
      have hs' : stok np T st' := fun x hx => hs x (List.mem_append_left _ hx)
      obtain ⟨u1, u2, u3, u4, u5, u6, ks, u7⟩ := tStep_ok (r := r) hW' hq hp hT hs'
      rw [cK hP2 hnp hq, tLay_s, nI_1]
      have go : ∀ S3, zLy S2 S3 → TC S3 (tStep P fl r q p T st').1 P nr sa → S3.1 26 = enc (tStep P fl r q p T st').2 → ∃ S', f_Par_lay_L30 n S3 (nI r) (nI (w + 1)) = some S' ∧ zLy S S' ∧ TC S' (tLay P fl r n (tStep P fl r q p T st').1 (tStep P fl r q p T st').2) P nr sa := by
        intro S3 y1 y2 y3
        obtain ⟨S', z1, z2, z3⟩ := ih (tStep P fl r q p T st').2 S3 (tStep P fl r q p T st').1 (w + 1) (by omega) u3 y3 y2 u1 y1.2.2 (PC_ly hP2 y1) (by omega) (by omega) (by omega)
        exact ⟨S', z1, zLike_tr l12 (zLike_tr y1 z2), z3⟩
      by_cases e4 : pK (P q) = 4
      · rw [if_neg (by rw [e4]; decide)]
        obtain ⟨S3, y1, y2, y3, y4⟩ := p_layRecord (r := r) (st := st') hW' hq e4 l12.2.2 hP2 hC2 hT hp (by omega) (by omega) (by omega) r2
        rw [y1, zob_s]
        exact go S3 y2 y3 y4
      · have hKq := pwK (hw q hq)
        rw [if_pos (by (simp (disch := omega) only [nI_1, nI_add, Int32.lt_iff_toInt_lt, Int32.le_iff_toInt_le, ← Int32.toInt_inj, nI_toInt, tI_0, tI_1, tI_2, tI_3, tI_4, tI_m1, tI_m2, tI_m3, tI_m4, tI_64, tI_128, tI_255, tI_256, tI_1000, tI_1024, tI_4096, tI_10000, tI_16384, tI_16386, tI_M]; omega))]
        by_cases e0 : pK (P q) = 0
        · rw [if_pos (by rw [e0]; rfl)]
          have es : tStep P fl r q p T st' = (T, st') := by unfold tStep; rw [if_neg e4, if_pos e0]
          rw [es] at go ⊢
          exact go S2 (zLike_rf l12.2.2) hC2 r2
        · rw [if_neg (by (simp (disch := omega) only [nI_1, nI_add, Int32.lt_iff_toInt_lt, Int32.le_iff_toInt_le, ← Int32.toInt_inj, nI_toInt, tI_0, tI_1, tI_2, tI_3, tI_4, tI_m1, tI_m2, tI_m3, tI_m4, tI_64, tI_128, tI_255, tI_256, tI_1000, tI_1024, tI_4096, tI_10000, tI_16384, tI_16386, tI_M]; omega))]
          obtain ⟨S3, y1, y2, y3, y4⟩ := p_layAsk (r := r) (st := st') hW' hq e4 e0 l12.2.2 hP2 hC2 hT hp (by omega) (by omega) (by omega) r2
          rw [y1, zob_s]
          exact go S3 y2 y3 y4
end PLB
