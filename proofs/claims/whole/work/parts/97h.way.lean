-- PURE LAYER: a value's way through the tree: walk and tell
/-- rows but these, numbers but these are as they were -/
def zLk (ks ns : List Nat) (S S' : zS) : Prop := (∀ k, k ∉ ks → S'.1 k = S.1 k) ∧ (∀ k, k ∉ ns → S'.2.2.1 k = S.2.2.1 k) ∧ S'.2.2.2 = S.2.2.2 ∧ okS S'
theorem zLk_of {ks ns : List Nat} {S S' : zS} (h : zLike ks S S') : zLk ks ns S S' := ⟨h.1, fun k _ => by rw [h.2.1], by rw [h.2.1], h.2.2⟩
theorem zLk_tr {ks ns : List Nat} {S S1 S2 : zS} (h : zLk ks ns S S1) (k : zLk ks ns S1 S2) : zLk ks ns S S2 := ⟨fun j hj => (k.1 j hj).trans (h.1 j hj), fun j hj => (k.2.1 j hj).trans (h.2.1 j hj), k.2.2.1.trans h.2.2.1, k.2.2.2⟩
theorem zLk_sc {ks ns : List Nat} {S : zS} {i : Nat} {x : Int32} (ho : okS S) (hi : i ∈ ns) : zLk ks ns S (z_sc S i x) := ⟨fun _ _ => rfl, fun k hk => va_n (fun e => hk (e ▸ hi)), rfl, ho⟩
section PWY
variable {S : zS} {M : zM} {T : Tr} {nr : Nat} {sa : Nat → Nat} {nf : Nat} {fam : Nat → Nat} {bit : Nat → Int64} {np : Nat} {P : Nat → Pt} {nl : Nat} {fl : Nat → Nat × Nat} {ru : Nat → Nat} {ne : Nat} {ep : Nat → Nat} {el : Nat → Int32} {lst al : Nat → List Nat} {nx nk : Nat → Option Nat} {ue : Nat → Nat} {val : Nat} {A : Am} {nE nN : Nat → Option Nat}
/-- what the reference knows at the branch is what the tree has there -/
theorem tlR_kid (hT : TI T P nr sa fam A) {M : zM} {v p w : Nat} {x : Int32} (hw1 : 1 ≤ w) (hw : w < aN A) (hu : aU A w = some v) (hp : aP A v = some p) (hl : aL A w = some x ∨ (aL A w = none ∧ ¬ nuR T P (aO A v) p nr x)) {R K : Option Nat} (h : tlR M T nr sa (aD A v + 1) (nar T P (aO A v) p (some x)) (p :: aW A v) R K) : R = aR A w ∧ K = aK A w ∧ tlR M T nr sa (aD A w) (aO A w) (aW A w) (aR A w) (aK A w) ∧ aW A w = p :: aW A v ∧ (∀ r, r < nr → aO A w r = nar T P (aO A v) p (aL A w) r) := by
  obtain ⟨u, p', b1, b2, b3, b4, b5, b6, b7⟩ := hT.2.1 w hw1 hw
  rw [hu] at b2; cases b2
  rw [hp] at b3; cases b3
  have eO : ∀ r, r < nr → nar T P (aO A v) p (some x) r = aO A w r := by
    intro r hr
    rw [b4 r hr]
    rcases hl with e | ⟨e, hn⟩
    · rw [e]
    · rw [e]
      unfold nar
      cases g : aO A v r with
      | false => rfl
      | true =>
        cases gq : ak T r p with
        | none => rfl
        | some q =>
          have : ¬ pM (P q) = x := fun z => hn ⟨r, q, hr, g, gq, z⟩
          simp [this]
  obtain ⟨c1, c2, c3, c4, c5, c6⟩ := h
  obtain ⟨d1, d2, d3, d4⟩ := hT.2.2.1 w hw
  have eR : R = aR A w := fP1_one (fP1_congr c4 eO) d1
  have eK : K = aK A w := by
    cases g : aR A w with
    | none =>
      rw [d2 g]
      exact c5 (by rw [eR, g])
    | some r =>
      have := d3 r g
      rw [b5] at this
      exact fA_one (c6 r (by rw [eR, g])) this
  refine ⟨eR, eK, ⟨?_, ?_, ?_, d1, d2, d3⟩, b5, b4⟩
  · rw [b6]; exact c1
  · rw [b5]; exact c2
  · rw [b6]; exact PB_congr c3 eO
theorem W_loop (hF : SF nf fam bit np P nl fl T nr ru sa) (hE : EI T P ne ep el lst al nx nk ue) (hne : ne < 65536) (hEP : EP P fl T nr ru) (hTG : ∀ i j, i < j → j < nr → TG P fl (ru i) (ru j)) (hT : TI T P nr sa fam A) (hD : ∀ v, v < aN A → doneV T P nr fam A v) (hKI : KI A nN) (hEd : EdI A nE ne ep el) (hn : aN A ≤ 4096) (hv : val < np) (hw : pW (P val) = true) :
    ∀ (m n n' v left : Nat) (S : zS) (M : zM) (sn : Nat → Int32), aN A - v < m → v < aN A → aN A - v + 1 < n → aN A - v < n' → aN A - v ≤ left → left < 60000 → okS S → PC S np P nl fl → TRw S T nr sa ne ep el lst al nx nk ue → NRw S A nE nN → SN S T P fl val sn → S.2.2.1 3 = nI (aD A v) → MC M nf fam bit np P nl fl T nr sa → tlR M T nr sa (aD A v) (aO A v) (aW A v) (aR A v) (aK A v) → KWv T P fl val nr (aO A v) (aW A v) →
    ∃ S' M' x, f_Wlk_walk_L40 n S (nI v) (nI left) = some (S', x) ∧ f_Mod_tell_L29 n' M (nI val) (oI (aR A v)) (oI (aP A v)) = some (M', x) ∧ zLk [39, 40] [3] S S' ∧ mLike [24, 27, 31] [23] [12] M M' ∧ (x ≠ -3 → S'.2.2.1 3 = M'.2.2 12) := by
  have hpb := hF.2.2.2.2.2.1
  intro m
  induction m with
  | zero => intro n n' v left S M sn h; omega
  | succ m ih =>
    intro n n' v left S M sn hm hvA hn1 hn2 hl1 hl2 ho hP hR hN hS h3 hM hL hK
    cases n with
    | zero => omega
    | succ n =>
    cases n' with
    | zero => omega
    | succ n' =>
    have e27 : f_Nod_part S (nI v) = oI (aP A v) := by unfold f_Nod_part; rw [r_at_rd, hN.1, rowOf_rd hvA (by omega)]
    have e28 : f_Nod_ruleAt S (nI v) = oI (aR A v) := by unfold f_Nod_ruleAt; rw [r_at_rd, hN.2.1, rowOf_rd hvA (by omega)]
    unfold f_Wlk_walk_L40
    rw [if_neg (by (simp (disch := omega) only [nI_1, nI_add, Int32.lt_iff_toInt_lt, Int32.le_iff_toInt_le, ← Int32.toInt_inj, nI_toInt, tI_0, tI_1, tI_2, tI_3, tI_4, tI_m1, tI_m2, tI_m3, tI_m4, tI_64, tI_128, tI_255, tI_256, tI_1000, tI_1024, tI_4096, tI_10000, tI_16384, tI_16386, tI_M]; omega)), if_neg (nI_m1 (by omega)), e27]
    cases g : aP A v with
    | none =>
      rw [oI_n, if_pos rfl, if_pos (nI_m1 (by omega)), e28]
      refine ⟨S, M, _, rfl, ?_, zLk_of (zLike_rf ho), mLike_rf, fun _ => by rw [h3, hL.1]⟩
      rw [f_Mod_tell_L29, if_pos (by decide)]
    | some p =>
      obtain ⟨hpQ, hgq⟩ := gq_node hF hT hvA g hK
      have hgp := gq_gp hF.2.1.1 (fun c hc => hc.1) (p + 1) p (by omega) hpQ hgq
      have hdv := aD_le hT (v + 1) v (by omega) hvA
      rw [oI_s, if_neg (nI_m1 (by omega))]
      obtain ⟨S1, sn1, b, e1, l1, s1, br⟩ := c_branch hF hE hne hEP hTG hT hD hKI hEd hn hv hw ho hP hR hN hS hvA g hpQ hgp
      rw [e1, zob2_s, zbind_e, l1.2.1, h3, nI_1, sb_m1 (by omega)]
      have ho2 : okS (z_sc S1 3 (nI (aD A v + 1))) := l1.2.2
      have L2 : zLk [39, 40] [3] S (z_sc S1 3 (nI (aD A v + 1))) := zLk_tr (zLk_of l1) (zLk_sc l1.2.2 (by simp))
      rcases p_tell1 hF hM hv hw (show aD A v < 4096 by omega) hL.2.2.1 hL.2.1 hL.1 hpQ hgq (nu_some hF hT hvA g) (oI (aR A v)) n' with ⟨M', t1, t2, t3⟩ | ⟨h, M', R, K, t1, t2, t3, t4, t5, t6⟩
      · rcases br with ⟨b0, _⟩ | ⟨h, w, b1, b2, b3, _⟩
        · subst b0
          refine ⟨z_sc S1 3 (nI (aD A v + 1)), M', -3, ?_, t1, L2, t2, fun q => absurd rfl q⟩
          cases n with
          | zero => omega
          | succ n =>
            unfold f_Wlk_walk_L40
            rw [oI_n]
            by_cases c : nI (left - 1) ≤ 0
            · rw [if_pos c, if_neg (by simp)]
            · rw [if_neg c, if_pos rfl, if_neg (by simp)]
        · exact absurd (t3 h b1 b2) b3
      · rcases br with ⟨b0, b1⟩ | ⟨h', w, b1, b2, b3, b4, b5, b6, b7⟩
        · exact absurd (b1 h t1 t2) t3
        · rw [t1] at b1
          cases b1
          subst b4
          obtain ⟨k1, k2, k3⟩ := (hKI v hvA).2 w b5
          obtain ⟨eR, eK, tk, eW, eO⟩ := tlR_kid hT (show 1 ≤ w by omega) k1 k3 g b7 t6
          subst eR eK
          have hdw : aD A w = aD A v + 1 := by
            obtain ⟨u, p', c1, c2, c3, c4, c5, c6, c7⟩ := hT.2.1 w (by omega) k1
            rw [k3] at c2; cases c2; exact c6
          have eP := (hT.2.2.1 w k1).2.2.2
          rw [← eP] at t4
          have hKw : KWv T P fl val nr (aO A w) (aW A w) := KW_kid eO eW hK t1 t2 (by
            intro x e
            rcases b7 with z | ⟨z, _⟩
            · rw [z] at e; exact (Option.some.inj e).symm
            · rw [z] at e; cases e)
          have hPx : PC (z_sc S1 3 (nI (aD A v + 1))) np P nl fl := PC_like (S' := S1) hP l1 (by simp)
          have hRx : TRw (z_sc S1 3 (nI (aD A v + 1))) T nr sa ne ep el lst al nx nk ue := TRw_like (S' := S1) hR l1 (by simp)
          have h3x : (z_sc S1 3 (nI (aD A v + 1))).2.2.1 3 = nI (aD A w) := by
            rw [hdw]
            show va_up S1.2.2.1 3 (nI (aD A v + 1)) 3 = _
            exact va_s
          obtain ⟨S', M2, x, f1, f2, f3, f4, f5⟩ := ih n n' w (left - 1) (z_sc S1 3 (nI (aD A v + 1))) M' sn1 (by omega) k1 (by omega) (by omega) (by omega) (by omega) ho2 hPx hRx (NRw_like (ks := []) hN (fun k h1 h2 => l1.1 k (by simp; omega))) s1 h3x (MC_like hM t5 (by simp) (by simp) (by simp)) tk hKw
          refine ⟨S', M2, x, f1, ?_, zLk_tr L2 f3, mLike_tr t5 f4, f5⟩
          rw [← oI_s p, oI_s, t4]; exact f2
end PWY
