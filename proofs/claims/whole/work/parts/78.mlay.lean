-- PURE LAYER: the reference's places
def wayOf (k : Nat) (l : Int32) : Int64 := if k = 4 then (l + 1).toInt64 else if k = 2 then 200 + l.toInt64 else 1000 + l.toInt64
def stpOf (k : Nat) (l : Int32) : Int32 := if k = 4 then l + 1 else 1
def szOf (x : Nat × Int32) : Int32 := if x.1 = 4 then x.2 else 0
theorem i64_inj {x y : Int32} (h : x.toInt64 = y.toInt64) : x = y := by
  have := congrArg Int64.toInt h
  rw [Int32.toInt_toInt64, Int32.toInt_toInt64] at this
  exact Int32.toInt_inj.mp this
theorem wayOf_inj {k : Nat} {l l' : Int32} (h : wayOf k l = wayOf k l') : l = l' := by
  unfold wayOf at h
  split at h
  · exact (Int32.add_left_inj 1).mp (i64_inj h)
  · split at h
    · exact i64_inj ((Int64.add_right_inj _).mp h)
    · exact i64_inj ((Int64.add_right_inj _).mp h)
/-- the reference's places hold T -/
def TMo (M : zM) (T : Tr) (nr : Nat) (sa : Nat → Nat) : Prop := ∃ (bl : Nat → List Nat) (nb : Nat → Option Nat), M.2.2 6 = nI (tQ T) ∧ (∀ c, 1 ≤ c → c < tQ T → M.1 17 c = nI (tU T c) ∧ M.1 18 c = stpOf (tH T (tU T c)).1 (tL T c) ∧ M.2.1 19 c = wayOf (tH T (tU T c)).1 (tL T c) ∧ M.1 21 c = oI (nb c)) ∧
  (∀ p, p < tQ T → M.1 20 p = oI (bl p).head? ∧ lkd nb (bl p) ∧ (∀ c, c ∈ bl p ↔ 1 ≤ c ∧ c < tQ T ∧ tU T c = p) ∧ M.1 22 p = szOf (tH T p)) ∧
  (∀ k, k < tA T → M.1 15 k = nI (tK T k).2.1 ∧ M.1 16 k = nI (tK T k).2.2) ∧ (∀ r, r < nr → M.1 14 r = nI (sa r)) ∧ M.1 14 nr = nI (tA T)
/-- a part with a part below it has a shape -/
def CI (T : Tr) : Prop := ∀ c, 1 ≤ c → c < tQ T → (tH T (tU T c)).1 ≠ 0
section PMO
variable {nf : Nat} {fam : Nat → Nat} {bit : Nat → Int64} {np : Nat} {P : Nat → Pt} {nl : Nat} {fl : Nat → Nat × Nat} {M : zM} {T : Tr} {nr : Nat} {sa : Nat → Nat}
theorem TMo_like {ks ls ns : List Nat} {M' : zM} (h : TMo M T nr sa) (hl : mLike ks ls ns M M') (h1 : ∀ k, k ∈ ks → k < 14 ∨ 22 < k) (h2 : 19 ∉ ls) (h3 : 6 ∉ ns) : TMo M' T nr sa := by
  have e : ∀ k, 14 ≤ k → k ≤ 22 → M'.1 k = M.1 k := fun k q1 q2 => hl.1 k (fun m => by have := h1 k m; omega)
  obtain ⟨bl, nb, a⟩ := h
  refine ⟨bl, nb, ?_⟩
  rw [e 14 (by omega) (by omega), e 15 (by omega) (by omega), e 16 (by omega) (by omega), e 17 (by omega) (by omega), e 18 (by omega) (by omega), e 20 (by omega) (by omega), e 21 (by omega) (by omega), e 22 (by omega) (by omega), hl.2.1 19 h2, hl.2.2 6 h3]
  exact a
theorem p_childOf_L {w : Int64} (hQ : tQ T < 16387) {nb : Nat → Option Nat} (hc : ∀ c, 1 ≤ c → c < tQ T → M.2.1 19 c = wayOf (tH T (tU T c)).1 (tL T c) ∧ M.1 21 c = oI (nb c)) : ∀ (l : List Nat) (n : Nat), lkd nb l → (∀ c, c ∈ l → 1 ≤ c ∧ c < tQ T) → l.length < n → (f_Mod_childOf_L8 n M w (oI l.head?) = some (-1) ∧ ∀ c, c ∈ l → wayOf (tH T (tU T c)).1 (tL T c) ≠ w) ∨ ∃ c, c ∈ l ∧ wayOf (tH T (tU T c)).1 (tL T c) = w ∧ f_Mod_childOf_L8 n M w (oI l.head?) = some (nI c) := by
  intro l
  induction l with
  | nil =>
    intro n _ _ hn
    cases n with
    | zero => simp at hn
    | succ n =>
      unfold f_Mod_childOf_L8
      rw [if_pos (by decide)]
      exact Or.inl ⟨rfl, fun c hc => by cases hc⟩
  | cons c l ih =>
    intro n hl hm hn
    cases n with
    | zero => simp at hn
    | succ n =>
      obtain ⟨h1, h2⟩ := hm c List.mem_cons_self
      obtain ⟨a1, a2⟩ := hc c h1 h2
      unfold f_Mod_childOf_L8
      have e : oI (c :: l).head? = nI c := rfl
      rw [e, if_neg (nI_pos (by omega)), m_rdl_n (by omega) (by omega), a1]
      by_cases q : wayOf (tH T (tU T c)).1 (tL T c) = w
      · rw [if_pos ((lgc1 _ _).mpr q)]
        exact Or.inr ⟨c, List.mem_cons_self, q, rfl⟩
      · rw [if_neg (fun y => q ((lgc1 _ _).mp y)), m_rd_n (by omega) (by omega), a2, hl.1]
        rcases ih n hl.2 (fun x hx => hm x (List.mem_cons_of_mem _ hx)) (by simp at hn; omega) with ⟨b1, b2⟩ | ⟨x, b1, b2, b3⟩
        · refine Or.inl ⟨b1, fun x hx => ?_⟩
          rcases List.mem_cons.mp hx with y | y
          · subst y; exact q
          · exact b2 x y
        · exact Or.inr ⟨x, List.mem_cons_of_mem _ b1, b2, b3⟩
theorem lkd_nodup {nx : Nat → Option Nat} : ∀ (l : List Nat), lkd nx l → l.Nodup := by
  -- a list whose links end has no element twice
  have key : ∀ (l : List Nat) (x : Nat) (k : List Nat), lkd nx (x :: k) → lkd nx l → l.head? = some x → l = x :: k := by
    intro l
    induction l with
    | nil => intro x k _ _ h; cases h
    | cons y l ih =>
      intro x k hk hl h
      have : y = x := by simpa using h
      subst this
      congr 1
      cases k with
      | nil =>
        have a := hk.1
        have b := hl.1
        rw [a] at b
        cases l with
        | nil => rfl
        | cons z l => cases b
      | cons z k =>
        have a := hk.1
        have b := hl.1
        rw [a] at b
        exact ih z k hk.2 hl.2 b.symm
  intro l
  induction l with
  | nil => intro _; exact List.nodup_nil
  | cons x l ih =>
    intro h
    refine List.nodup_cons.mpr ⟨fun m => ?_, ih h.2⟩
    obtain ⟨a, b, e⟩ := List.append_of_mem m
    have h2 : lkd nx (x :: b) := by
      have : lkd nx (a ++ x :: b) := by rw [← e]; exact h.2
      exact lkd_app this
    have := key (x :: l) x b h2 h rfl
    have hl : l = b := by injection this
    have hlen : l.length = (a ++ x :: b).length := by rw [← e]
    rw [hl] at hlen
    simp at hlen
    omega
theorem p_childOf (hM : TMo M T nr sa) (hT : TW T) {p : Nat} (hp : p < tQ T) (hQ : tQ T < 16387) (l : Int32) : f_Mod_childOf M (nI p) (wayOf (tH T p).1 l) = some (oI (tCh T p l)) := by
  obtain ⟨bl, nb, a1, a2, a3, a4, a5, a6⟩ := hM
  obtain ⟨b1, b2, b3, b4⟩ := a3 p hp
  unfold f_Mod_childOf
  rw [m_rd_n (by omega) (by omega), b1]
  have hlen : (bl p).length ≤ tQ T := nodup_len _ _ (lkd_nodup _ b2) (fun x hx => ((b3 x).mp hx).2.1)
  rcases p_childOf_L (w := wayOf (tH T p).1 l) hQ (fun c h1 h2 => ⟨(a2 c h1 h2).2.2.1, (a2 c h1 h2).2.2.2⟩) (bl p) zbig b2 (fun c hc => ⟨((b3 c).mp hc).1, ((b3 c).mp hc).2.1⟩) (by unfold zbig; omega) with ⟨c1, c2⟩ | ⟨c, c1, c2, c3⟩
  · rw [c1]
    cases q : tCh T p l with
    | none => rfl
    | some c =>
      obtain ⟨d1, d2, d3, d4⟩ := tCh_ok q
      exact absurd (by rw [d3, d4]) (c2 c ((b3 c).mpr ⟨d1, d2, d3⟩))
  · rw [c3]
    obtain ⟨d1, d2, d3⟩ := (b3 c).mp c1
    rw [d3] at c2
    have := wayOf_inj c2
    have e := tCh_at hT d1 d2
    rw [d3, this] at e
    rw [e]; rfl
theorem p_placeBelow (hM : TMo M T nr sa) (hT : TW T) {p : Nat} (hp : p < tQ T) (hQ : tQ T < 16386) (l : Int32) (hs : (tH T p).1 ≠ 0) : ∃ M', f_Mod_placeBelow M (nI p) (stpOf (tH T p).1 l) (wayOf (tH T p).1 l) = some (M', nI (tChild T p l).2) ∧ mLike [17, 18, 20, 21, 22] [19] [6] M M' ∧ TMo M' (tChild T p l).1 nr sa := by
  have hM' := hM
  unfold f_Mod_placeBelow
  rw [p_childOf hM hT hp (by omega) l, zob_s]
  unfold tChild
  cases q : tCh T p l with
  | some c =>
    have := (tCh_ok q).2.1
    rw [oI_s, if_neg (nI_pos (by omega))]
    exact ⟨M, rfl, mLike_rf, hM'⟩
  | none =>
    obtain ⟨bl, nb, a1, a2, a3, a4, a5, a6⟩ := hM
    rw [oI_n, if_pos (by decide)]
    have ex : ∀ X : zM, X.2.2 6 = nI (tQ T) → Int32.toNatClampNeg (X.2.2 6) = tQ T := fun X e => by rw [e, nI_clamp (by omega)]
    rw [a1, nI_clamp (by omega), m_wr_n (by omega) (by omega)]
    have s1 : ∀ x, (m_set M 17 (tQ T) x).2.2 6 = nI (tQ T) := fun x => a1
    rw [s1, nI_clamp (by omega), m_wr_n (by omega) (by omega)]
    have s2 : ∀ x y, (m_set (m_set M 17 (tQ T) x) 18 (tQ T) y).2.2 6 = nI (tQ T) := fun x y => a1
    rw [s2, nI_clamp (by omega), m_wr_n (by omega) (by omega)]
    have s3 : ∀ x y z, (m_setl (m_set (m_set M 17 (tQ T) x) 18 (tQ T) y) 19 (tQ T) z).2.2 6 = nI (tQ T) := fun x y z => a1
    rw [s3, nI_clamp (by omega), m_wr_n (by omega) (by omega), m_rd_n (by omega) (by omega)]
    have s4 : ∀ x y z u, (m_set (m_setl (m_set (m_set M 17 (tQ T) x) 18 (tQ T) y) 19 (tQ T) z) 20 (tQ T) u).2.2 6 = nI (tQ T) := fun x y z u => a1
    rw [s4, nI_clamp (by omega), m_wr_n (by omega) (by omega)]
    have s5 : ∀ x y z u v, (m_set (m_set (m_setl (m_set (m_set M 17 (tQ T) x) 18 (tQ T) y) 19 (tQ T) z) 20 (tQ T) u) 21 (tQ T) v).2.2 6 = nI (tQ T) := fun x y z u v => a1
    rw [s5, nI_clamp (by omega), m_wr_n (by omega) (by omega)]
    have s6 : ∀ x y z u v w, (m_set (m_set (m_set (m_setl (m_set (m_set M 17 (tQ T) x) 18 (tQ T) y) 19 (tQ T) z) 20 (tQ T) u) 21 (tQ T) v) 22 (tQ T) w).2.2 6 = nI (tQ T) := fun x y z u v w => a1
    rw [s6, nI_clamp (by omega), m_wr_n (by omega) (by omega), zbind_e]
    have s7 : ∀ x y z u v w t, (m_set (m_set (m_set (m_set (m_setl (m_set (m_set M 17 (tQ T) x) 18 (tQ T) y) 19 (tQ T) z) 20 (tQ T) u) 21 (tQ T) v) 22 (tQ T) w) 20 p t).2.2 6 = nI (tQ T) := fun x y z u v w t => a1
    rw [s7, m_sc_at, nI_1, nI_pred]
    have v20 : (m_set (m_setl (m_set (m_set M 17 (tQ T) (nI p)) 18 (tQ T) (stpOf (tH T p).1 l)) 19 (tQ T) (wayOf (tH T p).1 l)) 20 (tQ T) (-1)).1 20 p = oI (bl p).head? := by
      rw [m_set_at, upd_n (by omega)]
      exact (a3 p hp).1
    rw [v20]
    have hQ1 := hT.1
    refine ⟨_, rfl, ?_, ?_⟩
    · refine ⟨fun k hk => ?_, fun k hk => ?_, fun k hk => m_sc_ne (by simpa using hk)⟩
      · have : k ≠ 17 ∧ k ≠ 18 ∧ k ≠ 20 ∧ k ≠ 21 ∧ k ≠ 22 := by simpa using hk
        rw [m_sc_1, m_set_ne this.2.2.1, m_set_ne this.2.2.2.2, m_set_ne this.2.2.2.1, m_set_ne this.2.2.1]
        show (m_set (m_set M 17 (tQ T) (nI p)) 18 (tQ T) (stpOf (tH T p).1 l)).1 k = _
        rw [m_set_ne this.2.1, m_set_ne this.1]
      · show va_up M.2.1 19 _ k = _
        exact va_n (by simpa using hk)
    · show TMo _ (tAdd T p l) nr sa
      refine ⟨va_up (va_up bl (tQ T) []) p (tQ T :: bl p), va_up nb (tQ T) (bl p).head?, ?_, fun c h1 h2 => ?_, fun p' h2 => ?_, fun k hk => ?_, fun r hr => ?_, ?_⟩
      · rw [m_sc_at]; rfl
      · have h2 : c < tQ T + 1 := h2
        show upd (M.1 17) (tQ T) (nI p) c = nI (va_up (tU T) (tQ T) p c) ∧ upd (M.1 18) (tQ T) (stpOf (tH T p).1 l) c = stpOf (va_up (tH T) (tQ T) (0, 0) (va_up (tU T) (tQ T) p c)).1 (va_up (tL T) (tQ T) l c) ∧ vp_updL (M.2.1 19) (tQ T) (wayOf (tH T p).1 l) c = wayOf (va_up (tH T) (tQ T) (0, 0) (va_up (tU T) (tQ T) p c)).1 (va_up (tL T) (tQ T) l c) ∧ upd (M.1 21) (tQ T) (oI (bl p).head?) c = oI (va_up nb (tQ T) (bl p).head? c)
        by_cases e : c = tQ T
        · subst e
          rw [upd_s, upd_s, updL_s, upd_s, va_s, va_s, va_s, va_n (by omega)]
          exact ⟨rfl, rfl, rfl, rfl⟩
        · have hu := hT.2.1 c h1 (by omega)
          rw [upd_n e, upd_n e, updL_n e, upd_n e, va_n e, va_n e, va_n e, va_n (by omega)]
          exact a2 c h1 (by omega)
      · have h2 : p' < tQ T + 1 := h2
        show upd (upd (M.1 20) (tQ T) (-1)) p (nI (tQ T)) p' = _ ∧ _ ∧ _ ∧ upd (M.1 22) (tQ T) 0 p' = szOf (va_up (tH T) (tQ T) (0, 0) p')
        have old : ∀ x, x < tQ T → ∀ c, c ∈ bl x → va_up nb (tQ T) (bl p).head? c = nb c := fun x hx c hc => va_n (by have := ((a3 x hx).2.2.1 c).mp hc; omega)
        by_cases e : p' = p
        · subst e
          obtain ⟨b1, b2, b3, b4⟩ := a3 p' hp
          rw [upd_s, va_s, upd_n (by omega), va_n (by omega)]
          refine ⟨rfl, ⟨va_s, lkd_congr (old p' hp) b2⟩, fun c => ?_, b4⟩
          show c ∈ tQ T :: bl p' ↔ 1 ≤ c ∧ c < tQ T + 1 ∧ va_up (tU T) (tQ T) p' c = p'
          by_cases d : c = tQ T
          · subst d; rw [va_s]; simp; omega
          · rw [va_n d, List.mem_cons, b3]
            constructor
            · intro y
              rcases y with y | y
              · exact absurd y d
              · exact ⟨y.1, by omega, y.2.2⟩
            · intro y; exact Or.inr ⟨y.1, by omega, y.2.2⟩
        · rw [upd_n e, va_n e]
          by_cases d : p' = tQ T
          · subst d
            rw [upd_s, va_s, upd_s, va_s]
            refine ⟨rfl, trivial, fun c => ⟨(by intro y; cases y), fun y => ?_⟩, rfl⟩
            have y2 : c < tQ T + 1 := y.2.1
            have y3 : va_up (tU T) (tQ T) p c = tQ T := y.2.2
            by_cases f : c = tQ T
            · subst f; rw [va_s] at y3; omega
            · rw [va_n f] at y3
              have := hT.2.1 c y.1 (by omega)
              omega
          · obtain ⟨b1, b2, b3, b4⟩ := a3 p' (by omega)
            rw [upd_n d, va_n d, upd_n d, va_n d]
            refine ⟨b1, lkd_congr (old p' (by omega)) b2, fun c => ?_, b4⟩
            show c ∈ bl p' ↔ 1 ≤ c ∧ c < tQ T + 1 ∧ va_up (tU T) (tQ T) p c = p'
            rw [b3]
            by_cases f : c = tQ T
            · subst f; rw [va_s]
              constructor
              · intro y; omega
              · intro y; exact absurd y.2.2.symm e
            · rw [va_n f]
              constructor
              · intro y; exact ⟨y.1, by omega, y.2.2⟩
              · intro y; exact ⟨y.1, by omega, y.2.2⟩
      · exact a4 k hk
      · exact a5 r hr
      · exact a6
end PMO
