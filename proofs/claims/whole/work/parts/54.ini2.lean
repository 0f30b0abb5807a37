-- a row's method is called while the object is still made; RuleTree$Pushed.<init>
def zS1 : zS := (fun _ => [], fun _ => 0, fun _ => 0, fun _ => 0)
def kRowX (cA : Nat → ClassId) (q a : Nat) (xs : List Int32) (g : Nat) (f : Nat → Int32) : va_W := [(q, .inr (0, [.ref a, .int (nI xs.length)])), (a, .inl (cA 0, 16 * 2 ^ g, .inl f))]
section KRC
variable {p : Program} {l : Launch} {e : Env} {R : Room} {s : State} {m : MethodId} {args : Array Value} {below : List Frame} {meth : Method} {c : Code} {nL : Nat} {A : Nat → Prop} {cc : ByteArray} {T : List zTr} {own : String} {ret : Option FieldType} {D : va_G} {cA : Nat → ClassId} {pc : Nat} {lv : zLv} {st rest : List Value} {ci h0 cells slots : Nat} {fs : List Value} {Wd : va_W} {ι : Type} {w : (ι → va_W) × Option Value}
theorem kw_eq {Wd' : va_W} (h : Wd = Wd') (k : KW p l e R s m args below meth c nL A D h0 ci fs Wd' cells slots pc lv st w) : KW p l e R s m args below meth c nL A D h0 ci fs Wd cells slots pc lv st w := h ▸ k
set_option maxHeartbeats 4000000 in
theorem kw_rc (C0 : zC p s m args meth c cc nL own zwl T ret) (hK : va_K D zcl (ztys cA) s) (hA : ∀ q, s.heap.size ≤ q → A q) {y : MethodName} {bytes : ByteArray} {maxL n fr lo idx tgt q a : Nat} {v0 : Int32} {rt : Option FieldType} {As : List Value} {W1 W2 : va_W} {E' : zS × Option Value} (Y : zY "RuleTree$Row" y bytes maxL rt n)
    (hM : ∀ A', zMet l y (zw y bytes maxL rt) fr lo (.ref q :: As) D zcl (ztys cA) A' (uRep D cA (fun _ => q) A') ufc ufs zS1 E')
    (hl : Cond.methodLink own idx y ∈ zwl) (hn : As.length = n) (hR : fr + 1 ≤ R.frames ∧ 8 + (maxL + 11) + lo ≤ R.locals) (hW : (rest.map fun v => v.category).sum ≤ 8) (hcells : cells + (ufc E'.1 - ufc zS1) ≤ R.cells) (hslots : slots + (ufs E'.1 - ufs zS1) ≤ R.slots) (hq : T.lookup pc = some (.invokevirtual idx, 3, tgt, v0))
    (k : ∀ (a' : Nat) (f' : Nat → Int32), (∀ i, i < (E'.1.1 0).length → f' i = (E'.1.1 0).getD i 0) → KW p l e R s m args below meth c nL A D h0 ci fs (W1 ++ (kRowX cA q a' (E'.1.1 0) (E'.1.2.1 0) f' ++ W2)) (cells + (ufc E'.1 - ufc zS1)) (slots + (ufs E'.1 - ufs zS1)) (pc + 3) lv (E'.2.toList ++ rest) w) :
    KW p l e R s m args below meth c nL A D h0 ci fs (W1 ++ (kRow cA q a ++ W2)) cells slots pc lv (As.reverse ++ .ref q :: rest) w := by
  obtain ⟨y1, y2, y3, y4, y5⟩ := Y
  obtain ⟨hx, hb, hml, hown, hts, hT, hr, hlocks⟩ := C0
  intro H locs ls g1 g2 g3 g5
  have g1m := vaP_mem.mp g1
  have g2m := vaD_mem.mp g2
  have hwq : va_at D zcl (q, .inr (0, [.ref a, .int 0])) H := g1m _ (by simp [kRow])
  have hwa : va_at D zcl (a, .inl (cA 0, 16, .inl (fun _ => 0))) H := g1m _ (by simp [kRow])
  have hne : q ≠ a := by
    have := g2m.1
    simp only [kRow, List.map_cons, List.map_append, List.map_nil, List.nodup_cons, List.nodup_append, List.cons_append, List.nil_append, List.mem_cons, List.mem_append] at this
    exact fun h => this.2.2.1.1 (Or.inl h)
  have hG : GoodIn zwl (wsV own idx "RuleTree$Row" y (zw y bytes maxL rt)) := by
    intro w hw
    rcases List.mem_append.mp hw with h | h
    · have : w = .methodLink own idx y ∨ w = .instanceMethod y ∨ w = .selects "RuleTree$Row" y y ∨ w = .initialized "RuleTree$Row" := by simpa using h
      rcases this with rfl | rfl | rfl | rfl
      · exact zgood _ hl
      · exact zgood _ y2
      · exact zgood _ y3
      · exact zgood _ y4
    · rcases List.mem_cons.mp h with rfl | h
      · exact zgood _ y1
      · exact zgood _ h
  have hu : uRep D cA (fun _ => q) (va_A (kRow cA q a) H.size) zS1 H := by
    refine ⟨fun _ => a, fun _ _ => 0, fun i hi => ?_, fun i j hi hj he => ?_, fun i hi => ?_, fun k hk => ?_⟩
    · rcases (show i = 0 ∨ i = 1 by omega) with rfl | rfl
      · exact hwq
      · exact hwa
    · rcases (show i = 0 ∨ i = 1 by omega) with rfl | rfl <;> rcases (show j = 0 ∨ j = 1 by omega) with rfl | rfl
      · rfl
      · exact absurd he hne
      · exact absurd he.symm hne
      · rfl
    · rcases (show i = 0 ∨ i = 1 by omega) with rfl | rfl
      · exact Or.inl ⟨0, _, rfl⟩
      · exact Or.inl ⟨1, _, rfl⟩
    · exact ⟨Nat.zero_le _, by show 16 * 2 ^ 0 ≤ 4194304; decide, fun i hi => absurd hi (Nat.not_lt_zero i)⟩
  have run := va_runV (p := p) (l := l) (e := e) (below := below) (meth := meth) (c := c) (H := H) (locs := locs) (cells := cells) (slots := slots) (g := F0 m pc ls (As.reverse ++ .ref q :: rest)) (As := As) (rest := rest) ⟨hx, hb, hml, hown, hts⟩ (hM (va_A (kRow cA q a) H.size)).2.2 (cwV n hts hG rfl rfl rfl y5 hR) ⟨zPre_blind, va_recv hK (zP1 hwq) (ci := 0) (q0 := 0) rfl rfl, fun U hU hW2 => ⟨rfl, by rw [hU]; exact hu, va_K.moved hW2.alike hK, fun z hz => Or.inr (by rw [← hU]; exact hz)⟩⟩ rfl hn g5.1 rfl (lv_room hW) (hT.dec hq) ⟨hcells, hslots⟩
  intro T0 hT0 X
  obtain ⟨v, st₀, t, T', L, h0', X', hL, e1', e2, ⟨hv, hRep, hz, hk⟩, stp⟩ := run T0 hT0 X
  cases hv
  rw [h0'] at hz hk
  obtain ⟨aa', f', uP, uj, uA, ur⟩ := hRep
  have hAq : ∀ z, va_A (kRow cA q a) H.size z → A z := by
    rintro z (⟨j, e, h⟩ | h)
    · exact g2m.2 (z, e) (by have := List.mem_of_getElem? h; simp [this])
    · exact hA z (Nat.le_trans g3.1 h)
  have hP1 : va_P D zcl (kRowX cA q (aa' 0) (E'.1.1 0) (E'.1.2.1 0) (f' 0)) t.heap := by
    refine vaP_mem.mpr (fun x hx => ?_)
    rcases (show x = (q, .inr (0, [.ref (aa' 0), .int (nI (E'.1.1 0).length)])) ∨ x = (aa' 0, .inl (cA 0, 16 * 2 ^ E'.1.2.1 0, .inl (f' 0))) by simpa [kRowX] using hx) with rfl | rfl
    · exact uP 0 (by omega)
    · exact uP 1 (by omega)
  have hD1 : va_D (va_A (kRow cA q a) H.size) (kRowX cA q (aa' 0) (E'.1.1 0) (E'.1.2.1 0) (f' 0)) := by
    refine vaD_mem.mpr ⟨?_, fun x hx => ?_⟩
    · have : ¬ q = aa' 0 := fun h => absurd (uj 0 1 (by omega) (by omega) h) (by omega)
      simp [kRowX, this]
    · rcases (show x = (q, .inr (0, [.ref (aa' 0), .int (nI (E'.1.1 0).length)])) ∨ x = (aa' 0, .inl (cA 0, 16 * 2 ^ E'.1.2.1 0, .inl (f' 0))) by simpa [kRowX] using hx) with rfl | rfl
      · exact uA 0 (by omega)
      · exact uA 1 (by omega)
  have J := join_mid (W1 := (h0, .inr (ci, fs)) :: W1) (wc := kRow cA q a) (W2 := W2) (H := H) (H1 := t.heap) g1 g2 (fun z hz => hA z (Nat.le_trans g3.1 hz)) (fun z a b => hk z a b) hP1 hD1
  obtain ⟨t2, a1, b1⟩ := k (aa' 0) (f' 0) (ur 0 (by omega)).2.2 T'.heap (locs ++ L) ls (by rw [e1']; exact J.1) J.2
    ⟨Nat.le_trans g3.1 (by rw [e1']; exact hz), fun z f1 f2 => by rw [e1', hk z (Nat.lt_of_lt_of_le f1 g3.1) (fun zz => f2 (hAq z zz))]; exact g3.2.1 z f1 f2, fun z hz => by
      rcases List.mem_append.mp hz with h | h
      · exact g3.2.2 z h
      · exact hAq _ (hL z h)⟩ g5 T' rfl X'
  exact ⟨t2, stp t2 a1, b1⟩
end KRC
theorem z_grow_g {S : zS} {k : Nat} : (z_grow S k).2.1 k = S.2.1 k + 1 := by unfold z_grow; simp [va_up]
theorem z_row_s {S : zS} {k : Nat} {x : List Int32} : (z_row S k x).1 k = x := by unfold z_row; simp [va_up]
def zg128 (n : Nat) : Nat := if n ≤ 16 then 0 else if n ≤ 32 then 1 else if n ≤ 64 then 2 else 3
theorem z_fl128 (v : Int32) : ∀ n, n ≤ 128 → (z_fl zS1 0 v n).1 0 = List.replicate n v ∧ (z_fl zS1 0 v n).2.1 0 = zg128 n := by
  intro n
  induction n with
  | zero => intro _; exact ⟨rfl, rfl⟩
  | succ n ih =>
    intro hn
    obtain ⟨h1, h2⟩ := ih (by omega)
    have hlen : ((z_fl zS1 0 v n).1 0).length = n := by rw [h1]; simp
    have hcap : zcap (z_fl zS1 0 v n) 0 = 16 * 2 ^ zg128 n := by unfold zcap; rw [h2]
    have hmo : (r_more (z_fl zS1 0 v n) 0).1 = (z_fl zS1 0 v n).1 ∧ (r_more (z_fl zS1 0 v n) 0).2.1 0 = zg128 (n + 1) := by
      unfold r_more
      rw [hlen, hcap]
      have e1 : (2 : Nat) ^ 0 = 1 := rfl
      have e2 : (2 : Nat) ^ 1 = 2 := rfl
      have e3 : (2 : Nat) ^ 2 = 4 := rfl
      have e4 : (2 : Nat) ^ 3 = 8 := rfl
      by_cases c1 : n ≤ 16
      · have g : zg128 n = 0 := if_pos c1
        rw [g, e1]
        by_cases c : n < 16
        · rw [if_pos (by omega)]; exact ⟨rfl, by rw [h2, g]; unfold zg128; rw [if_pos (by omega)]⟩
        · rw [if_neg (by omega), if_neg (by omega)]; refine ⟨rfl, ?_⟩; rw [z_grow_g, h2, g]; unfold zg128; rw [if_neg (by omega), if_pos (by omega)]
      · by_cases c2 : n ≤ 32
        · have g : zg128 n = 1 := by unfold zg128; rw [if_neg c1, if_pos c2]
          rw [g, e2]
          by_cases c : n < 32
          · rw [if_pos (by omega)]; exact ⟨rfl, by rw [h2, g]; unfold zg128; rw [if_neg (by omega), if_pos (by omega)]⟩
          · rw [if_neg (by omega), if_neg (by omega)]; refine ⟨rfl, ?_⟩; rw [z_grow_g, h2, g]; unfold zg128; rw [if_neg (by omega), if_neg (by omega), if_pos (by omega)]
        · by_cases c3 : n ≤ 64
          · have g : zg128 n = 2 := by unfold zg128; rw [if_neg c1, if_neg c2, if_pos c3]
            rw [g, e3]
            by_cases c : n < 64
            · rw [if_pos (by omega)]; exact ⟨rfl, by rw [h2, g]; unfold zg128; rw [if_neg (by omega), if_neg (by omega), if_pos (by omega)]⟩
            · rw [if_neg (by omega), if_neg (by omega)]; refine ⟨rfl, ?_⟩; rw [z_grow_g, h2, g]; unfold zg128; rw [if_neg (by omega), if_neg (by omega), if_neg (by omega)]
          · have g : zg128 n = 3 := by unfold zg128; rw [if_neg c1, if_neg c2, if_neg c3]
            rw [g, e4, if_pos (by omega)]
            exact ⟨rfl, by rw [h2, g]; unfold zg128; rw [if_neg (by omega), if_neg (by omega), if_neg (by omega)]⟩
    show (r_add (z_fl zS1 0 v n) 0 v).1.1 0 = _ ∧ (r_add (z_fl zS1 0 v n) 0 v).1.2.1 0 = _
    have hlt : ((r_more (z_fl zS1 0 v n) 0).1 0).length < zcap (r_more (z_fl zS1 0 v n) 0) 0 := by
      rw [hmo.1, hlen]
      unfold zcap
      rw [hmo.2]
      unfold zg128
      split
      · omega
      · split
        · omega
        · split <;> omega
    unfold r_add
    rw [if_pos hlt]
    refine ⟨?_, hmo.2⟩
    rw [z_row_s, h1, List.replicate_succ']
