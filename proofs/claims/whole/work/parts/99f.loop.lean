-- THE LAW, on
section LAW
variable {p : Program} {l : Launch} {e : Env} {s : State} {m : MethodId} {below : List Frame} {meth : Method} {c : Code} {b L : Nat} {xs : Nat → Int32} {D : va_G} {cA : Nat → ClassId} {G B : Nat → Nat}
variable {S : zS} {M : zM} {pc : Nat} {lv : zLv} {st rest : List Value} {T : List zTr}
set_option maxHeartbeats 1000000 in
set_option maxRecDepth 20000 in
theorem lw_switch (C0 : lwC lw_Th p s m meth c b) (hK : va_K D zcl (ztys cA) s) (hX : va_X b L xs s s.heap) (hbl : b < s.heap.size) (hL : L ≤ 2048) {i n : Nat} (hi : i + 3 < L) (hn : n ≤ 600) (h : Rel n S M) (kn : ∀ S1 M1, Rel (n + 1) S1 M1 → LW p l e s m below meth c b D cA G B S1 M1 641 (lwl b G B i) []) (x : Int32) : LW p l e s m below meth c b D cA G B S M 32 (lwl b G B i) [.int x] := by
  by_cases c0 : x = 0
  · subst c0
    exact lw_tin (tgt := 124) C0 rfl (by decide) (by decide) rfl (by decide) (lk_family C0 hK hX hbl hL hi hn h kn)
  by_cases c1 : x = 1
  · subst c1
    exact lw_tin (tgt := 187) C0 rfl (by decide) (by decide) rfl (by decide) (lk_any C0 hK hX hbl hL hi hn h kn)
  by_cases c2 : x = 2
  · subst c2
    exact lw_tin (tgt := 200) C0 rfl (by decide) (by decide) rfl (by decide) (lk_constant C0 hK hX hbl hL hi hn h kn)
  by_cases c3 : x = 3
  · subst c3
    exact lw_tin (tgt := 233) C0 rfl (by decide) (by decide) rfl (by decide) (lk_built C0 hK hX hbl hL hi hn h kn)
  by_cases c4 : x = 4
  · subst c4
    exact lw_tin (tgt := 276) C0 rfl (by decide) (by decide) rfl (by decide) (lk_name C0 hK hX hbl hL hi hn h kn)
  by_cases c5 : x = 5
  · subst c5
    exact lw_tin (tgt := 309) C0 rfl (by decide) (by decide) rfl (by decide) (lk_push C0 hK hX hbl hL hi hn h kn)
  by_cases c6 : x = 6
  · subst c6
    exact lw_tin (tgt := 342) C0 rfl (by decide) (by decide) rfl (by decide) (lk_record C0 hK hX hbl hL hi hn h kn)
  by_cases c7 : x = 7
  · subst c7
    exact lw_tin (tgt := 365) C0 rfl (by decide) (by decide) rfl (by decide) (lk_rule C0 hK hX hbl hL hi hn h kn)
  by_cases c8 : x = 8
  · subst c8
    exact lw_tin (tgt := 388) C0 rfl (by decide) (by decide) rfl (by decide) (lk_clear C0 hK hX hbl hL hi hn h kn)
  by_cases c9 : x = 9
  · subst c9
    exact lw_tin (tgt := 401) C0 rfl (by decide) (by decide) rfl (by decide) (lk_forget C0 hK hX hbl hL hi hn h kn)
  by_cases c10 : x = 10
  · subst c10
    exact lw_tin (tgt := 414) C0 rfl (by decide) (by decide) rfl (by decide) (lk_grow C0 hK hX hbl hL hi hn h kn)
  by_cases c11 : x = 11
  · subst c11
    exact lw_tin (tgt := 427) C0 rfl (by decide) (by decide) rfl (by decide) (lk_run C0 hK hX hbl hL hi hn h kn)
  by_cases c12 : x = 12
  · subst c12
    exact lw_tin (tgt := 450) C0 rfl (by decide) (by decide) rfl (by decide) (lk_looks C0 hK hX hbl hL hi hn h kn)
  by_cases c13 : x = 13
  · subst c13
    exact lw_tin (tgt := 473) C0 rfl (by decide) (by decide) rfl (by decide) (lk_first C0 hK hX hbl hL hi hn h kn)
  by_cases c14 : x = 14
  · subst c14
    exact lw_tin (tgt := 496) C0 rfl (by decide) (by decide) rfl (by decide) (lk_fits C0 hK hX hbl hL hi hn h kn)
  by_cases c15 : x = 15
  · subst c15
    exact lw_tin (tgt := 519) C0 rfl (by decide) (by decide) rfl (by decide) (lk_ends C0 hK hX hbl hL hi hn h kn)
  by_cases c16 : x = 16
  · subst c16
    exact lw_tin (tgt := 542) C0 rfl (by decide) (by decide) rfl (by decide) (lk_depth C0 hK hX hbl hL hi hn h kn)
  by_cases c17 : x = 17
  · subst c17
    exact lw_tin (tgt := 555) C0 rfl (by decide) (by decide) rfl (by decide) (lk_missing C0 hK hX hbl hL hi hn h kn)
  by_cases c18 : x = 18
  · subst c18
    exact lw_tin (tgt := 618) C0 rfl (by decide) (by decide) rfl (by decide) (lk_count C0 hK hX hbl hL hi hn h kn)
  have hout : x.toInt < 0 ∨ 18 < x.toInt := by
    simp only [← Int32.toInt_inj] at c0 c1 c2 c3 c4 c5 c6 c7 c8 c9 c10 c11 c12 c13 c14 c15 c16 c17 c18
    simp at c0 c1 c2 c3 c4 c5 c6 c7 c8 c9 c10 c11 c12 c13 c14 c15 c16 c17 c18
    omega
  exact lw_tout (tgt := 641) C0 rfl hout (by decide) (kn _ _ (Rel_mono h))
theorem lw_cmp {L i : Nat} (hL : L ≤ 2048) (hi : i ≤ 2048) (h : L ≤ i + 3) : nI L - 4 < nI i := by
  rw [Int32.lt_iff_toInt_lt, nI_toInt (by omega)]
  have e : (nI L - 4).toInt = (L : Int) - 4 := by
    rw [Int32.toInt_sub, nI_toInt (by omega)]
    show Int.bmod ((L : Int) - 4) (2 ^ 32) = (L : Int) - 4
    rw [Int.bmod_eq_of_le] <;> omega
  rw [e]
  omega
set_option maxHeartbeats 1000000 in
set_option maxRecDepth 20000 in
/-- the law's loop -/
theorem lw_loop (C0 : lwC lw_Th p s m meth c b) (hK : va_K D zcl (ztys cA) s) (hX : va_X b L xs s s.heap) (hbl : b < s.heap.size) (hL : L ≤ 2048) : ∀ (d n i : Nat) (S : zS) (M : zM), i = 4 * n → i ≤ 2048 → L ≤ i + 4 * d + 3 → Rel n S M → LW p l e s m below meth c b D cA G B S M 18 (lwl b G B i) [] := by
  have hend : ∀ (n i : Nat) (S : zS) (M : zM), Rel n S M → LW p l e s m below meth c b D cA G B S M 647 (lwl b G B i) [] := by
    intro n i S M h
    refine lw_go C0 1 (pc' := 648) (lv' := lwl b G B i) (st' := [.int 1]) rfl ?_
    obtain ⟨hx, hb, hml, hown, hts, hT, hr, hlocks⟩ := C0
    intro H locs cells slots ls h1 h2 h3 h4 h5 h6
    obtain ⟨f1, f2⟩ := Rel_fit h
    refine va_forget (fun q hq => h3.2.2 q hq) ?_
    refine W.widen (k := 600000) (n := 7302250) (by omega) (by omega) ?_
    exact lw_ret hx hb hr hlocks (hT.dec (show lw_Th.lookup 648 = some (.ireturn, 1, 0, 0) from rfl))
  intro d
  induction d with
  | zero =>
    intro n i S M ei hi2 hd h
    refine lw_go C0 2 (pc' := 20) (lv' := lwl b G B i) (st' := [.ref b, .int (nI i)]) rfl ?_
    refine lw_len C0 hX hbl rfl ?_
    refine lw_go C0 2 (pc' := 23) (lv' := lwl b G B i) (st' := [.int (nI L - 4), .int (nI i)]) rfl ?_
    refine lw_gt C0 rfl (fun _ => hend n i S M h) (fun hc => absurd (lw_cmp (by omega) (by omega) (by omega)) hc)
  | succ d ih =>
    intro n i S M ei hi2 hd h
    refine lw_go C0 2 (pc' := 20) (lv' := lwl b G B i) (st' := [.ref b, .int (nI i)]) rfl ?_
    refine lw_len C0 hX hbl rfl ?_
    refine lw_go C0 2 (pc' := 23) (lv' := lwl b G B i) (st' := [.int (nI L - 4), .int (nI i)]) rfl ?_
    refine lw_gt C0 rfl (fun _ => hend n i S M h) (fun hc => ?_)
    have hi : i + 3 < L := by
      rcases Nat.lt_or_ge (i + 3) L with q | q
      · exact q
      · exact absurd (lw_cmp (by omega) (by omega) q) hc
    refine lw_go C0 2 (pc' := 28) (lv' := lwl b G B i) (st' := [.int (nI i), .ref b]) rfl ?_
    refine lw_ld C0 hX hbl (j := i) rfl (by omega) hL rfl ?_
    refine lw_go C0 2 (pc' := 32) (lv' := lwl b G B i) (st' := [.int (xs i &&& 31)]) rfl ?_
    refine lw_switch C0 hK hX hbl hL hi (by omega) h (fun S1 M1 h1 => ?_) _
    refine lw_go C0 2 (pc' := 18) (lv' := [(0, .ref b), (1, .ref (G 0)), (2, .ref (B 0)), (3, .int (nI i + 4))]) (st' := []) rfl ?_
    have e4 : nI i + 4 = nI (i + 4) := nI_add i 4
    rw [e4]
    exact ih (n + 1) (i + 4) S1 M1 (by omega) (by omega) (by omega) h1
end LAW
