-- Row.add, Row.refill
section ZRE
variable {cA : Nat → ClassId} {G : Nat → Nat} {S : zS} {A : Nat → Prop} {D : va_G} {l : Launch}
theorem zcap_grow {k : Nat} : zcap (z_grow S k) k = zcap S k * 2 := by
  unfold zcap z_grow
  simp [va_up, Nat.pow_succ]
  omega
theorem zcap_grow' {k j : Nat} (h : ¬ j = k) : zcap (z_grow S k) j = zcap S j := by
  unfold zcap z_grow
  simp [va_up, h]
theorem zfc_grow {k : Nat} (hk : k < 43) : zfc (z_grow S k) = zfc S + 1 := by
  have := zsum_up (h := S.2.1) (k := k) (x := S.2.1 k + 1) (n := 43) hk
  unfold zfc z_grow
  dsimp only
  omega
theorem zfs_grow {k : Nat} (hk : k < 43) : zfs (z_grow S k) = zfs S + zcap S k * 2 := by
  have h1 := zsum_up (h := fun j => 2 * zcap S j) (k := k) (x := 2 * (zcap S k * 2)) (n := 43) hk
  have h2 : zfs (z_grow S k) = zsum (va_up (fun j => 2 * zcap S j) k (2 * (zcap S k * 2))) 43 := by
    unfold zfs
    refine zsum_congr (fun i hi => ?_)
    by_cases e : i = k
    · subst e; simp only [va_up, if_true]; rw [zcap_grow]
    · simp only [va_up, e, if_false]; rw [zcap_grow' e]
  rw [h2]
  unfold zfs
  omega
theorem r_more_mono {k : Nat} (hk : k < 43) : zfc S ≤ zfc (r_more S k) ∧ zfs S ≤ zfs (r_more S k) := by
  unfold r_more
  split
  · exact ⟨Nat.le_refl _, Nat.le_refl _⟩
  · split
    · exact ⟨Nat.le_refl _, Nat.le_refl _⟩
    · rw [zfc_grow hk, zfs_grow hk]; omega
theorem r_add_mono {k : Nat} (hk : k < 43) (v : Int32) : zfc S ≤ zfc (r_add S k v).1 ∧ zfs S ≤ zfs (r_add S k v).1 := by
  unfold r_add
  split
  · exact r_more_mono hk
  · exact r_more_mono hk
section GROW
variable {p : Program} {e : Env} {R : Room} {s : State} {m : MethodId} {args : Array Value} {below : List Frame} {meth : Method} {c : Code} {E : zS × Option Value}
set_option maxHeartbeats 8000000 in
theorem sw_grow {k : Nat} {a1 : Int32} (hk : k < 43) (hf : R.frames = 2) (hlo : R.locals = 62) (C0 : zC p s m args meth c prog_10_method_5_code 2 "RuleTree$Row" zwl T_Row_add (some .int)) (hK : va_K D zcl (ztys cA) s) (hA : ∀ q, s.heap.size ≤ q → A q) (hcap : zcap S k ≤ 2097152)
    (kk : zSW p l e R s m args below meth c 2 A D cA G (z_grow S k) 40 [(0, .ref (G (11 + k))), (1, .int a1)] [] E) : zSW p l e R s m args below meth c 2 A D cA G S 22 [(0, .ref (G (11 + k))), (1, .int a1)] [] E := by
  have hc0 : 0 < zcap S k := by unfold zcap; exact Nat.mul_pos (by decide) (Nat.pow_pos (by decide))
  have m1 := zfc_grow (S := S) hk
  have m2 := zfs_grow (S := S) hk
  refine ⟨by have := kk.1; omega, by have := kk.2.1; omega, fun H locs cells slots ls q1 q2 q3 q4 q5 => ?_⟩
  have k1 := kk.1
  have k2 := kk.2.1
  obtain ⟨aa, f, hP, hjj, hAA, hrr⟩ := id q1
  obtain ⟨hx, hb, hml, hown, hts, hT, hr, hlocks⟩ := C0
  have he : (zws 97 (zad G aa) (zct cA G aa f S))[11 + k]? = some (G (11 + k), .inr (0, [.ref (aa k), .int (nI (S.1 k).length)])) := by rw [zws_at (by omega), zct_row hk, zad_lo (by omega)]
  have he2 : (zws 97 (zad G aa) (zct cA G aa f S))[54 + k]? = some (aa k, .inl (cA 0, zcap S k, .inl (f k))) := by rw [zws_at (by omega), zct_arr, zad_arr]
  have hw2 : va_at D zcl (aa k, .inl (cA 0, zcap S k, .inl (f k))) H := by
    have h := hP (54 + k) (by omega)
    rwa [zct_arr, zad_arr] at h
  refine zrun_ok hx hb hT 2 22 _ _ (pc' := 24) (lv' := [(0, .ref (G (11 + k))), (1, .int a1)]) (st' := [.ref (G (11 + k)), .ref (G (11 + k))]) rfl q5 (fun ls hl => ?_)
  refine va_get (D := D) (cl := zcl) (tys := ztys cA) (ci := 0) hx hb hts i_Row hown hK (zws_P hP) (11 + k) he rfl 0 (by decide) (hts _ wd_1_36) (fun _ h => h) rfl (hT.dec (pc := 24) rfl) ?_
  refine zrun_ok hx hb hT 1 27 _ _ (pc' := 28) (lv' := [(0, .ref (G (11 + k))), (1, .int a1)]) (st' := [.ref (G (11 + k)), .ref (aa k), .ref (G (11 + k))]) rfl hl (fun ls hl => ?_)
  refine va_get (D := D) (cl := zcl) (tys := ztys cA) (ci := 0) hx hb hts i_Row hown hK (zws_P hP) (11 + k) he rfl 0 (by decide) (hts _ wd_1_36) (fun _ h => h) rfl (hT.dec (pc := 28) rfl) ?_
  refine va_alen (D := D) (cl := zcl) (tys := ztys cA) hx hb hK (zws_P hP) (54 + k) 0 he2 rfl (v := nI (zcap S k)) rfl (hT.dec (pc := 31) rfl) ?_
  refine zrun_ok hx hb hT 2 32 _ _ (pc' := 34) (lv' := [(0, .ref (G (11 + k))), (1, .int a1)]) (st' := [.int (nI (zcap S k) * 2), .ref (aa k), .ref (G (11 + k))]) rfl hl (fun ls hl => ?_)
  rw [show nI (zcap S k) * 2 = nI (zcap S k * 2) from pk_mul _ 2]
  have hG : GoodIn zwl (va_wsS "RuleTree$Row" 20 y_Arr_copyOf (zw y_Arr_copyOf prog_17_method_123_code 3 (some (.array .int)))) := by
    intro w hw
    rcases List.mem_append.mp hw with h | h
    · have : w = .methodLink "RuleTree$Row" 20 y_Arr_copyOf ∨ w = .static y_Arr_copyOf ∨ w = .initialized y_Arr_copyOf.cls := by simpa using h
      rcases this with rfl | rfl | rfl
      · exact zgood _ wd_1_105
      · exact zgood _ wd_1_106
      · exact zgood _ wd_1_6
    · rcases List.mem_cons.mp h with rfl | h
      · exact zgood _ wd_1_107
      · exact zgood _ h
  have hA1 : ∀ q, va_A [(aa k, .inl (cA 0, zcap S k, .inl (f k)))] H.size q → A q := by
    intro q h
    rcases h with ⟨j, w, h⟩ | h
    · cases j with
      | zero => cases h; have := hAA (54 + k) (by omega); rwa [zad_arr] at this
      | succ j => simp at h
    · exact hA q (Nat.le_trans q2.1 h)
  have hD1 : va_D (fun _ => True) [(aa k, (.inl (cA 0, zcap S k, .inl (f k)) : va_E))] := by
    refine ⟨fun i j x y hx hy _ => ?_, fun _ _ _ => trivial⟩
    have h1 := (List.getElem?_eq_some_iff.mp hx).1
    have h2 := (List.getElem?_eq_some_iff.mp hy).1
    simp at h1 h2
    omega
  refine va_callr (va_runS (As := [.ref (aa k), .int (nI (zcap S k * 2))]) (rest := [.ref (G (11 + k))]) ⟨hx, hb, hml, hown, hts⟩ (c_Arr_copyOf (cA := cA) (D := D) (aa k) H.size (zcap S k) (zcap S k * 2) (f k) (by omega) (by omega)) (va_cwS 2 hts hG rfl rfl rfl (by decide +kernel) ⟨by rw [hf]; exact Nat.le_refl 2, by rw [hlo]; exact Nat.le_refl 62⟩) ⟨fun a U g mk q => by obtain ⟨q0, q1, qP, qK, qD⟩ := q; exact ⟨q0, q1, qP, va_K.moved (u := U) (U := U.calling g mk a) (Vm.Alike.refl U.vm) qK, qD⟩, fun U hU hW => ⟨rfl, by rw [hU], by rw [hU]; exact zP1 hw2, va_K.moved hW.alike hK, hD1⟩⟩ rfl rfl hl.1 rfl (lv_room (Nat.le_of_ble_eq_true rfl)) (hT.dec (pc := 34) rfl) ⟨by omega, by omega⟩) q2 (fun q _ h => hA1 q h) hA1 (fun u ra t H1 locs1 ht hvm _ hB hz1 hk1 hS1 => ?_)
  obtain ⟨hP1, hD1⟩ := hB
  rw [ht] at hP1
  have hra : H.size ≤ ra := by
    have h := hD1.2 1 _ rfl
    rcases h with ⟨j, w, h⟩ | h
    · cases j with
      | zero =>
        have e : aa k = ra := by cases h; rfl
        have := hD1.1 0 1 _ _ rfl rfl e
        omega
      | succ j => simp at h
    · exact h
  have hlt : ∀ i, i < 97 → zad G aa i < H.size := fun i hi => (hP i hi).lt
  have hP2 : ∀ i, i < 98 → va_at D zcl (va_up (zad G aa) 97 ra i, va_up (zct cA G aa f S) 97 (.inl (cA 0, zcap S k * 2, .inl (zcp (f k) (zcap S k)))) i) H1 := by
    intro i hi
    by_cases e1 : i = 97
    · subst e1
      simp only [va_up, if_true]
      exact hP1 1 _ rfl
    · simp only [va_up, e1, if_false]
      by_cases e2 : i = 54 + k
      · subst e2
        rw [zct_arr, zad_arr]
        exact hP1 0 _ rfl
      · refine (hP i (by omega)).kept (hk1 _ (hlt i (by omega)) ?_)
        rintro (⟨j, w, h⟩ | h)
        · cases j with
          | zero =>
            have e : aa k = zad G aa i := by
              have := congrArg Prod.fst (Option.some.inj h)
              exact this
            exact e2 (hjj i (54 + k) (by omega) (by omega) (by rw [zad_arr]; exact e.symm))
          | succ j => simp at h
        · have := hlt i (by omega); omega
  have hj2 : ∀ i j, i < 98 → j < 98 → va_up (zad G aa) 97 ra i = va_up (zad G aa) 97 ra j → i = j := by
    intro i j hi hj e
    by_cases e1 : i = 97
    · by_cases e2 : j = 97
      · omega
      · simp only [va_up, e1, e2, if_true, if_false] at e
        have := hlt j (by omega)
        omega
    · by_cases e2 : j = 97
      · simp only [va_up, e1, e2, if_true, if_false] at e
        have := hlt i (by omega)
        omega
      · simp only [va_up, e1, e2, if_false] at e
        exact hjj i j (by omega) (by omega) e
  have hA2 : ∀ i, i < 98 → A (va_up (zad G aa) 97 ra i) := by
    intro i hi
    by_cases e1 : i = 97
    · subst e1; simp only [va_up, if_true]; exact hA ra (Nat.le_trans q2.1 hra)
    · simp only [va_up, e1, if_false]; exact hAA i (by omega)
  have n97 : ¬ 11 + k = 97 := by omega
  have he3 : (zws 98 (va_up (zad G aa) 97 ra) (va_up (zct cA G aa f S) 97 (.inl (cA 0, zcap S k * 2, .inl (zcp (f k) (zcap S k))))))[11 + k]? = some (G (11 + k), .inr (0, [.ref (aa k), .int (nI (S.1 k).length)])) := by
    rw [zws_at (by omega)]
    simp only [va_up, n97, if_false]
    rw [zct_row hk, zad_lo (by omega)]
  refine va_put (D := D) (cl := zcl) (tys := ztys cA) (ci := 0) (ty := .array .int) hx hb hts i_Row t_Row t_Row_ok n_Row hown hK (zws_P hP2) (zws_D hj2 hA2) hS1 (11 + k) he3 rfl 0 (by decide) (hts _ wd_1_36) (fun _ h9 => h9) rfl (by decide +kernel) rfl rfl (Nat.le_of_ble_eq_true rfl) (hT.dec (pc := 37) rfl) (fun H2 locs2 hP3 hD3 hS2 => ?_)
  have hset : (zws 98 (va_up (zad G aa) 97 ra) (va_up (zct cA G aa f S) 97 (.inl (cA 0, zcap S k * 2, .inl (zcp (f k) (zcap S k)))))).set (11 + k) (G (11 + k), .inr (0, [.ref ra, .int (nI (S.1 k).length)])) = zws 98 (va_up (zad G aa) 97 ra) (va_up (va_up (zct cA G aa f S) 97 (.inl (cA 0, zcap S k * 2, .inl (zcp (f k) (zcap S k))))) (11 + k) (.inr (0, [.ref ra, .int (nI (S.1 k).length)]))) := by
    have e : G (11 + k) = va_up (zad G aa) 97 ra (11 + k) := by simp only [va_up, n97, if_false]; exact (zad_lo (by omega)).symm
    rw [e, zws_set]
  have hP3 : va_P D zcl ((zws 98 (va_up (zad G aa) 97 ra) (va_up (zct cA G aa f S) 97 (.inl (cA 0, zcap S k * 2, .inl (zcp (f k) (zcap S k)))))).set (11 + k) (G (11 + k), .inr (0, [.ref ra, .int (nI (S.1 k).length)]))) H2 := hP3
  rw [hset] at hP3
  have tau : ∀ i, i < 97 → ∃ j, j < 98 ∧ (j = 97 ↔ i = 54 + k) ∧ (¬ j = 97 → j = i) ∧ zad G (va_up aa k ra) i = va_up (zad G aa) 97 ra j ∧ zct cA G (va_up aa k ra) (va_up f k (zcp (f k) (zcap S k))) (z_grow S k) i = va_up (va_up (zct cA G aa f S) 97 (.inl (cA 0, zcap S k * 2, .inl (zcp (f k) (zcap S k))))) (11 + k) (.inr (0, [.ref ra, .int (nI (S.1 k).length)])) j := by
    intro i hi
    by_cases e1 : i = 54 + k
    · subst e1
      refine ⟨97, by omega, by simp, by omega, ?_, ?_⟩
      · rw [zad_arr]; simp [va_up]
      · rw [zct_arr, zcap_grow]; simp [va_up, show ¬ (97 : Nat) = 11 + k by omega]
    · refine ⟨i, by omega, ⟨fun h => by omega, fun h => absurd h e1⟩, fun _ => rfl, ?_, ?_⟩
      · simp only [va_up, show ¬ i = 97 by omega, if_false]
        unfold zad
        by_cases d : i < 54
        · rw [if_pos d, if_pos d]
        · rw [if_neg d, if_neg d]
          show va_up aa k ra (i - 54) = aa (i - 54)
          simp [va_up, show ¬ i - 54 = k by omega]
      · by_cases e2 : i = 11 + k
        · subst e2
          rw [zct_row hk]
          simp [va_up, z_grow]
        · simp only [va_up, show ¬ i = 97 by omega, e2, if_false]
          unfold zct
          by_cases a : i < 10
          · rw [if_pos a, if_pos a]
            have : ∀ o, zobj G (z_grow S k) o = zobj G S o := fun o => by unfold zobj; rfl
            rw [this]
          · rw [if_neg a, if_neg a]
            by_cases b : i = 10
            · rw [if_pos b, if_pos b]; rfl
            · rw [if_neg b, if_neg b]
              by_cases d : i < 54
              · rw [if_pos d, if_pos d]
                have : ¬ i - 11 = k := by omega
                simp [va_up, this, z_grow]
              · rw [if_neg d, if_neg d]
                have : ¬ i - 54 = k := by omega
                rw [zcap_grow' this]
                simp [va_up, this]
  refine kk.2.2 H2 locs2 (cells + 1) (slots + zcap S k * 2) ls ⟨va_up aa k ra, va_up f k (zcp (f k) (zcap S k)), fun i hi => ?_, fun i j hi hj e => ?_, fun i hi => ?_, fun j hj => ?_⟩ hS2 (by omega) (by omega) hl
  · obtain ⟨j, j1, -, -, j4, j5⟩ := tau i hi
    rw [j4, j5]
    exact zws_Pi hP3 j1
  · obtain ⟨i', i1, i2, i3, i4, -⟩ := tau i hi
    obtain ⟨j', j1, j2, j3, j4, -⟩ := tau j hj
    rw [i4, j4] at e
    have := hj2 i' j' i1 j1 e
    subst this
    by_cases h : i' = 97
    · rw [i2.mp h, j2.mp h]
    · rw [← i3 h, ← j3 h]
  · obtain ⟨j, j1, -, -, j4, -⟩ := tau i hi
    rw [j4]
    exact hA2 j j1
  · obtain ⟨g1, g2, g3⟩ := hrr j hj
    by_cases ej : j = k
    · subst ej
      rw [zcap_grow]
      refine ⟨by show (S.1 j).length ≤ _; omega, by omega, fun i hi => ?_⟩
      have hi : i < (S.1 j).length := hi
      show va_up f j (zcp (f j) (zcap S j)) j i = (S.1 j).getD i 0
      rw [← g3 i hi]
      simp [va_up, va_cpy, show i < zcap S j by omega]
    · rw [zcap_grow' ej]
      refine ⟨g1, g2, fun i hi => ?_⟩
      show va_up f k (zcp (f k) (zcap S k)) j i = (S.1 j).getD i 0
      rw [← g3 i hi]
      simp [va_up, ej]
end GROW
end ZRE
