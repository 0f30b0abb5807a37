-- THE CLASS'S STATE: 43 rows (lists), how often each has grown, 5 numbers, the families' bits
abbrev zS : Type := (Nat → List Int32) × (Nat → Nat) × (Nat → Int32) × (Nat → Int64)
def zcap (S : zS) (k : Nat) : Nat := 16 * 2 ^ S.2.1 k
abbrev zcl : List vw_C := [(R_Row, F_Row, 2), (R_Tre, F_Tre, 12), (R_Fam, F_Fam, 2), (R_Pat, F_Pat, 9), (R_Psh, F_Psh, 2), (R_Pai, F_Pai, 2), (R_Par, F_Par, 15), (R_Nod, F_Nod, 10), (R_Grw, F_Grw, 5), (R_Wlk, F_Wlk, 6), (R_Gap, F_Gap, 6), (R_Mod, F_Mod, 46)]
abbrev ztys (cA : Nat → ClassId) : List (ClassId × FieldType) := [(cA 0, .int), (cA 1, .long), (cA 2, .byte), (cA 3, .short), (cA 4, .boolean)]
def zobj (G : Nat → Nat) (S : zS) : Nat → List Value
  | 0 => [.ref (G 1), .ref (G 2), .ref (G 3), .ref (G 4), .ref (G 23), .ref (G 5), .ref (G 6), .ref (G 7), .ref (G 8), .ref (G 9), .int (S.2.2.1 0), .int (S.2.2.1 1)]
  | 1 => [.ref (G 11), .ref (G 10)]
  | 2 => [.ref (G 12), .ref (G 13), .ref (G 14), .ref (G 15), .ref (G 16), .ref (G 17), .ref (G 18), .ref (G 19), .ref (G 20)]
  | 3 => [.ref (G 21), .int (S.2.2.1 2)]
  | 4 => [.ref (G 2), .ref (G 22)]
  | 5 => [.ref (G 2), .ref (G 24), .ref (G 25), .ref (G 26), .ref (G 27), .ref (G 28), .ref (G 29), .ref (G 30), .ref (G 31), .ref (G 32), .ref (G 33), .ref (G 34), .ref (G 35), .ref (G 36), .ref (G 37)]
  | 6 => [.ref (G 38), .ref (G 39), .ref (G 40), .ref (G 41), .ref (G 42), .ref (G 43), .ref (G 44), .ref (G 45), .ref (G 46), .ref (G 47)]
  | 7 => [.ref (G 1), .ref (G 5), .ref (G 6), .ref (G 48), .ref (G 49)]
  | 8 => [.ref (G 2), .ref (G 5), .ref (G 6), .ref (G 50), .ref (G 51), .int (S.2.2.1 3)]
  | _ => [.ref (G 1), .ref (G 5), .ref (G 6), .ref (G 52), .ref (G 53), .int (S.2.2.1 4)]
def zad (G aa : Nat → Nat) (i : Nat) : Nat := if i < 54 then G i else aa (i - 54)
def zct (cA : Nat → ClassId) (G aa : Nat → Nat) (f : Nat → Nat → Int32) (S : zS) (i : Nat) : va_E :=
  if i < 10 then .inr (i + 1, zobj G S i) else if i = 10 then .inl (cA 1, 1024, .inr (.inl S.2.2.2)) else if i < 54 then .inr (0, [.ref (aa (i - 11)), .int (nI (S.1 (i - 11)).length)]) else .inl (cA 0, zcap S (i - 54), .inl (f (i - 54)))
def zws (n : Nat) (ad : Nat → Nat) (ct : Nat → va_E) : va_W := (List.range n).map (fun i => (ad i, ct i))
theorem zws_at {n : Nat} {ad : Nat → Nat} {ct : Nat → va_E} {i : Nat} (h : i < n) : (zws n ad ct)[i]? = some (ad i, ct i) := by simp [zws, h]
theorem zws_at' {n : Nat} {ad : Nat → Nat} {ct : Nat → va_E} {i : Nat} {q : Nat × va_E} (h : (zws n ad ct)[i]? = some q) : i < n ∧ q = (ad i, ct i) := by
  have hi : i < n := by
    have := (List.getElem?_eq_some_iff.mp h).1
    simpa [zws] using this
  rw [zws_at hi] at h
  exact ⟨hi, (Option.some.inj h).symm⟩
theorem zws_P {D : va_G} {cl : List vw_C} {n : Nat} {ad : Nat → Nat} {ct : Nat → va_E} {H : Heap} (h : ∀ i, i < n → va_at D cl (ad i, ct i) H) : va_P D cl (zws n ad ct) H := fun k q hk => by
  obtain ⟨h1, rfl⟩ := zws_at' hk
  exact h k h1
theorem zws_Pi {D : va_G} {cl : List vw_C} {n : Nat} {ad : Nat → Nat} {ct : Nat → va_E} {H : Heap} (h : va_P D cl (zws n ad ct) H) {i : Nat} (hi : i < n) : va_at D cl (ad i, ct i) H := h i _ (zws_at hi)
theorem zws_D {A : Nat → Prop} {n : Nat} {ad : Nat → Nat} {ct : Nat → va_E} (hj : ∀ i j, i < n → j < n → ad i = ad j → i = j) (hA : ∀ i, i < n → A (ad i)) : va_D A (zws n ad ct) := by
  refine ⟨fun i j p q hp hq e => ?_, fun k q hk => ?_⟩
  · obtain ⟨h1, rfl⟩ := zws_at' hp
    obtain ⟨h2, rfl⟩ := zws_at' hq
    exact hj i j h1 h2 e
  · obtain ⟨h1, rfl⟩ := zws_at' hk
    exact hA k h1
theorem zws_set {n : Nat} {ad : Nat → Nat} {ct : Nat → va_E} {q : Nat} {e : va_E} : (zws n ad ct).set q (ad q, e) = zws n ad (va_up ct q e) := by
  apply List.ext_getElem?
  intro i
  by_cases hi : i < n
  · rw [zws_at hi]
    by_cases hq : q = i
    · subst hq
      rw [List.getElem?_set_self (by simpa [zws] using hi)]
      simp [va_up]
    · rw [List.getElem?_set_ne hq, zws_at hi]
      simp [va_up, Ne.symm hq]
  · rw [List.getElem?_eq_none (by simp [zws]; omega), List.getElem?_eq_none (by simp [zws]; omega)]
/-- the heap holds the class's state -/
def zRep (D : va_G) (cA : Nat → ClassId) (G : Nat → Nat) (A : Nat → Prop) (S : zS) (H : Heap) : Prop := ∃ (aa : Nat → Nat) (f : Nat → Nat → Int32),
  (∀ i, i < 97 → va_at D zcl (zad G aa i, zct cA G aa f S i) H) ∧ (∀ i j, i < 97 → j < 97 → zad G aa i = zad G aa j → i = j) ∧ (∀ i, i < 97 → A (zad G aa i)) ∧ ∀ k, k < 43 → (S.1 k).length ≤ zcap S k ∧ zcap S k ≤ 4194304 ∧ ∀ i, i < (S.1 k).length → f k i = (S.1 k).getD i 0
-- what has been made: cells, slots
def zsum (h : Nat → Nat) : Nat → Nat
  | 0 => 0
  | n + 1 => zsum h n + h n
def zfc (S : zS) : Nat := zsum S.2.1 43
def zfs (S : zS) : Nat := zsum (fun k => 2 * zcap S k) 43
theorem zsum_up {h : Nat → Nat} {k x : Nat} : ∀ {n : Nat}, k < n → zsum (va_up h k x) n + h k = zsum h n + x := by
  intro n
  induction n with
  | zero => intro hk; omega
  | succ n ih =>
    intro hk
    have out : ∀ m, m ≤ k → zsum (va_up h k x) m = zsum h m := by
      intro m
      induction m with
      | zero => intro _; rfl
      | succ m ihm =>
        intro hm
        show zsum (va_up h k x) m + va_up h k x m = zsum h m + h m
        rw [ihm (by omega)]
        simp [va_up, show m ≠ k by omega]
    show zsum (va_up h k x) n + va_up h k x n + h k = zsum h n + h n + x
    by_cases e : k = n
    · subst e
      rw [out k (Nat.le_refl _)]
      simp [va_up]
      omega
    · have := ih (by omega)
      simp [va_up, show n ≠ k by omega] at this ⊢
      omega
theorem zsum_congr {h g : Nat → Nat} : ∀ {n : Nat}, (∀ i, i < n → h i = g i) → zsum h n = zsum g n := by
  intro n
  induction n with
  | zero => intro _; rfl
  | succ n ih => intro e; show zsum h n + h n = zsum g n + g n; rw [ih (fun i hi => e i (by omega)), e n (by omega)]
-- the row's methods, as functions
def r_size (S : zS) (k : Nat) : Int32 := nI (S.1 k).length
def r_at (S : zS) (k : Nat) (i : Int32) : Int32 := if i < 0 then -1 else if nI (S.1 k).length ≤ i then -1 else (S.1 k).getD i.toNatClampNeg 0
def z_row (S : zS) (k : Nat) (x : List Int32) : zS := (va_up S.1 k x, S.2)
def z_sc (S : zS) (k : Nat) (x : Int32) : zS := (S.1, S.2.1, va_up S.2.2.1 k x, S.2.2.2)
def z_lg (S : zS) (k : Nat) (x : Int64) : zS := (S.1, S.2.1, S.2.2.1, va_up S.2.2.2 k x)
def z_grow (S : zS) (k : Nat) : zS := (S.1, va_up S.2.1 k (S.2.1 k + 1), S.2.2)
def r_set (S : zS) (k : Nat) (i v : Int32) : zS := if i < 0 then S else if nI (S.1 k).length ≤ i then S else z_row S k ((S.1 k).set i.toNatClampNeg v)
def r_more (S : zS) (k : Nat) : zS := if (S.1 k).length < zcap S k then S else if 2097152 < zcap S k then S else z_grow S k
def r_add (S : zS) (k : Nat) (v : Int32) : zS × Int32 := if ((r_more S k).1 k).length < zcap (r_more S k) k then (z_row (r_more S k) k (S.1 k ++ [v]), nI (S.1 k).length) else (r_more S k, -1)
def r_take (S : zS) (k : Nat) : zS × Int32 := if 0 < (S.1 k).length then (z_row S k (S.1 k).dropLast, (S.1 k).getLastD 0) else (S, -1)
def r_emp (S : zS) (k : Nat) : zS := z_row S k []
def z_fl (S : zS) (k : Nat) (v : Int32) : Nat → zS
  | 0 => r_emp S k
  | j + 1 => (r_add (z_fl S k v j) k v).1
def r_fill (S : zS) (k : Nat) (n v : Int32) : zS := z_fl S k v n.toInt.toNat
def z_max (x y : Int32) : Int32 := if x < y then y else x
