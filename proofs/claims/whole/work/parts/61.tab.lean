-- PURE LAYER: rows as functions, the tables of families and patterns
def rowOf (n : Nat) (f : Nat → Int32) : List Int32 := (List.range n).map f
theorem rowOf_len {n : Nat} {f : Nat → Int32} : (rowOf n f).length = n := by simp [rowOf]
theorem rowOf_rd {n i : Nat} {f : Nat → Int32} (h : i < n) (hn : n < 2 ^ 31) : rd (rowOf n f) (nI i) = f i := by
  rw [rd_n (by rw [rowOf_len]; exact h) (by rw [rowOf_len]; exact hn)]
  simp [rowOf, List.getD, h]
theorem rowOf_big {n i : Nat} {f : Nat → Int32} (h : n ≤ i) (hn : i < 2 ^ 31) : rd (rowOf n f) (nI i) = -1 := rd_big (by rw [rowOf_len]; exact h) hn
theorem rowOf_congr {n : Nat} {f g : Nat → Int32} (h : ∀ i, i < n → f i = g i) : rowOf n f = rowOf n g := List.map_congr_left (fun i hi => h i (List.mem_range.mp hi))
theorem rowOf_inj {n : Nat} {f g : Nat → Int32} (h : rowOf n f = rowOf n g) : ∀ i, i < n → f i = g i := fun i hi => by
  have := congrArg (fun l => l.getD i 0) h
  simpa [rowOf, List.getD, hi] using this
theorem rowOf_ext {n : Nat} {f g : Nat → Int32} {v : Int32} (h : ∀ i, i < n → f i = g i) (hv : v = g n) : rowOf n f ++ [v] = rowOf (n + 1) g := by
  unfold rowOf
  rw [List.range_succ, List.map_append, List.map_congr_left (fun i hi => h i (List.mem_range.mp hi)), hv]
  rfl
theorem rowOf_add {n : Nat} {f : Nat → Int32} {v : Int32} : rowOf n f ++ [v] = rowOf (n + 1) (va_up f n v) := rowOf_ext (fun i hi => by rw [va_n (by omega)]) (by rw [va_s])
theorem rowOf_set {n i : Nat} {f : Nat → Int32} {v : Int32} : (rowOf n f).set i v = rowOf n (va_up f i v) := by
  apply List.ext_getElem?
  intro j
  by_cases hj : j < n
  · by_cases e : i = j
    · subst e
      rw [List.getElem?_set_self (by rw [rowOf_len]; exact hj)]
      simp [rowOf, hj, va_s]
    · rw [List.getElem?_set_ne e]
      simp [rowOf, hj, va_n (Ne.symm e)]
  · rw [List.getElem?_eq_none (by rw [List.length_set, rowOf_len]; omega), List.getElem?_eq_none (by rw [rowOf_len]; omega)]
theorem rowOf_rep {n : Nat} {v : Int32} : List.replicate n v = rowOf n (fun _ => v) := by unfold rowOf; rw [List.map_const']; simp
theorem rowOf_0 {f : Nat → Int32} : rowOf 0 f = [] := rfl
theorem rowOf_take {n : Nat} {f : Nat → Int32} : rowOf (n + 1) f = rowOf n f ++ [f n] := (rowOf_ext (fun _ _ => rfl) rfl).symm
/-- a state that differs in some rows alone -/
def zLike (ks : List Nat) (S S' : zS) : Prop := (∀ k, k ∉ ks → S'.1 k = S.1 k) ∧ S'.2.2 = S.2.2 ∧ okS S'
theorem zLike_tr {ks : List Nat} {S S1 S2 : zS} (h : zLike ks S S1) (k : zLike ks S1 S2) : zLike ks S S2 := ⟨fun j hj => (k.1 j hj).trans (h.1 j hj), k.2.1.trans h.2.1, k.2.2⟩
theorem zLike_mono {ks ls : List Nat} {S S1 : zS} (h : zLike ks S S1) (hs : ∀ k, k ∈ ks → k ∈ ls) : zLike ls S S1 := ⟨fun j hj => h.1 j (fun hk => hj (hs j hk)), h.2.1, h.2.2⟩
theorem zLike_rf {ks : List Nat} {S : zS} (h : okS S) : zLike ks S S := ⟨fun _ _ => rfl, rfl, h⟩
theorem zAdd {S : zS} {k : Nat} (v : Int32) (h : okS S) (hk : k < 43) (hl : (S.1 k).length < 65536) : ∃ S', r_add S k v = (S', nI (S.1 k).length) ∧ zLike [k] S S' ∧ S'.1 k = S.1 k ++ [v] := by
  obtain ⟨g, e, o⟩ := r_add_ok (R := S.1) (g := S.2.1) (X := S.2.2) v h hk hl
  exact ⟨_, e, ⟨fun j hj => va_n (by simpa using hj), rfl, o⟩, va_s⟩
theorem zSet {S : zS} {k i : Nat} (v : Int32) (h : okS S) (hi : i < (S.1 k).length) (hl : (S.1 k).length < 2 ^ 31) : ∃ S', r_set S k (nI i) v = S' ∧ zLike [k] S S' ∧ S'.1 k = (S.1 k).set i v := by
  refine ⟨_, r_set_n (R := S.1) (g := S.2.1) (X := S.2.2) hi hl, ⟨fun j hj => va_n (by simpa using hj), rfl, ?_⟩, va_s⟩
  exact okS_row (R := S.1) (g := S.2.1) (X := S.2.2) h (by rw [List.length_set]; exact Nat.le_refl _)
theorem zTake {S : zS} {k : Nat} {l : List Int32} {v : Int32} (h : okS S) (hl : S.1 k = l ++ [v]) : ∃ S', r_take S k = (S', v) ∧ zLike [k] S S' ∧ S'.1 k = l := by
  refine ⟨_, r_take_s (R := S.1) (g := S.2.1) (X := S.2.2) hl, ⟨fun j hj => va_n (by simpa using hj), rfl, ?_⟩, va_s⟩
  exact okS_row (R := S.1) (g := S.2.1) (X := S.2.2) h (by rw [hl]; simp)
theorem zEmp {S : zS} {k : Nat} (h : okS S) : ∃ S', r_emp S k = S' ∧ zLike [k] S S' ∧ S'.1 k = [] := ⟨_, rfl, ⟨fun j hj => va_n (by simpa using hj), rfl, okS_row (R := S.1) (g := S.2.1) (X := S.2.2) h (by simp)⟩, va_s⟩
theorem zFill {S : zS} {k n : Nat} (v : Int32) (h : okS S) (hk : k < 43) (hn : n ≤ 65536) : ∃ S', r_fill S k (nI n) v = S' ∧ zLike [k] S S' ∧ S'.1 k = rowOf n (fun _ => v) := by
  obtain ⟨g, e, o⟩ := r_fill_ok (R := S.1) (g := S.2.1) (X := S.2.2) (n := n) v h hk hn
  exact ⟨_, e, ⟨fun j hj => va_n (by simpa using hj), rfl, o⟩, by rw [← rowOf_rep]; exact va_s⟩
-- a pattern: kind, sort, mark, argument, size, is it whole, how many fields, where they begin
abbrev Pt : Type := Nat × Int32 × Int32 × Option Nat × Nat × Bool × Nat × Nat
def pK (p : Pt) : Nat := p.1
def pS (p : Pt) : Int32 := p.2.1
def pM (p : Pt) : Int32 := p.2.2.1
def pO (p : Pt) : Option Nat := p.2.2.2.1
def pZ (p : Pt) : Nat := p.2.2.2.2.1
def pW (p : Pt) : Bool := p.2.2.2.2.2.1
def pN (p : Pt) : Nat := p.2.2.2.2.2.2.1
def pB (p : Pt) : Nat := p.2.2.2.2.2.2.2
def pI (p : Pt) : Int32 := if pK p = 4 then nI (pB p) else oI (pO p)
def bI (b : Bool) : Int32 := if b = true then 1 else 0
/-- the class's tables of patterns -/
def PC (S : zS) (np : Nat) (P : Nat → Pt) (nl : Nat) (fl : Nat → Nat × Nat) : Prop :=
  S.1 1 = rowOf np (fun i => nI (pK (P i))) ∧ S.1 2 = rowOf np (fun i => pS (P i)) ∧ S.1 3 = rowOf np (fun i => pM (P i)) ∧ S.1 4 = rowOf np (fun i => pI (P i)) ∧ S.1 5 = rowOf np (fun i => nI (pN (P i))) ∧ S.1 6 = rowOf np (fun i => nI (pZ (P i))) ∧ S.1 7 = rowOf np (fun i => bI (pW (P i))) ∧ S.1 8 = rowOf nl (fun i => nI (fl i).1) ∧ S.1 9 = rowOf nl (fun i => nI (fl i).2)
/-- the reference's -/
def PM (M : zM) (np : Nat) (P : Nat → Pt) (nl : Nat) (fl : Nat → Nat × Nat) : Prop :=
  M.2.2 1 = nI np ∧ M.2.2 2 = nI nl ∧ (∀ i, i < np → M.1 2 i = nI (pK (P i)) ∧ M.1 3 i = (if pK (P i) = 3 then pM (P i) else pS (P i)) ∧ M.1 4 i = (if pK (P i) = 3 then 0 else pM (P i)) ∧ M.1 5 i = pI (P i) ∧ M.1 6 i = nI (pN (P i)) ∧ M.1 7 i = nI (pZ (P i)) ∧ M.1 8 i = bI (pW (P i))) ∧ ∀ i, i < nl → M.1 9 i = nI (fl i).1 ∧ M.1 10 i = nI (fl i).2
theorem PC_like {ks : List Nat} {S S' : zS} {np : Nat} {P : Nat → Pt} {nl : Nat} {fl : Nat → Nat × Nat} (h : PC S np P nl fl) (hk : zLike ks S S') (hn : ∀ k, k ∈ ks → k < 1 ∨ 9 < k) : PC S' np P nl fl := by
  have e : ∀ k, 1 ≤ k → k ≤ 9 → S'.1 k = S.1 k := fun k h1 h2 => hk.1 k (fun m => by have := hn k m; omega)
  unfold PC at h ⊢
  rw [e 1 (by omega) (by omega), e 2 (by omega) (by omega), e 3 (by omega) (by omega), e 4 (by omega) (by omega), e 5 (by omega) (by omega), e 6 (by omega) (by omega), e 7 (by omega) (by omega), e 8 (by omega) (by omega), e 9 (by omega) (by omega)]
  exact h
/-- a field's number, its pattern -/
def fN (P : Nat → Pt) (fl : Nat → Nat × Nat) (a j : Nat) : Nat := (fl (pB (P a) + j)).1
def fP (P : Nat → Pt) (fl : Nat → Nat × Nat) (a j : Nat) : Nat := (fl (pB (P a) + j)).2
/-- what every pattern keeps to -/
def pwf (nf : Nat) (fam : Nat → Nat) (bit : Nat → Int64) (P : Nat → Pt) (nl : Nat) (fl : Nat → Nat × Nat) (i : Nat) : Prop :=
  pK (P i) ≤ 4 ∧ 1 ≤ pZ (P i) ∧ pZ (P i) ≤ 10000 ∧ (pK (P i) = 0 ∨ pK (P i) = 1 ∨ pK (P i) = 4 → pO (P i) = none) ∧ (pK (P i) ≠ 4 → pN (P i) = 0) ∧ (pK (P i) = 4 → pM (P i) = 0) ∧
  (pK (P i) = 3 → pS (P i) = 0 ∧ 0 ≤ pM (P i)) ∧ (∀ j, pO (P i) = some j → j < i ∧ pZ (P i) = 1 + pZ (P j)) ∧ pB (P i) + pN (P i) ≤ nl ∧ pN (P i) ≤ 128 ∧
  (∀ j, j < pN (P i) → fP P fl i j < i ∧ fN P fl i j < 128 ∧ ∃ n : Nat, n ≤ 128 ∧ pS (P i) = nI n ∧ fN P fl i j < n) ∧ (∀ j k, j < k → k < pN (P i) → fN P fl i j < fN P fl i k) ∧
  (pK (P i) = 4 → pZ (P i) = 1 + zsum (fun j => pZ (P (fP P fl i j))) (pN (P i))) ∧
  (pK (P i) = 2 → ∃ f t : Nat, pS (P i) = nI f ∧ pM (P i) = nI t ∧ f < nf ∧ t < fam f ∧ (pO (P i)).isSome = (bit f).toBitVec.getLsbD t) ∧
  (pK (P i) = 1 → pS (P i) = 2 → ∃ t : Nat, t < 256 ∧ pM (P i) = nI t) ∧
  (pK (P i) = 4 → ∃ n : Nat, n ≤ 128 ∧ pS (P i) = nI n ∧ (pW (P i) = true → pN (P i) = n)) ∧
  (pW (P i) = true → pK (P i) ≠ 0 ∧ (∀ j, pO (P i) = some j → pW (P j) = true) ∧ ∀ j, j < pN (P i) → pW (P (fP P fl i j)) = true)
def PWF (nf : Nat) (fam : Nat → Nat) (bit : Nat → Int64) (np : Nat) (P : Nat → Pt) (nl : Nat) (fl : Nat → Nat × Nat) : Prop := np ≤ 16384 ∧ nl ≤ 16384 ∧ (∀ f, f < nf → fam f ≤ 64) ∧ nf ≤ 1024 ∧ ∀ i, i < np → pwf nf fam bit P nl fl i
-- two patterns side by side: what must hold of them, and the pairs within
def fnd (P : Nat → Pt) (fl : Nat → Nat × Nat) (b f : Nat) : Nat → Option Nat
  | 0 => none
  | n + 1 => if fN P fl b n = f then some (fP P fl b n) else fnd P fl b f n
def kkF (P : Nat → Pt) (fl : Nat → Nat × Nat) (a b : Nat) : Nat → List (Nat × Nat)
  | 0 => []
  | n + 1 => kkF P fl a b n ++ (match fnd P fl b (fN P fl a n) (pN (P b)) with
    | some y => [(fP P fl a n, y)]
    | none => [])
def kk (P : Nat → Pt) (fl : Nat → Nat × Nat) (a b : Nat) : List (Nat × Nat) :=
  if pK (P a) = 4 then kkF P fl a b (pN (P a)) else match pO (P a), pO (P b) with
    | some x, some y => [(x, y)]
    | _, _ => []
def lokG (P : Nat → Pt) (a b : Nat) : Prop := pK (P a) = 0 ∨ pK (P b) = 0 ∨ (pK (P a) = pK (P b) ∧ pS (P a) = pS (P b) ∧ (pM (P a) = pM (P b) → (pO (P a)).isSome = (pO (P b)).isSome))
def kidG (P : Nat → Pt) (fl : Nat → Nat × Nat) (a b : Nat) : List (Nat × Nat) := if pK (P a) = 0 ∨ pK (P b) = 0 ∨ ¬ pM (P a) = pM (P b) then [] else kk P fl a b
def lokM (P : Nat → Pt) (a b : Nat) : Prop := pK (P a) = 0 ∨ (pK (P a) = pK (P b) ∧ pS (P a) = pS (P b) ∧ pM (P a) = pM (P b) ∧ (pO (P a)).isSome = (pO (P b)).isSome)
def kidM (P : Nat → Pt) (fl : Nat → Nat × Nat) (a b : Nat) : List (Nat × Nat) := if pK (P a) = 0 then [] else kk P fl a b
/-- it holds of a pair and of all pairs within -/
def hh (lok : Nat → Nat → Prop) (kid : Nat → Nat → List (Nat × Nat)) : Nat → Nat → Nat → Prop
  | 0, _, _ => True
  | n + 1, a, b => lok a b ∧ ∀ q, q ∈ kid a b → hh lok kid n q.1 q.2
def Hh (lok : Nat → Nat → Prop) (kid : Nat → Nat → List (Nat × Nat)) (a b : Nat) : Prop := hh lok kid (a + 1) a b
theorem hh_any {lok : Nat → Nat → Prop} {kid : Nat → Nat → List (Nat × Nat)} {np : Nat} (hk : ∀ a b q, a < np → q ∈ kid a b → q.1 < a) : ∀ n m a b, a < np → a < n → a < m → (hh lok kid n a b ↔ hh lok kid m a b) := by
  intro n
  induction n with
  | zero => intro m a b _ h; omega
  | succ n ih =>
    intro m a b ha h1 h2
    cases m with
    | zero => omega
    | succ m =>
      unfold hh
      refine and_congr_right (fun _ => ?_)
      refine forall_congr' (fun q => ?_)
      refine imp_congr_right (fun hq => ?_)
      have := hk a b q ha hq
      exact ih m q.1 q.2 (by omega) (by omega) (by omega)
theorem Hh_iff {lok : Nat → Nat → Prop} {kid : Nat → Nat → List (Nat × Nat)} {np : Nat} (hk : ∀ a b q, a < np → q ∈ kid a b → q.1 < a) {a b : Nat} (ha : a < np) : Hh lok kid a b ↔ lok a b ∧ ∀ q, q ∈ kid a b → Hh lok kid q.1 q.2 := by
  unfold Hh
  rw [hh]
  refine and_congr_right (fun _ => ?_)
  refine forall_congr' (fun q => ?_)
  refine imp_congr_right (fun hq => ?_)
  have := hk a b q ha hq
  exact hh_any hk _ _ _ _ (by omega) (by omega) (by omega)
/-- the weight of what waits -/
def pot (P : Nat → Pt) : List (Nat × Nat) → Nat
  | [] => 0
  | q :: l => pZ (P q.1) + pot P l
theorem pot_app {P : Nat → Pt} : ∀ (l m : List (Nat × Nat)), pot P (l ++ m) = pot P l + pot P m := by
  intro l
  induction l with
  | nil => intro m; simp [pot]
  | cons q l ih => intro m; simp [pot, ih]; omega
theorem pot_len {P : Nat → Pt} : ∀ (l : List (Nat × Nat)), (∀ q, q ∈ l → 1 ≤ pZ (P q.1)) → l.length ≤ pot P l := by
  intro l
  induction l with
  | nil => intro _; simp [pot]
  | cons q l ih =>
    intro h
    have h1 := ih (fun x hx => h x (List.mem_cons_of_mem _ hx))
    have h2 := h q List.mem_cons_self
    simp [pot]; omega
theorem fnd_ok {P : Nat → Pt} {fl : Nat → Nat × Nat} {b f y : Nat} : ∀ {n : Nat}, fnd P fl b f n = some y → ∃ j, j < n ∧ fN P fl b j = f ∧ fP P fl b j = y := by
  intro n
  induction n with
  | zero => intro h; cases h
  | succ n ih =>
    intro h
    unfold fnd at h
    split at h
    · next e => exact ⟨n, by omega, e, by simpa using h⟩
    · obtain ⟨j, h1, h2, h3⟩ := ih h
      exact ⟨j, by omega, h2, h3⟩
theorem fnd_no {P : Nat → Pt} {fl : Nat → Nat × Nat} {b f : Nat} : ∀ {n : Nat}, (∀ j, j < n → fN P fl b j ≠ f) → fnd P fl b f n = none := by
  intro n
  induction n with
  | zero => intro _; rfl
  | succ n ih =>
    intro h
    unfold fnd
    rw [if_neg (h n (by omega))]
    exact ih (fun j hj => h j (by omega))
theorem fnd_at {P : Nat → Pt} {fl : Nat → Nat × Nat} {b j : Nat} : ∀ {n : Nat}, j < n → (∀ i k, i < k → k < n → fN P fl b i < fN P fl b k) → fnd P fl b (fN P fl b j) n = some (fP P fl b j) := by
  intro n
  induction n with
  | zero => intro h; omega
  | succ n ih =>
    intro h hs
    unfold fnd
    by_cases e : j = n
    · subst e; rw [if_pos rfl]
    · have := hs j n (by omega) (by omega)
      rw [if_neg (by omega)]
      exact ih (by omega) (fun i k h1 h2 => hs i k h1 (by omega))
theorem kkF_mem {P : Nat → Pt} {fl : Nat → Nat × Nat} {a b : Nat} {q : Nat × Nat} : ∀ {n : Nat}, q ∈ kkF P fl a b n → ∃ i, i < n ∧ q.1 = fP P fl a i ∧ fnd P fl b (fN P fl a i) (pN (P b)) = some q.2 := by
  intro n
  induction n with
  | zero => intro h; cases h
  | succ n ih =>
    intro h
    unfold kkF at h
    rcases List.mem_append.mp h with h | h
    · obtain ⟨i, h1, h2⟩ := ih h
      exact ⟨i, by omega, h2⟩
    · split at h
      · next y e =>
        have : q = (fP P fl a n, y) := by simpa using h
        subst this
        exact ⟨n, by omega, rfl, e⟩
      · cases h
theorem kkF_in {P : Nat → Pt} {fl : Nat → Nat × Nat} {a b i y : Nat} : ∀ {n : Nat}, i < n → fnd P fl b (fN P fl a i) (pN (P b)) = some y → (fP P fl a i, y) ∈ kkF P fl a b n := by
  intro n
  induction n with
  | zero => intro h; omega
  | succ n ih =>
    intro h e
    unfold kkF
    by_cases c : i = n
    · subst c; rw [e]; simp
    · exact List.mem_append_left _ (ih (by omega) e)
theorem kkF_pot {P : Nat → Pt} {fl : Nat → Nat × Nat} {a b : Nat} : ∀ (n : Nat), pot P (kkF P fl a b n) ≤ zsum (fun j => pZ (P (fP P fl a j))) n := by
  intro n
  induction n with
  | zero => simp [kkF, pot, zsum]
  | succ n ih =>
    unfold kkF zsum
    rw [pot_app]
    split
    · simp [pot]; omega
    · simp [pot]; omega
section PWK
variable {nf : Nat} {fam : Nat → Nat} {bit : Nat → Int64} {np : Nat} {P : Nat → Pt} {nl : Nat} {fl : Nat → Nat × Nat}
theorem pwO {i j : Nat} (h : pwf nf fam bit P nl fl i) (e : pO (P i) = some j) : j < i ∧ pZ (P i) = 1 + pZ (P j) := h.2.2.2.2.2.2.2.1 j e
theorem pwZ {i : Nat} (h : pwf nf fam bit P nl fl i) : 1 ≤ pZ (P i) ∧ pZ (P i) ≤ 10000 := ⟨h.2.1, h.2.2.1⟩
theorem pwB {i : Nat} (h : pwf nf fam bit P nl fl i) : pB (P i) + pN (P i) ≤ nl ∧ pN (P i) ≤ 128 := ⟨h.2.2.2.2.2.2.2.2.1, h.2.2.2.2.2.2.2.2.2.1⟩
theorem pwP {i j : Nat} (h : pwf nf fam bit P nl fl i) (hj : j < pN (P i)) : fP P fl i j < i ∧ fN P fl i j < 128 := ⟨(h.2.2.2.2.2.2.2.2.2.2.1 j hj).1, (h.2.2.2.2.2.2.2.2.2.2.1 j hj).2.1⟩
theorem pwI {i : Nat} (h : pwf nf fam bit P nl fl i) : ∀ j k, j < k → k < pN (P i) → fN P fl i j < fN P fl i k := h.2.2.2.2.2.2.2.2.2.2.2.1
theorem pwR {i : Nat} (h : pwf nf fam bit P nl fl i) (e : pK (P i) = 4) : pZ (P i) = 1 + zsum (fun j => pZ (P (fP P fl i j))) (pN (P i)) := h.2.2.2.2.2.2.2.2.2.2.2.2.1 e
theorem pwK {i : Nat} (h : pwf nf fam bit P nl fl i) : pK (P i) ≤ 4 := h.1
theorem pwN {i : Nat} (h : pwf nf fam bit P nl fl i) (e : pK (P i) = 0 ∨ pK (P i) = 1 ∨ pK (P i) = 4) : pO (P i) = none := h.2.2.2.1 e
theorem pwW {i : Nat} (h : pwf nf fam bit P nl fl i) (e : pK (P i) ≠ 4) : pN (P i) = 0 := h.2.2.2.2.1 e
theorem pw4 {i : Nat} (h : pwf nf fam bit P nl fl i) (e : pK (P i) = 4) : pM (P i) = 0 := h.2.2.2.2.2.1 e
theorem pw3 {i : Nat} (h : pwf nf fam bit P nl fl i) (e : pK (P i) = 3) : pS (P i) = 0 ∧ 0 ≤ pM (P i) := h.2.2.2.2.2.2.1 e
theorem kk_in {a b : Nat} {q : Nat × Nat} (ha : pwf nf fam bit P nl fl a) (hb : pwf nf fam bit P nl fl b) (h : q ∈ kk P fl a b) : q.1 < a ∧ q.2 < b := by
  unfold kk at h
  split at h
  · obtain ⟨i, h1, h2, h3⟩ := kkF_mem h
    obtain ⟨j, k1, k2, k3⟩ := fnd_ok h3
    exact ⟨by rw [h2]; exact (pwP ha h1).1, by rw [← k3]; exact (pwP hb k1).1⟩
  · split at h
    · next x y e1 e2 =>
      have : q = (x, y) := by simpa using h
      subst this
      exact ⟨(pwO ha e1).1, (pwO hb e2).1⟩
    · cases h
theorem kk_1 {a b : Nat} {q : Nat × Nat} (ha : pwf nf fam bit P nl fl a) (h : q ∈ kk P fl a b) : q.1 < a := by
  unfold kk at h
  split at h
  · obtain ⟨i, h1, h2, h3⟩ := kkF_mem h
    rw [h2]; exact (pwP ha h1).1
  · split at h
    · next x y e1 e2 =>
      have : q = (x, y) := by simpa using h
      subst this
      exact (pwO ha e1).1
    · cases h
theorem kidG_1 {a b : Nat} {q : Nat × Nat} (ha : pwf nf fam bit P nl fl a) (h : q ∈ kidG P fl a b) : q.1 < a := by
  unfold kidG at h
  split at h
  · cases h
  · exact kk_1 ha h
theorem kidM_1 {a b : Nat} {q : Nat × Nat} (ha : pwf nf fam bit P nl fl a) (h : q ∈ kidM P fl a b) : q.1 < a := by
  unfold kidM at h
  split at h
  · cases h
  · exact kk_1 ha h
theorem kk_pot {a b : Nat} (ha : pwf nf fam bit P nl fl a) : pot P (kk P fl a b) + 1 ≤ pZ (P a) := by
  unfold kk
  split
  · next e =>
    rw [pwR ha e]
    have := kkF_pot (P := P) (fl := fl) (a := a) (b := b) (pN (P a))
    omega
  · split
    · next x y e1 e2 =>
      rw [(pwO ha e1).2]
      simp [pot]
      omega
    · simp [pot]; exact (pwZ ha).1
theorem kidG_in {a b : Nat} {q : Nat × Nat} (ha : pwf nf fam bit P nl fl a) (hb : pwf nf fam bit P nl fl b) (h : q ∈ kidG P fl a b) : q.1 < a ∧ q.2 < b := by
  unfold kidG at h
  split at h
  · cases h
  · exact kk_in ha hb h
theorem kidM_in {a b : Nat} {q : Nat × Nat} (ha : pwf nf fam bit P nl fl a) (hb : pwf nf fam bit P nl fl b) (h : q ∈ kidM P fl a b) : q.1 < a ∧ q.2 < b := by
  unfold kidM at h
  split at h
  · cases h
  · exact kk_in ha hb h
theorem kidG_pot {a b : Nat} (ha : pwf nf fam bit P nl fl a) : pot P (kidG P fl a b) + 1 ≤ pZ (P a) := by
  unfold kidG
  split
  · simp [pot]; exact (pwZ ha).1
  · exact kk_pot ha
theorem kidM_pot {a b : Nat} (ha : pwf nf fam bit P nl fl a) : pot P (kidM P fl a b) + 1 ≤ pZ (P a) := by
  unfold kidM
  split
  · simp [pot]; exact (pwZ ha).1
  · exact kk_pot ha
end PWK
