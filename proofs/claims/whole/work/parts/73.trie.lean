-- PURE LAYER: the parts (places) of all rules: what both sides hold
/-- parts, their upper part, their label, their shape and sort; asks (rule, part, pattern) -/
abbrev Tr : Type := Nat × (Nat → Nat) × (Nat → Int32) × (Nat → Nat × Int32) × Nat × (Nat → Nat × Nat × Nat)
def tQ (T : Tr) : Nat := T.1
def tU (T : Tr) : Nat → Nat := T.2.1
def tL (T : Tr) : Nat → Int32 := T.2.2.1
def tH (T : Tr) : Nat → Nat × Int32 := T.2.2.2.1
def tA (T : Tr) : Nat := T.2.2.2.2.1
def tK (T : Tr) : Nat → Nat × Nat × Nat := T.2.2.2.2.2
def tShape (T : Tr) (p : Nat) (x : Nat × Int32) : Tr := (tQ T, tU T, tL T, va_up (tH T) p x, tA T, tK T)
def tAsk (T : Tr) (x : Nat × Nat × Nat) : Tr := (tQ T, tU T, tL T, tH T, tA T + 1, va_up (tK T) (tA T) x)
def tAdd (T : Tr) (p : Nat) (l : Int32) : Tr := (tQ T + 1, va_up (tU T) (tQ T) p, va_up (tL T) (tQ T) l, va_up (tH T) (tQ T) (0, 0), tA T, tK T)
def fch (up : Nat → Nat) (lb : Nat → Int32) (p : Nat) (l : Int32) : Nat → Option Nat
  | 0 => none
  | n + 1 => if n ≠ 0 ∧ up n = p ∧ lb n = l then some n else fch up lb p l n
def tCh (T : Tr) (p : Nat) (l : Int32) : Option Nat := fch (tU T) (tL T) p l (tQ T)
def tChild (T : Tr) (p : Nat) (l : Int32) : Tr × Nat := match tCh T p l with
  | some c => (T, c)
  | none => (tAdd T p l, tQ T)
theorem fch_ok {up : Nat → Nat} {lb : Nat → Int32} {p : Nat} {l : Int32} {c : Nat} : ∀ {n : Nat}, fch up lb p l n = some c → 1 ≤ c ∧ c < n ∧ up c = p ∧ lb c = l := by
  intro n
  induction n with
  | zero => intro h; cases h
  | succ n ih =>
    intro h
    unfold fch at h
    split at h
    · next e =>
      have : n = c := by simpa using h
      subst this
      exact ⟨by omega, by omega, e.2⟩
    · obtain ⟨h1, h2, h3⟩ := ih h
      exact ⟨h1, by omega, h3⟩
theorem fch_no {up : Nat → Nat} {lb : Nat → Int32} {p : Nat} {l : Int32} : ∀ {n : Nat}, fch up lb p l n = none → ∀ c, 1 ≤ c → c < n → ¬ (up c = p ∧ lb c = l) := by
  intro n
  induction n with
  | zero => intro _ c _ h; omega
  | succ n ih =>
    intro h c h1 h2 h3
    unfold fch at h
    split at h
    · cases h
    · next e =>
      by_cases q : c = n
      · subst q; exact e ⟨by omega, h3⟩
      · exact ih h c h1 (by omega) h3
theorem fch_congr {up up' : Nat → Nat} {lb lb' : Nat → Int32} {p : Nat} {l : Int32} : ∀ {n : Nat}, (∀ c, c < n → up' c = up c ∧ lb' c = lb c) → fch up' lb' p l n = fch up lb p l n := by
  intro n
  induction n with
  | zero => intro _; rfl
  | succ n ih =>
    intro h
    unfold fch
    rw [(h n (by omega)).1, (h n (by omega)).2, ih (fun c hc => h c (by omega))]
theorem tCh_ok {T : Tr} {p : Nat} {l : Int32} {c : Nat} (h : tCh T p l = some c) : 1 ≤ c ∧ c < tQ T ∧ tU T c = p ∧ tL T c = l := fch_ok h
theorem tCh_no {T : Tr} {p : Nat} {l : Int32} (h : tCh T p l = none) : ∀ c, 1 ≤ c → c < tQ T → ¬ (tU T c = p ∧ tL T c = l) := fch_no h
/-- the parts are a tree, children told apart by their labels -/
def TW (T : Tr) : Prop := 1 ≤ tQ T ∧ (∀ c, 1 ≤ c → c < tQ T → tU T c < c) ∧ ∀ c d, 1 ≤ c → c < tQ T → 1 ≤ d → d < tQ T → tU T c = tU T d → tL T c = tL T d → c = d
theorem tCh_at {T : Tr} (h : TW T) {c : Nat} (h1 : 1 ≤ c) (h2 : c < tQ T) : tCh T (tU T c) (tL T c) = some c := by
  cases q : tCh T (tU T c) (tL T c) with
  | none => exact absurd ⟨rfl, rfl⟩ (tCh_no q c h1 h2)
  | some d =>
    obtain ⟨a, b, e, f⟩ := tCh_ok q
    rw [h.2.2 d c a b h1 h2 e f]
theorem TW_add {T : Tr} (h : TW T) {p : Nat} {l : Int32} (hp : p < tQ T) (hn : tCh T p l = none) : TW (tAdd T p l) := by
  obtain ⟨h1, h2, h3⟩ := h
  refine ⟨by show 1 ≤ tQ T + 1; omega, fun c a b => ?_, fun c d a b a' b' e f => ?_⟩
  · have b : c < tQ T + 1 := b
    show va_up (tU T) (tQ T) p c < c
    by_cases q : c = tQ T
    · subst q; rw [va_s]; exact hp
    · rw [va_n q]; exact h2 c a (by omega)
  · have b : c < tQ T + 1 := b
    have b' : d < tQ T + 1 := b'
    have e : va_up (tU T) (tQ T) p c = va_up (tU T) (tQ T) p d := e
    have f : va_up (tL T) (tQ T) l c = va_up (tL T) (tQ T) l d := f
    by_cases q : c = tQ T
    · by_cases q' : d = tQ T
      · omega
      · rw [q, va_s, va_n q'] at e f
        exact absurd ⟨e.symm, f.symm⟩ (tCh_no hn d a' (by omega))
    · by_cases q' : d = tQ T
      · rw [q', va_s, va_n q] at e f
        exact absurd ⟨e, f⟩ (tCh_no hn c a (by omega))
      · rw [va_n q, va_n q'] at e f
        exact h3 c d a (by omega) a' (by omega) e f
theorem tCh_add {T : Tr} {p p' : Nat} {l l' : Int32} : tCh (tAdd T p l) p' l' = if tQ T ≠ 0 ∧ p = p' ∧ l = l' then some (tQ T) else tCh T p' l' := by
  show fch (va_up (tU T) (tQ T) p) (va_up (tL T) (tQ T) l) p' l' (tQ T + 1) = _
  unfold fch
  rw [va_s, va_s]
  by_cases c : tQ T ≠ 0 ∧ p = p' ∧ l = l'
  · rw [if_pos c, if_pos c]
  · rw [if_neg c, if_neg c]
    exact fch_congr (fun c hc => ⟨va_n (by omega), va_n (by omega)⟩)
-- linked lists
def lkd (nx : Nat → Option Nat) : List Nat → Prop
  | [] => True
  | e :: l => nx e = l.head? ∧ lkd nx l
theorem lkd_app {nx : Nat → Option Nat} : ∀ {l1 l2 : List Nat}, lkd nx (l1 ++ l2) → lkd nx l2 := by
  intro l1
  induction l1 with
  | nil => intro l2 h; exact h
  | cons e l ih => intro l2 h; exact ih h.2
theorem lkd_last {nx : Nat → Option Nat} {e : Nat} : ∀ {l1 l2 : List Nat}, lkd nx (l1 ++ e :: l2) → nx e = l2.head? := by
  intro l1 l2 h
  exact (lkd_app h).1
theorem lkd_congr {nx nx' : Nat → Option Nat} : ∀ {l : List Nat}, (∀ e, e ∈ l → nx' e = nx e) → lkd nx l → lkd nx' l := by
  intro l
  induction l with
  | nil => intro _ _; trivial
  | cons e l ih =>
    intro h k
    exact ⟨by rw [h e List.mem_cons_self]; exact k.1, ih (fun x hx => h x (List.mem_cons_of_mem _ hx)) k.2⟩
/-- a new element between two parts of a linked list -/
theorem lkd_mid {nx : Nat → Option Nat} {x : Nat} : ∀ {l1 l2 : List Nat}, lkd nx (l1 ++ l2) → x ∉ l1 ++ l2 → (l1 ++ l2).Nodup → lkd (match l1.getLast? with
    | none => va_up nx x l2.head?
    | some e => va_up (va_up nx x l2.head?) e (some x)) (l1 ++ x :: l2) := by
  intro l1 l2 h hx hd
  have base : lkd (va_up nx x l2.head?) (x :: l2) := by
    refine ⟨va_s, lkd_congr (fun e he => va_n (fun q => ?_)) (lkd_app h)⟩
    subst q; exact hx (List.mem_append_right _ he)
  rcases List.eq_nil_or_concat l1 with q | ⟨l, e, q⟩
  · subst q; exact base
  · subst q
    rw [List.concat_eq_append] at *
    have hlast : (l ++ [e]).getLast? = some e := by simp
    rw [hlast]
    show lkd (va_up (va_up nx x l2.head?) e (some x)) ((l ++ [e]) ++ x :: l2)
    rw [List.append_assoc] at h hd ⊢
    have h' : lkd nx (l ++ e :: l2) := h
    have hd' : (l ++ e :: l2).Nodup := hd
    have hx' : x ∉ l ++ e :: l2 := by rw [List.append_assoc] at hx; exact hx
    show lkd (va_up (va_up nx x l2.head?) e (some x)) (l ++ e :: x :: l2)
    have b2 : lkd (va_up (va_up nx x l2.head?) e (some x)) (e :: x :: l2) := by
      refine ⟨va_s, lkd_congr (fun y hy => va_n (fun q => ?_)) base⟩
      subst q
      rcases List.mem_cons.mp hy with q | q
      · subst q; exact hx' (by simp)
      · have := (List.nodup_append.mp hd').2.1
        exact (List.nodup_cons.mp this).1 q
    -- the part before keeps its links
    have go : ∀ (k : List Nat), lkd nx (k ++ e :: l2) → (k ++ e :: l2).Nodup → x ∉ k → lkd (va_up (va_up nx x l2.head?) e (some x)) (k ++ e :: x :: l2) := by
      intro k
      induction k with
      | nil => intro _ _ _; exact b2
      | cons y k ih =>
        intro h1 h2 h3
        have h2' := List.nodup_cons.mp h2
        refine ⟨?_, ih h1.2 h2'.2 (fun q => h3 (List.mem_cons_of_mem _ q))⟩
        rw [va_n (fun q => h2'.1 (by rw [q]; simp)), va_n (fun q => h3 (by rw [q]; exact List.mem_cons_self))]
        rw [h1.1]
        cases k with
        | nil => rfl
        | cons z k => rfl
    exact go l h' hd' (fun q => hx' (List.mem_append_left _ q))
theorem nodup_len : ∀ (n : Nat) (l : List Nat), l.Nodup → (∀ x, x ∈ l → x < n) → l.length ≤ n := by
  intro n
  induction n with
  | zero =>
    intro l _ h
    cases l with
    | nil => simp
    | cons x l => have := h x List.mem_cons_self; omega
  | succ n ih =>
    intro l hd h
    by_cases c : n ∈ l
    · have h1 := ih (l.erase n) (hd.erase n) (fun x hx => by
        have := (hd.mem_erase_iff).mp hx
        have := h x this.2
        omega)
      have h2 := List.length_erase_of_mem c
      have h3 : 0 < l.length := List.length_pos_of_mem c
      omega
    · have := ih l hd (fun x hx => by
        have h1 := h x hx
        have h2 : x ≠ n := fun q => c (q ▸ hx)
        omega)
      omega
