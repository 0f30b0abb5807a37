-- PURE LAYER: numbers
theorem nI_lit (n : Nat) : (OfNat.ofNat n : Int32) = nI n := rfl
theorem tI_0 : (0 : Int32).toInt = 0 := rfl
theorem tI_1 : (1 : Int32).toInt = 1 := rfl
theorem tI_2 : (2 : Int32).toInt = 2 := rfl
theorem tI_3 : (3 : Int32).toInt = 3 := rfl
theorem tI_4 : (4 : Int32).toInt = 4 := rfl
theorem tI_m1 : (-1 : Int32).toInt = -1 := rfl
theorem tI_m2 : (-2 : Int32).toInt = -2 := rfl
theorem tI_m3 : (-3 : Int32).toInt = -3 := rfl
theorem tI_m4 : (-4 : Int32).toInt = -4 := rfl
theorem tI_64 : (64 : Int32).toInt = 64 := rfl
theorem tI_128 : (128 : Int32).toInt = 128 := rfl
theorem tI_255 : (255 : Int32).toInt = 255 := rfl
theorem tI_256 : (256 : Int32).toInt = 256 := rfl
theorem tI_1000 : (1000 : Int32).toInt = 1000 := rfl
theorem tI_1024 : (1024 : Int32).toInt = 1024 := rfl
theorem tI_4096 : (4096 : Int32).toInt = 4096 := rfl
theorem tI_10000 : (10000 : Int32).toInt = 10000 := rfl
theorem tI_16384 : (16384 : Int32).toInt = 16384 := rfl
theorem tI_16386 : (16386 : Int32).toInt = 16386 := rfl
theorem tI_M : (1000000 : Int32).toInt = 1000000 := rfl
theorem tI_lt (x : Int32) : x.toInt < 2147483648 ∧ -2147483648 ≤ x.toInt := ⟨Int32.toInt_lt x, Int32.le_toInt x⟩
/-- a number or none -/
def oI : Option Nat → Int32
  | none => -1
  | some n => nI n
theorem oI_n : oI none = -1 := rfl
theorem oI_s (n : Nat) : oI (some n) = nI n := rfl
theorem nI_m1 {n : Nat} (h : n < 2 ^ 31) : ¬ nI n = -1 := by (simp (disch := omega) only [nI_1, nI_add, Int32.lt_iff_toInt_lt, Int32.le_iff_toInt_le, ← Int32.toInt_inj, nI_toInt, tI_0, tI_1, tI_2, tI_3, tI_4, tI_m1, tI_m2, tI_m3, tI_m4, tI_64, tI_128, tI_255, tI_256, tI_1000, tI_1024, tI_4096, tI_10000, tI_16384, tI_16386, tI_M]; omega)
theorem oI_m1 {x : Option Nat} (h : ∀ n, x = some n → n < 2 ^ 31) : oI x = -1 ↔ x = none := by
  cases x with
  | none => simp [oI]
  | some n => simp [oI, nI_m1 (h n rfl)]
theorem oI_inj {x y : Option Nat} (h : ∀ n, x = some n → n < 2 ^ 31) (k : ∀ n, y = some n → n < 2 ^ 31) : oI x = oI y ↔ x = y := by
  cases x with
  | none => cases y with
    | none => simp
    | some m => simp [oI, Ne.symm (nI_m1 (k m rfl))]
  | some n => cases y with
    | none => simp [oI, nI_m1 (h n rfl)]
    | some m => simp [oI, nI_eq (h n rfl) (k m rfl)]
-- a row, read
def rd (l : List Int32) (i : Int32) : Int32 := if i < 0 then -1 else if nI l.length ≤ i then -1 else l.getD i.toNatClampNeg 0
theorem r_at_rd (S : zS) (k : Nat) (i : Int32) : r_at S k i = rd (S.1 k) i := rfl
theorem rd_neg {l : List Int32} {i : Int32} (h : i < 0) : rd l i = -1 := by unfold rd; rw [if_pos h]
theorem rd_m1 {l : List Int32} : rd l (-1) = -1 := rd_neg (by decide)
theorem rd_n {l : List Int32} {i : Nat} (h : i < l.length) (hl : l.length < 2 ^ 31) : rd l (nI i) = l.getD i 0 := by
  unfold rd
  rw [if_neg (nI_pos (by omega)), if_neg (nI_ge h hl), nI_clamp (by omega)]
theorem rd_big {l : List Int32} {i : Nat} (h : l.length ≤ i) (hi : i < 2 ^ 31) : rd l (nI i) = -1 := by
  unfold rd
  rw [if_neg (nI_pos hi), if_pos (nI_le h hi)]
theorem rd_map {α : Type} {P : List α} {f : α → Int32} {i : Nat} (h : i < P.length) (hl : P.length < 2 ^ 31) : rd (P.map f) (nI i) = f P[i] := by
  rw [rd_n (by simpa using h) (by simpa using hl)]
  simp [List.getD, h]
-- the class's state: its rows have room
def okS (S : zS) : Prop := ∀ k, k < 43 → S.2.1 k ≤ 12 ∧ (S.1 k).length ≤ zcap S k
theorem va_s {α : Type} {f : Nat → α} {k : Nat} {x : α} : va_up f k x k = x := by simp [va_up]
theorem va_n {α : Type} {f : Nat → α} {k j : Nat} {x : α} (h : j ≠ k) : va_up f k x j = f j := by simp [va_up, h]
theorem va_uu {α : Type} (f : Nat → α) (k : Nat) (v w : α) : va_up (va_up f k v) k w = va_up f k w := by
  funext j; simp [va_up]; split <;> rfl
theorem va_id {α : Type} (f : Nat → α) (k : Nat) : va_up f k (f k) = f := by
  funext j; simp [va_up]; intro h; rw [h]
theorem okS_row {R : Nat → List Int32} {g : Nat → Nat} {X : (Nat → Int32) × (Nat → Int64)} {k : Nat} {x : List Int32} (h : okS (R, g, X)) (hx : x.length ≤ (R k).length) : okS (va_up R k x, g, X) := by
  intro j hj
  obtain ⟨h1, h2⟩ := h j hj
  refine ⟨h1, ?_⟩
  show (va_up R k x j).length ≤ _
  by_cases e : j = k
  · subst e; rw [va_s]; exact Nat.le_trans hx h2
  · rw [va_n e]; exact h2
theorem okS_X {R : Nat → List Int32} {g : Nat → Nat} {X Y : (Nat → Int32) × (Nat → Int64)} (h : okS (R, g, X)) : okS (R, g, Y) := h
theorem zcap_12 {S : zS} {k : Nat} (h : S.2.1 k ≤ 12) : zcap S k ≤ 65536 := by
  unfold zcap
  calc 16 * 2 ^ S.2.1 k ≤ 16 * 2 ^ 12 := Nat.mul_le_mul_left _ (Nat.pow_le_pow_right (by decide) h)
    _ = 65536 := by decide
theorem r_add_ok {R : Nat → List Int32} {g : Nat → Nat} {X : (Nat → Int32) × (Nat → Int64)} {k : Nat} (v : Int32) (h : okS (R, g, X)) (hk : k < 43) (hl : (R k).length < 65536) : ∃ g', r_add (R, g, X) k v = ((va_up R k (R k ++ [v]), g', X), nI (R k).length) ∧ okS (va_up R k (R k ++ [v]), g', X) := by
  obtain ⟨h1, h2⟩ := h k hk
  have h1 : g k ≤ 12 := h1
  have h2 : (R k).length ≤ 16 * 2 ^ g k := h2
  by_cases c : (R k).length < 16 * 2 ^ g k
  · refine ⟨g, ?_, ?_⟩
    · unfold r_add r_more zcap
      simp only [if_pos c]
      rfl
    · intro j hj
      obtain ⟨a1, a2⟩ := h j hj
      refine ⟨a1, ?_⟩
      show (va_up R k _ j).length ≤ _
      by_cases e : j = k
      · subst e; rw [va_s]; simp; exact c
      · rw [va_n e]; exact a2
  · have e1 : (R k).length = 16 * 2 ^ g k := by omega
    have hg : g k < 12 := by
      rcases Nat.lt_or_ge (g k) 12 with q | q
      · exact q
      · have : g k = 12 := by omega
        rw [this] at e1; omega
    have e2 : ¬ 2097152 < 16 * 2 ^ g k := by omega
    refine ⟨va_up g k (g k + 1), ?_, ?_⟩
    · have hm : r_more (R, g, X) k = (R, va_up g k (g k + 1), X) := by
        unfold r_more zcap
        simp only [if_neg c, if_neg e2]
        rfl
      unfold r_add
      rw [hm]
      unfold zcap
      simp only [va_s]
      rw [if_pos (by show (R k).length < _; rw [Nat.pow_succ, e1]; have := Nat.two_pow_pos (g k); omega)]
      rfl
    · intro j hj
      obtain ⟨a1, a2⟩ := h j hj
      unfold zcap
      show va_up g k (g k + 1) j ≤ 12 ∧ (va_up R k _ j).length ≤ 16 * 2 ^ (va_up g k (g k + 1) j)
      by_cases e : j = k
      · subst e; rw [va_s, va_s, Nat.pow_succ]; rw [List.length_append, e1]; have := Nat.two_pow_pos (g j); simp; omega
      · rw [va_n e, va_n e]; exact ⟨a1, a2⟩
theorem r_take_s {R : Nat → List Int32} {g : Nat → Nat} {X : (Nat → Int32) × (Nat → Int64)} {k : Nat} {l : List Int32} {v : Int32} (h : R k = l ++ [v]) : r_take (R, g, X) k = ((va_up R k l, g, X), v) := by
  unfold r_take z_row
  simp [h]
theorem r_set_n {R : Nat → List Int32} {g : Nat → Nat} {X : (Nat → Int32) × (Nat → Int64)} {k i : Nat} {v : Int32} (h : i < (R k).length) (hl : (R k).length < 2 ^ 31) : r_set (R, g, X) k (nI i) v = (va_up R k ((R k).set i v), g, X) := by
  unfold r_set z_row
  rw [if_neg (nI_pos (by omega)), if_neg (nI_ge h hl), nI_clamp (by omega)]
theorem r_set_m1 {S : zS} {k : Nat} {v : Int32} : r_set S k (-1) v = S := by
  unfold r_set
  rw [if_pos (by decide)]
theorem r_emp_e {R : Nat → List Int32} {g : Nat → Nat} {X : (Nat → Int32) × (Nat → Int64)} {k : Nat} : r_emp (R, g, X) k = (va_up R k [], g, X) := rfl
theorem z_fl_ok {R : Nat → List Int32} {g : Nat → Nat} {X : (Nat → Int32) × (Nat → Int64)} {k : Nat} (v : Int32) (h : okS (R, g, X)) (hk : k < 43) : ∀ n, n ≤ 65536 → ∃ g', z_fl (R, g, X) k v n = (va_up R k (List.replicate n v), g', X) ∧ okS (va_up R k (List.replicate n v), g', X) := by
  intro n
  induction n with
  | zero => intro _; exact ⟨g, rfl, okS_row h (by simp)⟩
  | succ n ih =>
    intro hn
    obtain ⟨g', e, o⟩ := ih (by omega)
    obtain ⟨g'', e', o'⟩ := r_add_ok v o hk (by rw [va_s]; simp; omega)
    refine ⟨g'', ?_, ?_⟩
    · show (r_add (z_fl (R, g, X) k v n) k v).1 = _
      rw [e, e', va_s, va_uu, ← List.replicate_succ']
    · rw [va_s, va_uu, ← List.replicate_succ'] at o'
      exact o'
theorem r_fill_ok {R : Nat → List Int32} {g : Nat → Nat} {X : (Nat → Int32) × (Nat → Int64)} {k n : Nat} (v : Int32) (h : okS (R, g, X)) (hk : k < 43) (hn : n ≤ 65536) : ∃ g', r_fill (R, g, X) k (nI n) v = (va_up R k (List.replicate n v), g', X) ∧ okS (va_up R k (List.replicate n v), g', X) := by
  unfold r_fill
  rw [nI_toInt (by omega)]
  exact z_fl_ok v h hk n hn
-- the reference's arrays
theorem m_rd_n {β : Type} {n i : Nat} {f : Nat → Int32} {k : Int32 → Option β} (h : i < n) (hn : n < 2 ^ 31) : m_rd n f (nI i) k = k (f i) := by
  unfold m_rd
  rw [if_neg (nI_pos (by omega)), if_neg (nI_ge h hn), nI_clamp (by omega)]
theorem m_rdl_n {β : Type} {n i : Nat} {f : Nat → Int64} {k : Int64 → Option β} (h : i < n) (hn : n < 2 ^ 31) : m_rdl n f (nI i) k = k (f i) := by
  unfold m_rdl
  rw [if_neg (nI_pos (by omega)), if_neg (nI_ge h hn), nI_clamp (by omega)]
theorem m_wr_n {β : Type} {n i : Nat} {M : zM} {k : zM → Option β} (h : i < n) (hn : n < 2 ^ 31) : m_wr n (nI i) M k = k M := by
  unfold m_wr
  rw [if_neg (nI_pos (by omega)), if_neg (nI_ge h hn)]
theorem upd_s {f : Nat → Int32} {k : Nat} {x : Int32} : upd f k x k = x := by simp [upd]
theorem upd_n {f : Nat → Int32} {k j : Nat} {x : Int32} (h : j ≠ k) : upd f k x j = f j := by simp [upd, h]
theorem updL_s {f : Nat → Int64} {k : Nat} {x : Int64} : vp_updL f k x k = x := by simp [vp_updL]
theorem updL_n {f : Nat → Int64} {k j : Nat} {x : Int64} (h : j ≠ k) : vp_updL f k x j = f j := by simp [vp_updL, h]
theorem zbind_e {α β : Type} (x : α) (k : α → β) : zbind x k = k x := rfl
theorem zbind2_e {α β γ : Type} (x : α) (y : β) (k : α → β → γ) : zbind2 (x, y) k = k x y := rfl
theorem zob_s {α β : Type} (x : α) (k : α → Option β) : zob (some x) k = k x := rfl
theorem zob2_s {α β γ : Type} (x : α) (y : β) (k : α → β → Option γ) : zob2 (some (x, y)) k = k x y := rfl
