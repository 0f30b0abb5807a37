-- THE MACHINE, a stretch at a time: pure instructions are done by a function (zrun), checked against the code by a table
def zbind {α β : Type} (x : α) (k : α → β) : β := k x
def zbind2 {α β γ : Type} (x : α × β) (k : α → β → γ) : γ := k x.1 x.2
def z_lushr (x : Int64) (y : Int32) : Int64 := (x.toUInt64 >>> (y.toInt64.toUInt64 &&& Int64.toUInt64 63)).toInt64
def z_lshl (x : Int64) (y : Int32) : Int64 := x <<< (y.toInt64 &&& 63)
def z_lshr (x : Int64) (y : Int32) : Int64 := x >>> (y.toInt64 &&& 63)
def z_rem (x y : Int32) : Int32 := x - x / y * y
abbrev zLv : Type := List (Nat × Value)
/-- a row of a method's table: pc, instruction, length, where it jumps, its constant -/
abbrev zTr : Type := Nat × Jvm.ClassFile.Instr × Nat × Nat × Int32
def zins (i : Nat) (v : Value) : zLv → zLv
  | [] => [(i, v)]
  | q :: r => if i < q.1 then (i, v) :: q :: r else q :: zins i v r
def zput (lv : zLv) (i : Nat) (v : Value) : zLv := zins i v (lv.filter (fun q => !(q.1 == i) && !(q.1 + 1 == i && q.2.category == 2)))
def zput2 (lv : zLv) (i : Nat) (v : Value) : zLv := zins i v (lv.filter (fun q => !(q.1 == i) && (!(q.1 == i + 1) && !(q.1 + 1 == i && q.2.category == 2))))
theorem zins_mem {i : Nat} {v : Value} {q : Nat × Value} : ∀ {l : zLv}, q ∈ zins i v l → q ∈ (i, v) :: l := by
  intro l
  induction l with
  | nil => intro h; exact h
  | cons a r ih =>
    intro h
    unfold zins at h
    split at h
    · exact h
    · rcases List.mem_cons.mp h with h | h
      · exact List.mem_cons_of_mem _ (h ▸ List.mem_cons_self)
      · rcases List.mem_cons.mp (ih h) with h | h
        · exact h ▸ List.mem_cons_self
        · exact List.mem_cons_of_mem _ (List.mem_cons_of_mem _ h)
theorem zl_mem {k : Nat} {v : Value} : ∀ {lv : zLv}, lv.lookup k = some v → (k, v) ∈ lv := by
  intro lv
  induction lv with
  | nil => intro h; cases h
  | cons a r ih =>
    intro h
    obtain ⟨x, y⟩ := a
    rw [List.lookup_cons] at h
    by_cases hk : (k == x) = true
    · rw [hk] at h
      have e1 : k = x := by simpa using hk
      have e2 : y = v := by simpa using h
      subst e1; subst e2
      exact List.mem_cons_self
    · have hk : (k == x) = false := by simpa using hk
      rw [hk] at h
      exact List.mem_cons_of_mem _ (ih h)
theorem zh_sub {ls : Array Slot} {nL : Nat} {l l' : zLv} (h : lv_has ls nL l) (hs : ∀ q ∈ l', q ∈ l) : lv_has ls nL l' := ⟨h.1, h.2.1, fun q hq => h.2.2 q (hs q hq)⟩
theorem zh_at {ls : Array Slot} {nL k : Nat} {l : zLv} {v : Value} (h : lv_has ls nL l) (hk : l.lookup k = some v) : ls[k]? = some (.val v) := h.2.2 (k, v) (zl_mem hk)
def zp (i : Jvm.ClassFile.Instr) (tgt : Nat) (v : Int32) (pc : Nat) (lv : zLv) (st : List Value) : Option (Nat × zLv × List Value) :=
  match i with
  | .aload_n k => (match lv.lookup k.val with | some (.ref a) => some (pc + 1, lv, .ref a :: st) | _ => none)
  | .aload k => (match lv.lookup k with | some (.ref a) => some (pc + 2, lv, .ref a :: st) | _ => none)
  | .iload_n k => (match lv.lookup k.val with | some (.int x) => some (pc + 1, lv, .int x :: st) | _ => none)
  | .iload k => (match lv.lookup k with | some (.int x) => some (pc + 2, lv, .int x :: st) | _ => none)
  | .lload_n k => (match lv.lookup k.val with | some (.long x) => some (pc + 1, lv, .long x :: st) | _ => none)
  | .lload k => (match lv.lookup k with | some (.long x) => some (pc + 2, lv, .long x :: st) | _ => none)
  | .istore_n k => (match st with | .int x :: r => some (pc + 1, zput lv k.val (.int x), r) | _ => none)
  | .istore k => (match st with | .int x :: r => some (pc + 2, zput lv k (.int x), r) | _ => none)
  | .iconst _ => some (pc + 1, lv, .int v :: st)
  | .bipush _ => some (pc + 2, lv, .int v :: st)
  | .sipush _ => some (pc + 3, lv, .int v :: st)
  | .lconst k => some (pc + 1, lv, .long (Int64.ofNat k.val) :: st)
  | .iadd => (match st with | .int y :: .int x :: r => some (pc + 1, lv, .int (x + y) :: r) | _ => none)
  | .isub => (match st with | .int y :: .int x :: r => some (pc + 1, lv, .int (x - y) :: r) | _ => none)
  | .imul => (match st with | .int y :: .int x :: r => some (pc + 1, lv, .int (x * y) :: r) | _ => none)
  | .iand => (match st with | .int y :: .int x :: r => some (pc + 1, lv, .int (x &&& y) :: r) | _ => none)
  | .land => (match st with | .long y :: .long x :: r => some (pc + 1, lv, .long (x &&& y) :: r) | _ => none)
  | .lor => (match st with | .long y :: .long x :: r => some (pc + 1, lv, .long (x ||| y) :: r) | _ => none)
  | .lushr => (match st with | .int y :: .long x :: r => some (pc + 1, lv, .long (z_lushr x y) :: r) | _ => none)
  | .lshl => (match st with | .int y :: .long x :: r => some (pc + 1, lv, .long (z_lshl x y) :: r) | _ => none)
  | .lcmp => (match st with | .long y :: .long x :: r => some (pc + 1, lv, .int (lg_cmp x y) :: r) | _ => none)
  | .l2i => (match st with | .long x :: r => some (pc + 1, lv, .int x.toInt32 :: r) | _ => none)
  | .i2l => (match st with | .int x :: r => some (pc + 1, lv, .long x.toInt64 :: r) | _ => none)
  | .dup => (match st with | .int x :: r => some (pc + 1, lv, .int x :: .int x :: r) | .ref a :: r => some (pc + 1, lv, .ref a :: .ref a :: r) | _ => none)
  | .pop => (match st with | .int _ :: r => some (pc + 1, lv, r) | .ref _ :: r => some (pc + 1, lv, r) | _ => none)
  | .iinc k _ => (match lv.lookup k with | some (.int x) => some (pc + 3, zput lv k (.int (x + v)), st) | _ => none)
  | .lstore_n k => (match st with | .long x :: r => some (pc + 1, zput2 lv k.val (.long x), r) | _ => none)
  | .lstore k => (match st with | .long x :: r => some (pc + 2, zput2 lv k (.long x), r) | _ => none)
  | .astore_n k => (match st with | .ref x :: r => some (pc + 1, zput lv k.val (.ref x), r) | _ => none)
  | .ladd => (match st with | .long y :: .long x :: r => some (pc + 1, lv, .long (x + y) :: r) | _ => none)
  | .lsub => (match st with | .long y :: .long x :: r => some (pc + 1, lv, .long (x - y) :: r) | _ => none)
  | .lxor => (match st with | .long y :: .long x :: r => some (pc + 1, lv, .long (x ^^^ y) :: r) | _ => none)
  | .lshr => (match st with | .int y :: .long x :: r => some (pc + 1, lv, .long (z_lshr x y) :: r) | _ => none)
  | .i2b => (match st with | .int x :: r => some (pc + 1, lv, .int x.toInt8.toInt32 :: r) | _ => none)
  | .i2s => (match st with | .int x :: r => some (pc + 1, lv, .int x.toInt16.toInt32 :: r) | _ => none)
  | .dup2 => (match st with | .int y :: .ref x :: r => some (pc + 1, lv, .int y :: .ref x :: .int y :: .ref x :: r) | _ => none)
  | .goto _ => some (tgt, lv, st)
  | _ => none
/-- what a row of the table says is so -/
def zokb (cc : ByteArray) (nL : Nat) (q : zTr) : Bool :=
  decide (decode cc q.1 = .ok (q.2.1, q.2.2.1)) && (match q.2.1 with
  | .aload _ => q.2.2.1 == 2
  | .iload _ => q.2.2.1 == 2
  | .lload _ => q.2.2.1 == 2
  | .istore_n k => q.2.2.1 == 1 && decide (k.val < nL)
  | .istore k => q.2.2.1 == 2 && decide (k < nL)
  | .lstore_n k => q.2.2.1 == 1 && decide (k.val + 1 < nL)
  | .lstore k => q.2.2.1 == 2 && decide (k + 1 < nL)
  | .astore_n k => q.2.2.1 == 1 && decide (k.val < nL)
  | .iconst k => q.2.2.1 == 1 && decide (Int32.ofInt k = q.2.2.2.2)
  | .bipush k => q.2.2.1 == 2 && decide ((Int8.ofInt k).toInt32 = q.2.2.2.2)
  | .sipush k => q.2.2.1 == 3 && decide ((Int16.ofInt k).toInt32 = q.2.2.2.2)
  | .iinc k n => q.2.2.1 == 3 && decide (k < nL) && decide (Int32.ofInt n = q.2.2.2.2)
  | .goto o => q.2.2.1 == 3 && decide ((q.1 : Int) + o = (q.2.2.2.1 : Int))
  | .ifCond _ o => q.2.2.1 == 3 && decide ((q.1 : Int) + o = (q.2.2.2.1 : Int))
  | .if_icmp _ o => q.2.2.1 == 3 && decide ((q.1 : Int) + o = (q.2.2.2.1 : Int))
  | .getfield _ => q.2.2.1 == 3
  | .putfield _ => q.2.2.1 == 3
  | .invokevirtual _ => q.2.2.1 == 3
  | .invokespecial _ => q.2.2.1 == 3
  | .invokestatic _ => q.2.2.1 == 3
  | .ldc _ => q.2.2.1 == 2
  | .ldc2_w _ => q.2.2.1 == 3
  | .new _ => q.2.2.1 == 3
  | .newarray _ => q.2.2.1 == 2
  | .tableswitch _ _ _ _ => true
  | .lookupswitch _ _ => true
  | _ => q.2.2.1 == 1)
section ZP
variable {p : Program} {l : Launch} {e : Env} {R : Room} {s : State} {m : MethodId} {args : Array Value} {below : List Frame} {meth : Method} {c : Code} {H : Heap} {locs : List Loc} {cells slots : Nat} {Q : State → Prop} {cc : ByteArray}
set_option maxHeartbeats 4000000 in
theorem zp_ok (hx : p.tables.exec = Jvm.exec) (hb : c.code = cc) {i : Jvm.ClassFile.Instr} {len tgt nL pc pc' : Nat} {v : Int32} {lv lv' : zLv} {st st' : List Value} (ho : zokb cc nL (pc, i, len, tgt, v) = true) (h : zp i tgt v pc lv st = some (pc', lv', st')) {ls : Array Slot} (hl : lv_has ls nL lv)
    (k : ∀ ls' : Array Slot, lv_has ls' nL lv' → W p l e R s m args below meth c H locs cells slots Q (F0 m pc' ls' st')) : W p l e R s m args below meth c H locs cells slots Q (F0 m pc ls st) := by
  unfold zokb at ho
  rw [Bool.and_eq_true] at ho
  obtain ⟨hd, ho⟩ := ho
  have hd := of_decide_eq_true hd
  dsimp only at hd ho
  unfold zp at h
  split at h
  · split at h
    · rename_i hk; cases h; have := eq_of_beq ho; subst this; exact lv_aload_n hx hb hd rfl (zh_at hl hk) (k _ hl)
    · cases h
  · split at h
    · rename_i hk; cases h; have := eq_of_beq ho; subst this; exact lv_aload hx hb hd (zh_at hl hk) (k _ hl)
    · cases h
  · split at h
    · rename_i hk; cases h; have := eq_of_beq ho; subst this; exact lv_iload_n hx hb hd rfl (zh_at hl hk) (k _ hl)
    · cases h
  · split at h
    · rename_i hk; cases h; have := eq_of_beq ho; subst this; exact lv_iload hx hb hd (zh_at hl hk) (k _ hl)
    · cases h
  · split at h
    · rename_i hk; cases h; have := eq_of_beq ho; subst this; exact lv_lload_n hx hb hd rfl (zh_at hl hk) (k _ hl)
    · cases h
  · split at h
    · rename_i hk; cases h; have := eq_of_beq ho; subst this; exact lv_lload hx hb hd (zh_at hl hk) (k _ hl)
    · cases h
  · split at h
    · cases h
      rw [Bool.and_eq_true] at ho
      have := eq_of_beq ho.1; subst this
      exact lv_istore_n hx hb hd rfl hl (of_decide_eq_true ho.2) rfl (fun ls' hl' => k ls' (zh_sub hl' (fun q hq => zins_mem hq)))
    · cases h
  · split at h
    · cases h
      rw [Bool.and_eq_true] at ho
      have := eq_of_beq ho.1; subst this
      exact lv_istore hx hb hd hl (of_decide_eq_true ho.2) rfl (fun ls' hl' => k ls' (zh_sub hl' (fun q hq => zins_mem hq)))
    · cases h
  · cases h; rw [Bool.and_eq_true] at ho; have := eq_of_beq ho.1; subst this; exact lv_iconst hx hb hd (of_decide_eq_true ho.2) (k _ hl)
  · cases h; rw [Bool.and_eq_true] at ho; have := eq_of_beq ho.1; subst this; exact lv_bipush hx hb hd (of_decide_eq_true ho.2) (k _ hl)
  · cases h; rw [Bool.and_eq_true] at ho; have := eq_of_beq ho.1; subst this; exact lv_sipush hx hb hd (of_decide_eq_true ho.2) (k _ hl)
  · cases h; have := eq_of_beq ho; subst this; exact lv_lconst hx hb hd rfl (k _ hl)
  · split at h
    · cases h; have := eq_of_beq ho; subst this; exact lv_iadd hx hb hd (k _ hl)
    · cases h
  · split at h
    · cases h; have := eq_of_beq ho; subst this; exact lv_isub hx hb hd (k _ hl)
    · cases h
  · split at h
    · cases h; have := eq_of_beq ho; subst this; exact lv_imul hx hb hd (k _ hl)
    · cases h
  · split at h
    · cases h; have := eq_of_beq ho; subst this; exact lv_iand hx hb hd (k _ hl)
    · cases h
  · split at h
    · cases h; have := eq_of_beq ho; subst this; exact lv_land hx hb hd (k _ hl)
    · cases h
  · split at h
    · cases h; have := eq_of_beq ho; subst this; exact lv_lor hx hb hd (k _ hl)
    · cases h
  · split at h
    · cases h; have := eq_of_beq ho; subst this; exact lv_lushr hx hb hd rfl (k _ hl)
    · cases h
  · split at h
    · cases h; have := eq_of_beq ho; subst this; exact lv_lshl hx hb hd rfl (k _ hl)
    · cases h
  · split at h
    · cases h; have := eq_of_beq ho; subst this; exact W.lcmp hx hb hd (k _ hl)
    · cases h
  · split at h
    · cases h; have := eq_of_beq ho; subst this; exact lv_l2i hx hb hd rfl (k _ hl)
    · cases h
  · split at h
    · cases h; have := eq_of_beq ho; subst this; exact lv_i2l hx hb hd rfl (k _ hl)
    · cases h
  · split at h
    · cases h; have := eq_of_beq ho; subst this; exact lv_dup hx hb hd rfl (k _ hl)
    · cases h; have := eq_of_beq ho; subst this; exact lv_dup hx hb hd rfl (k _ hl)
    · cases h
  · split at h
    · cases h; have := eq_of_beq ho; subst this; exact lv_pop hx hb hd rfl (k _ hl)
    · cases h; have := eq_of_beq ho; subst this; exact lv_pop hx hb hd rfl (k _ hl)
    · cases h
  · split at h
    · rename_i hk
      cases h
      rw [Bool.and_eq_true, Bool.and_eq_true] at ho
      have := eq_of_beq ho.1.1; subst this
      obtain ⟨j, hj⟩ := List.getElem?_of_mem (zl_mem hk)
      exact lv_iinc hx hb hd hl hj (by rw [of_decide_eq_true ho.2]) (of_decide_eq_true ho.1.2) rfl (fun ls' hl' => k ls' (zh_sub hl' (fun q hq => zins_mem hq)))
    · cases h
  · split at h
    · cases h
      rw [Bool.and_eq_true] at ho
      have := eq_of_beq ho.1; subst this
      exact lv_lstore_n hx hb hd rfl hl (of_decide_eq_true ho.2) rfl (fun ls' hl' => k ls' (zh_sub hl' (fun q hq => zins_mem hq)))
    · cases h
  · split at h
    · cases h
      rw [Bool.and_eq_true] at ho
      have := eq_of_beq ho.1; subst this
      exact lv_lstore hx hb hd hl (of_decide_eq_true ho.2) rfl (fun ls' hl' => k ls' (zh_sub hl' (fun q hq => zins_mem hq)))
    · cases h
  · split at h
    · cases h
      rw [Bool.and_eq_true] at ho
      have := eq_of_beq ho.1; subst this
      exact lv_astore_n hx hb hd rfl hl (of_decide_eq_true ho.2) rfl (fun ls' hl' => k ls' (zh_sub hl' (fun q hq => zins_mem hq)))
    · cases h
  · split at h
    · cases h; have := eq_of_beq ho; subst this; exact lv_ladd hx hb hd (k _ hl)
    · cases h
  · split at h
    · cases h; have := eq_of_beq ho; subst this; exact lv_lsub hx hb hd (k _ hl)
    · cases h
  · split at h
    · cases h; have := eq_of_beq ho; subst this; exact lv_lxor hx hb hd (k _ hl)
    · cases h
  · split at h
    · cases h; have := eq_of_beq ho; subst this; exact lv_lshr hx hb hd rfl (k _ hl)
    · cases h
  · split at h
    · cases h; have := eq_of_beq ho; subst this; exact lv_i2b hx hb hd rfl (k _ hl)
    · cases h
  · split at h
    · cases h; have := eq_of_beq ho; subst this; exact lv_i2s hx hb hd rfl (k _ hl)
    · cases h
  · split at h
    · cases h; have := eq_of_beq ho; subst this; exact lv_dup2_11 hx hb hd rfl rfl (k _ hl)
    · cases h
  · cases h; rw [Bool.and_eq_true] at ho; have := eq_of_beq ho.1; subst this; exact lv_goto hx hb hd (of_decide_eq_true ho.2) (k _ hl)
  · cases h
/-- a stretch of pure instructions -/
def zrun (T : List zTr) : Nat → Nat → zLv → List Value → Option (Nat × zLv × List Value)
  | 0, pc, lv, st => some (pc, lv, st)
  | n + 1, pc, lv, st => match T.lookup pc with
    | none => none
    | some q => match zp q.1 q.2.2.1 q.2.2.2 pc lv st with
      | none => none
      | some r => zrun T n r.1 r.2.1 r.2.2
theorem zt_mem {k : Nat} {v : Jvm.ClassFile.Instr × Nat × Nat × Int32} : ∀ {T : List zTr}, T.lookup k = some v → (k, v) ∈ T := by
  intro T
  induction T with
  | nil => intro h; cases h
  | cons a r ih =>
    intro h
    obtain ⟨x, y⟩ := a
    rw [List.lookup_cons] at h
    by_cases hk : (k == x) = true
    · rw [hk] at h
      have e1 : k = x := by simpa using hk
      have e2 : y = v := by simpa using h
      subst e1; subst e2
      exact List.mem_cons_self
    · have hk : (k == x) = false := by simpa using hk
      rw [hk] at h
      exact List.mem_cons_of_mem _ (ih h)
/-- a method's table is its code's -/
abbrev zTok (cc : ByteArray) (nL : Nat) (T : List zTr) : Prop := T.all (zokb cc nL) = true
theorem zTok.at {nL : Nat} {T : List zTr} (h : zTok cc nL T) {pc : Nat} {q : Jvm.ClassFile.Instr × Nat × Nat × Int32} (hq : T.lookup pc = some q) : zokb cc nL (pc, q) = true := List.all_eq_true.mp h _ (zt_mem hq)
theorem zTok.dec {nL : Nat} {T : List zTr} (h : zTok cc nL T) {pc : Nat} {q : Jvm.ClassFile.Instr × Nat × Nat × Int32} (hq : T.lookup pc = some q) : decode cc pc = .ok (q.1, q.2.1) := by
  have h1 := h.at hq
  unfold zokb at h1
  rw [Bool.and_eq_true] at h1
  exact of_decide_eq_true h1.1
theorem zrun_ok (hx : p.tables.exec = Jvm.exec) (hb : c.code = cc) {nL : Nat} {T : List zTr} (hT : zTok cc nL T) {lv' : zLv} {st' : List Value} {pc' : Nat} : ∀ (n pc : Nat) (lv : zLv) (st : List Value), zrun T n pc lv st = some (pc', lv', st') → ∀ {ls : Array Slot}, lv_has ls nL lv →
    (∀ ls' : Array Slot, lv_has ls' nL lv' → W p l e R s m args below meth c H locs cells slots Q (F0 m pc' ls' st')) → W p l e R s m args below meth c H locs cells slots Q (F0 m pc ls st) := by
  intro n
  induction n with
  | zero => intro pc lv st h ls hl k; unfold zrun at h; cases h; exact k _ hl
  | succ n ih =>
    intro pc lv st h ls hl k
    unfold zrun at h
    split at h
    · cases h
    · rename_i q hq
      split at h
      · cases h
      · rename_i r hr
        obtain ⟨i, len, tgt, v⟩ := q
        obtain ⟨r1, r2, r3⟩ := r
        exact zp_ok hx hb (hT.at hq) hr hl (fun ls' hl' => ih _ _ _ h hl' k)
end ZP
