-- RuleTreeModel.<init> (by program, in part)
def zMi (i : Nat) : zM := (fun a => if a = 20 ∨ a = 21 then (fun j => if j < i then -1 else 0) else fun _ => 0, fun _ _ => 0, fun k => if k = 6 then 1 else 0)
/-- the reference's first state -/
def zM0 : zM := zMi 16386
theorem zMi_s (i : Nat) : m_set (m_set (zMi i) 20 i (-1)) 21 i (-1) = zMi (i + 1) := by
  unfold m_set zMi
  refine Prod.ext ?_ rfl
  funext a j
  simp only [va_up, upd]
  by_cases h1 : a = 21
  · subst h1
    simp only [if_true]
    by_cases h3 : j = i
    · simp [upd, h3]
    · have : (j < i + 1) = (j < i) := by apply propext; omega
      simp [upd, h3, this]
  · by_cases h2 : a = 20
    · subst h2
      simp only [if_true]
      by_cases h3 : j = i
      · simp [upd, h3]
      · have : (j < i + 1) = (j < i) := by apply propext; omega
        simp [upd, h3, this]
    · simp [h1, h2]
section KM
variable {p : Program} {l : Launch} {e : Env} {R : Room} {s : State} {m : MethodId} {args : Array Value} {below : List Frame} {meth : Method} {c : Code} {nL : Nat} {A : Nat → Prop} {cc : ByteArray} {T : List zTr} {own : String} {ret : Option FieldType} {D : va_G} {cA : Nat → ClassId} {pc : Nat} {lv : zLv} {st rest : List Value} {ci h0 cells slots : Nat} {fs : List Value} {Wd : va_W} {ι : Type} {w : (ι → va_W) × Option Value}
theorem kw_ldc (C0 : zC p s m args meth c cc nL own zwl T ret) {idx tgt : Nat} {v0 v : Int32} (hc : Cond.constant own idx v ∈ zwl) (hq : T.lookup pc = some (.ldc idx, 2, tgt, v0)) (k : KW p l e R s m args below meth c nL A D h0 ci fs Wd cells slots (pc + 2) lv (.int v :: rest) w) : KW p l e R s m args below meth c nL A D h0 ci fs Wd cells slots pc lv rest w := by
  obtain ⟨hx, hb, hml, hown, hts, hT, hr, hlocks⟩ := C0
  exact fun H locs ls h1 h2 h3 h5 => lv_ldc hx hb hown (hts _ hc) (hT.dec hq) (k H locs ls h1 h2 h3 h5)
theorem kW_mono {H : Heap} {locs : List Loc} {Q1 Q2 : State → Prop} {g : JFrame} (h : ∀ t, Q1 t → Q2 t) (k : W p l e R s m args below meth c H locs cells slots Q1 g) : W p l e R s m args below meth c H locs cells slots Q2 g := fun T hT X => by
  obtain ⟨t, a, b⟩ := k T hT X
  exact ⟨t, a, h t b⟩
set_option maxHeartbeats 4000000 in
theorem sw_mini {B : Nat → Nat} (C0 : zC p s m args meth c prog_13_method_1_code 2 "RuleTreeModel" zwl T_Mod_init none) (hK : va_K D zcl (ztys cA) s) : ∀ d i, i + d = 16386 → mSW p l e R s m args below meth c 2 A D cA B (zMi i) 307 [(0, .ref (B 0)), (1, .int (nI i))] [] (zFv zM0) := by
  intro d
  induction d with
  | zero =>
    intro i hi
    refine sw_go C0 2 (pc' := 311) (lv' := [(0, .ref (B 0)), (1, .int (nI i))]) (st' := [.int 16386, .int (nI i)]) rfl ?_
    refine sw_icmp_geT C0 rfl ((nI_leI (a := 16386) (by omega) (by omega)).mpr (by omega)) ?_
    exact sw_retv C0 rfl (by rw [show i = 16386 by omega]; rfl)
  | succ d ih =>
    intro i hi
    refine sw_go C0 2 (pc' := 311) (lv' := [(0, .ref (B 0)), (1, .int (nI i))]) (st' := [.int 16386, .int (nI i)]) rfl ?_
    have hlt : ¬ (16386 : Int32) ≤ nI i := fun q => absurd ((nI_leI (a := 16386) (by omega) (by omega)).mp q) (by omega)
    refine sw_icmp_geF C0 rfl hlt ?_
    have K : mSO p l e R s m args below meth c 2 A D cA B (zMi i) 314 [(0, .ref (B 0)), (1, .int (nI i))] [] zFv (m_wr 16386 (nI i) (m_set (zMi i) 20 (nI i).toNatClampNeg (-1)) fun S1 => m_wr 16386 (nI i) (m_set S1 21 (nI i).toNatClampNeg (-1)) fun _ => some zM0) := by
      refine so_go C0 1 (pc' := 315) (lv' := [(0, .ref (B 0)), (1, .int (nI i))]) (st' := [.ref (B 0)]) rfl ?_
      refine so_mget C0 hK (j := 27) (v := .ref (B 21)) (by decide) wd_5_46 rfl rfl ?_
      refine so_go C0 2 (pc' := 320) (lv' := [(0, .ref (B 0)), (1, .int (nI i))]) (st' := [.int (-1), .int (nI i), .ref (B 21)]) rfl ?_
      refine so_miast C0 hK (a := 20) (by decide) rfl rfl (by decide) rfl (fun S1 hS1 => ?_)
      refine so_go C0 1 (pc' := 322) (lv' := [(0, .ref (B 0)), (1, .int (nI i))]) (st' := [.ref (B 0)]) rfl ?_
      refine so_mget C0 hK (j := 28) (v := .ref (B 22)) (by decide) wd_5_47 rfl rfl ?_
      refine so_go C0 2 (pc' := 327) (lv' := [(0, .ref (B 0)), (1, .int (nI i))]) (st' := [.int (-1), .int (nI i), .ref (B 22)]) rfl ?_
      refine so_miast C0 hK (a := 21) (by decide) rfl rfl (by decide) rfl (fun S2 hS2 => ?_)
      have e : S2 = zMi (i + 1) := by rw [hS2, hS1, nI_clamp (by omega)]; exact zMi_s i
      refine so_go C0 2 (pc' := 307) (lv' := [(0, .ref (B 0)), (1, .int (nI i + 1))]) (st' := []) rfl ?_
      rw [nI_1, e]
      intro r hr
      cases hr
      exact ih (i + 1) (by omega)
    have hwr : ∀ (M1 : zM) (k : zM → Option zM), m_wr 16386 (nI i) M1 k = k M1 := fun M1 k => by
      have hlt2 : ¬ nI 16386 ≤ nI i := hlt
      unfold m_wr
      rw [if_neg (nI_pos (by omega)), if_neg hlt2]
    exact K zM0 (by rw [hwr, hwr])
end KM
