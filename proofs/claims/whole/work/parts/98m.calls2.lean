-- PURE LAYER: each call keeps both sides in step (the rest)
section PC2
variable {n : Nat} {S : zS} {M : zM}
theorem K_family (hn : n ≤ 600) (h : Rel n S M) (a1 : Int32) (a2 : Int64) : ∃ S' M' v, f_Tre_family S a1 a2 = (S', v) ∧ f_Mod_family M a1 a2 = some (M', v) ∧ Rel (n + 1) S' M' := by
  obtain ⟨nf, fam, bit, np, P, nl, fl, m, ps, nr, ru, T, sa, W, hB, hR, hX⟩ := h
  exact Rel_keep hn hB hR hX (k_family hB hn a1 a2)
theorem K_any (hn : n ≤ 600) (h : Rel n S M) : ∃ S' M' v, f_Tre_any S = (S', v) ∧ f_Mod_any M = some (M', v) ∧ Rel (n + 1) S' M' := by
  obtain ⟨nf, fam, bit, np, P, nl, fl, m, ps, nr, ru, T, sa, W, hB, hR, hX⟩ := h
  exact Rel_keep hn hB hR hX (k_any hB hn)
theorem K_constant (hn : n ≤ 600) (h : Rel n S M) (a1 a2 : Int32) : ∃ S' M' v, f_Tre_constant S a1 a2 = (S', v) ∧ f_Mod_constant M a1 a2 = some (M', v) ∧ Rel (n + 1) S' M' := by
  obtain ⟨nf, fam, bit, np, P, nl, fl, m, ps, nr, ru, T, sa, W, hB, hR, hX⟩ := h
  exact Rel_keep hn hB hR hX (k_constant hB hn a1 a2)
theorem K_built (hn : n ≤ 600) (h : Rel n S M) (a1 a2 a3 : Int32) : ∃ S' M' v, f_Tre_built S a1 a2 a3 = (S', v) ∧ f_Mod_built M a1 a2 a3 = some (M', v) ∧ Rel (n + 1) S' M' := by
  obtain ⟨nf, fam, bit, np, P, nl, fl, m, ps, nr, ru, T, sa, W, hB, hR, hX⟩ := h
  exact Rel_keep hn hB hR hX (k_built hB hn a1 a2 a3)
theorem K_name (hn : n ≤ 600) (h : Rel n S M) (a1 a2 : Int32) : ∃ S' M' v, f_Tre_name S a1 a2 = (S', v) ∧ f_Mod_name M a1 a2 = some (M', v) ∧ Rel (n + 1) S' M' := by
  obtain ⟨nf, fam, bit, np, P, nl, fl, m, ps, nr, ru, T, sa, W, hB, hR, hX⟩ := h
  exact Rel_keep hn hB hR hX (k_name hB hn a1 a2)
theorem K_push (hn : n ≤ 600) (h : Rel n S M) (a1 a2 : Int32) : ∃ S' M' v, f_Tre_push S a1 a2 = (S', v) ∧ f_Mod_push M a1 a2 = some (M', v) ∧ Rel (n + 1) S' M' := by
  obtain ⟨nf, fam, bit, np, P, nl, fl, m, ps, nr, ru, T, sa, W, hB, hR, hX⟩ := h
  exact Rel_keep hn hB hR hX (k_push hB hn a1 a2)
theorem K_record (hn : n ≤ 600) (h : Rel n S M) (a1 : Int32) : ∃ S' M' v, f_Tre_record S a1 = some (S', v) ∧ f_Mod_record M a1 = some (M', v) ∧ Rel (n + 1) S' M' := by
  obtain ⟨nf, fam, bit, np, P, nl, fl, m, ps, nr, ru, T, sa, W, hB, hR, hX⟩ := h
  obtain ⟨x, e, k⟩ := k_record hB hn a1
  obtain ⟨S', M', v, h1, h2, h3⟩ := Rel_keep hn hB hR hX k
  exact ⟨S', M', v, by rw [e, h1], h2, h3⟩
theorem K_rule (hn : n ≤ 600) (h : Rel n S M) (a1 : Int32) : ∃ S' M' v, f_Tre_rule S a1 = some (S', v) ∧ f_Mod_rule M a1 = some (M', v) ∧ Rel (n + 1) S' M' := by
  obtain ⟨nf, fam, bit, np, P, nl, fl, m, ps, nr, ru, T, sa, W, hB, hR, hX⟩ := h
  obtain ⟨S', M', v, e1, e2, h | ⟨nr', ru', T', sa', W', b1, b2, b3, b4⟩⟩ := k_rule hB hR hn a1
  · obtain ⟨l, k⟩ := h
    refine ⟨S', M', v, e1, e2, Rel_scr hn hB hR hX l.2.2 (fun j h1 h2 h3 => l.1 j (by simp; omega)) (fun j _ => by rw [l.2.1]) (by rw [l.2.1]) (fun j h1 h2 h3 h4 => k.1 j (by simp; omega)) (fun j h1 => k.2.1 j (by simp)) (fun j h1 h2 => k.2.2 j (by simp; omega))⟩
  · exact ⟨S', M', v, e1, e2, nf, fam, bit, np, P, nl, fl, m, ps, nr', ru', T', sa', W', b1, b2, Or.inl ⟨b3, b4⟩⟩
theorem K_clear (h : Rel n S M) : ∃ S' M' v, f_Tre_clear S = (S', v) ∧ f_Mod_clear M = some (M', v) ∧ Rel (n + 1) S' M' := by
  obtain ⟨nf, fam, bit, np, P, nl, fl, m, ps, nr, ru, T, sa, W, hB, hR, hX⟩ := h
  obtain ⟨S', M', v, e1, e2, b1, b2, b3, b4⟩ := k_clear hB hR
  exact ⟨S', M', v, e1, e2, nf, fam, bit, np, P, nl, fl, m, ps, 0, ru, T0, sa, 0, b1, b2, Or.inl ⟨b3, b4⟩⟩
theorem K_forget (h : Rel n S M) : ∃ S' M' v, f_Tre_forget S = (S', v) ∧ f_Mod_forget M = some (M', v) ∧ Rel (n + 1) S' M' := by
  obtain ⟨nf, fam, bit, np, P, nl, fl, m, ps, nr, ru, T, sa, W, hB, hR, hX⟩ := h
  obtain ⟨S', M', v, e1, e2, b1, b2, b3, b4⟩ := k_forget hB hR
  exact ⟨S', M', v, e1, e2, 0, fam, bit, 0, P, 0, fl, 0, ps, 0, ru, T0, sa, 0, b1, b2, Or.inl ⟨b3, b4⟩⟩
theorem K_first (hn : n ≤ 600) (h : Rel n S M) (a : Int32) : ∃ S' M' v, f_Tre_first S a = some (S', v) ∧ f_Mod_first M a = some (M', v) ∧ Rel (n + 1) S' M' := by
  obtain ⟨nf, fam, bit, np, P, nl, fl, m, ps, nr, ru, T, sa, W, hB, hR, hX⟩ := h
  obtain ⟨S', M', v, e1, e2, l, k⟩ := k_first hB hR hn a
  exact ⟨S', M', v, e1, e2, Rel_scr hn hB hR hX l.2.2 (fun j h1 h2 h3 => l.1 j (by simp; omega)) (fun j _ => by rw [l.2.1]) (by rw [l.2.1]) (fun j h1 h2 h3 h4 => k.1 j (by simp; omega)) (fun j h1 => k.2.1 j (by simp)) (fun j h1 h2 => k.2.2 j (by simp; omega))⟩
theorem K_fits (hn : n ≤ 600) (h : Rel n S M) (a : Int32) : ∃ S' M' v, f_Tre_fits S a = some (S', v) ∧ f_Mod_fits M a = some (M', v) ∧ Rel (n + 1) S' M' := by
  obtain ⟨nf, fam, bit, np, P, nl, fl, m, ps, nr, ru, T, sa, W, hB, hR, hX⟩ := h
  obtain ⟨S', M', v, e1, e2, l, k⟩ := k_fits hB hR hn a
  exact ⟨S', M', v, e1, e2, Rel_scr hn hB hR hX l.2.2 (fun j h1 h2 h3 => l.1 j (by simp; omega)) (fun j _ => by rw [l.2.1]) (by rw [l.2.1]) (fun j h1 h2 h3 h4 => k.1 j (by simp; omega)) (fun j h1 => k.2.1 j (by simp)) (fun j h1 h2 => k.2.2 j (by simp; omega))⟩
theorem K_run (hn : n ≤ 600) (h : Rel n S M) (a : Int32) : ∃ S' M' v, f_Tre_run S a = some (S', v) ∧ f_Mod_run M a = some (M', v) ∧ Rel (n + 1) S' M' := by
  have h' := h
  obtain ⟨nf, fam, bit, np, P, nl, fl, m, ps, nr, ru, T, sa, W, hB, hR, hX⟩ := h
  have hF := Rel_SF hn hB hR
  unfold f_Tre_run f_Mod_run
  have no : (S.2.2.1 1 = 0 ∨ S.2.2.1 1 = -2) → M.2.2 7 = 0 → ∃ S' M' v, (if f_Tre_hasTree S = 0 then some (S, -1) else if f_Pat_isValue S a = 0 then some (S, -1) else zob2 (f_Wlk_walk S a) fun S3 v4 => some (S3, v4)) = some (S', v) ∧ (if M.2.2 7 = 0 then some (M, -1) else zob (f_Mod_isValue M a) fun v2 => if v2 = 0 then some (M, -1) else zob2 (f_Mod_tell M a) fun S4 v5 => some (S4, v5)) = some (M', v) ∧ Rel (n + 1) S' M' := fun h1 h2 => by
    rw [hasT_no h1, if_pos rfl, if_pos h2]
    exact ⟨S, M, -1, rfl, rfl, Rel_mono h'⟩
  rcases hX with ⟨a1, a2⟩ | ⟨a1, a2, _⟩ | ⟨A, nE, nN, ne, ep, el, lst, al, nx, nk, ue, a1, a2, a3, a4, a5, a6, a7⟩
  · exact no (Or.inl a1) a2
  · exact no (Or.inr a1) a2
  · have hX : XR S M nf fam P nr T sa := Or.inr (Or.inr ⟨A, nE, nN, ne, ep, el, lst, al, nx, nk, ue, a1, a2, a3, a4, a5, a6, a7⟩)
    obtain ⟨f1, f2, f3, f4, f5, f6, f7, f8⟩ := a6
    rw [hasT_yes a1 f1.1.1 (by omega), if_neg (by decide), a2, if_neg (show ¬ (1 : Int32) = 0 by decide)]
    rcases c_isV hB hn a with ⟨v1, v2⟩ | ⟨x, x1, x2, x3, x4, x5⟩
    · rw [v1, v2, if_pos rfl, zob_s, if_pos rfl]
      exact ⟨S, M, -1, rfl, rfl, Rel_mono h'⟩
    · rw [x4, x5, if_neg (by decide), zob_s, if_neg (by decide)]
      subst x2
      obtain ⟨S', M', y, y1, y2, y3, y4, y5⟩ := W_walk hF a4 a5 hR.2.2.2.2.2.2.2.2.2.2.2.2.2.2.2 hR.2.2.2.2.1 f1 f2 f4 f5 f7 x1 x3 hB.1 hB.2.2.2.2.1 a3 f3 (Rel_MC hB hR)
      rw [y1, y2, zob2_s, zob2_s]
      exact ⟨S', M', y, rfl, rfl, Rel_scr hn hB hR hX y3.2.2.2 (fun j h1 h2 h3 => y3.1 j (by simp; omega)) (fun j h1 => y3.2.1 j (by simp; omega)) y3.2.2.1 (fun j h1 h2 h3 h4 => y4.1 j (by simp; omega)) (fun j h1 => y4.2.1 j (by simp; omega)) (fun j h1 h2 => y4.2.2 j (by simp; omega))⟩
theorem K_looks (hn : n ≤ 600) (h : Rel n S M) (a : Int32) : ∃ S' M' v, f_Tre_looks S a = some (S', v) ∧ f_Mod_looks M a = some (M', v) ∧ Rel (n + 1) S' M' := by
  have h' := h
  obtain ⟨nf, fam, bit, np, P, nl, fl, m, ps, nr, ru, T, sa, W, hB, hR, hX⟩ := h
  have hF := Rel_SF hn hB hR
  rcases hX with ⟨a1, a2⟩ | ⟨a1, a2, _⟩ | ⟨A, nE, nN, ne, ep, el, lst, al, nx, nk, ue, a1, a2, a3, a4, a5, a6, a7⟩
  · refine ⟨S, M, -1, ?_, ?_, Rel_mono h'⟩
    · unfold f_Tre_looks; rw [hasT_no (Or.inl a1), if_pos rfl]
    · unfold f_Mod_looks; rw [if_pos a2]
  · refine ⟨S, M, -1, ?_, ?_, Rel_mono h'⟩
    · unfold f_Tre_looks; rw [hasT_no (Or.inr a1), if_pos rfl]
    · unfold f_Mod_looks; rw [if_pos a2]
  · have hX : XR S M nf fam P nr T sa := Or.inr (Or.inr ⟨A, nE, nN, ne, ep, el, lst, al, nx, nk, ue, a1, a2, a3, a4, a5, a6, a7⟩)
    obtain ⟨f1, f2, f3, f4, f5, f6, f7, f8⟩ := a6
    unfold f_Tre_looks f_Mod_looks
    rw [hasT_yes a1 f1.1.1 (by omega), if_neg (by decide), a2, if_neg (show ¬ (1 : Int32) = 0 by decide)]
    rcases c_isV hB hn a with ⟨v1, v2⟩ | ⟨x, x1, x2, x3, x4, x5⟩
    · rw [v1, v2, if_neg (by simp), zob_s, if_pos rfl]
      exact ⟨S, M, -1, rfl, rfl, Rel_mono h'⟩
    · rw [x4, x5, if_pos (by decide), zob_s, if_neg (by decide)]
      subst x2
      obtain ⟨S', M', y, y1, y2, y3, y4, y5⟩ := W_walk hF a4 a5 hR.2.2.2.2.2.2.2.2.2.2.2.2.2.2.2 hR.2.2.2.2.1 f1 f2 f4 f5 f7 x1 x3 hB.1 hB.2.2.2.2.1 a3 f3 (Rel_MC hB hR)
      have hrel : Rel (n + 1) S' M' := Rel_scr hn hB hR hX y3.2.2.2 (fun j h1 h2 h3 => y3.1 j (by simp; omega)) (fun j h1 => y3.2.1 j (by simp; omega)) y3.2.2.1 (fun j h1 h2 h3 h4 => y4.1 j (by simp; omega)) (fun j h1 => y4.2.1 j (by simp; omega)) (fun j h1 h2 => y4.2.2 j (by simp; omega))
      rw [y1, y2, zob2_s, zob2_s]
      by_cases z : y = -3
      · rw [if_neg (by simp [z]), if_neg (by simp [z])]
        exact ⟨S', M', -1, rfl, rfl, hrel⟩
      · rw [if_pos z, if_pos z]
        exact ⟨S', M', _, rfl, by unfold f_Wlk_looked; rw [y5 z], hrel⟩
theorem K_ends (hn : n ≤ 600) (h : Rel n S M) (a : Int32) : ∃ v, f_Tre_ends S a = some v ∧ f_Mod_ends M a = some v := by
  obtain ⟨nf, fam, bit, np, P, nl, fl, m, ps, nr, ru, T, sa, W, hB, hR, hX⟩ := h
  have hF := Rel_SF hn hB hR
  have hnr := hF.2.2.2.2.2.2
  unfold f_Tre_ends f_Mod_ends
  have e12 : r_size S 12 = nI nr := by unfold r_size; rw [show S.1 12 = _ from hR.2.1, rowOf_len]
  rcases hX with ⟨a1, a2⟩ | ⟨a1, a2, _⟩ | ⟨A, nE, nN, ne, ep, el, lst, al, nx, nk, ue, a1, a2, a3, a4, a5, a6, a7⟩
  · rw [hasT_no (Or.inl a1), if_pos rfl, if_pos a2]; exact ⟨-1, rfl, rfl⟩
  · rw [hasT_no (Or.inr a1), if_pos rfl, if_pos a2]; exact ⟨-1, rfl, rfl⟩
  · obtain ⟨f1, f2, f3, f4, f5, f6, f7, f8⟩ := a6
    rw [hasT_yes a1 f1.1.1 (by omega), if_neg (by decide), a2, if_neg (show ¬ (1 : Int32) = 0 by decide), e12, hR.2.2.1.1]
    by_cases c1 : a < -1
    · rw [if_pos c1, if_pos c1]; exact ⟨-1, rfl, rfl⟩
    · rw [if_neg c1, if_neg c1]
      have ho : ∃ o : Option Nat, a = oI o ∧ ∀ r, o = some r → r < 2 ^ 31 := by
        by_cases c2 : a < 0
        · refine ⟨none, ?_, (by intro r e; cases e)⟩
          show a = -1
          rw [Int32.lt_iff_toInt_lt] at c1 c2
          rw [← Int32.toInt_inj]
          have : (-1 : Int32).toInt = -1 := rfl
          have : (0 : Int32).toInt = 0 := rfl
          omega
        · obtain ⟨t, t1, t2⟩ := nI_of c2
          exact ⟨some t, t2, (by intro r e; cases e; exact t1)⟩
      obtain ⟨o, o1, o2⟩ := ho
      subst o1
      by_cases c3 : oI o < nI nr
      · have hob : ∀ r, o = some r → r < nr := fun r e => by
          subst e
          have h2 := o2 r rfl
          rw [oI_s] at c3
          (simp (disch := omega) only [nI_1, nI_add, Int32.lt_iff_toInt_lt, Int32.le_iff_toInt_le, ← Int32.toInt_inj, nI_toInt, tI_0, tI_1, tI_2, tI_3, tI_4, tI_m1, tI_m2, tI_m3, tI_m4, tI_64, tI_128, tI_255, tI_256, tI_1000, tI_1024, tI_4096, tI_10000, tI_16384, tI_16386, tI_M] at *; omega)
        have c4 : ¬ nI nr ≤ oI o := by rw [Int32.le_iff_toInt_le]; rw [Int32.lt_iff_toInt_lt] at c3; omega
        have hidx : idx o < 1025 := by
          cases o with
          | none => show 0 < 1025; omega
          | some r => have := hob r rfl; show r + 1 < 1025; omega
        rw [if_pos c3, if_neg c4, c_endsWith f1 hnr f3 f7 (part_b hF f1) o2, zob_s, oI_idx, m_rd_n hidx (by omega), f6.2.1 o hob]
        exact ⟨_, rfl, rfl⟩
      · have c4 : nI nr ≤ oI o := by rw [Int32.le_iff_toInt_le]; rw [Int32.lt_iff_toInt_lt] at c3; omega
        rw [if_neg c3, if_pos c4]; exact ⟨-1, rfl, rfl⟩
theorem K_depth (hn : n ≤ 600) (h : Rel n S M) : ∃ v, f_Tre_depth S = some v ∧ f_Mod_depth M = v := by
  obtain ⟨nf, fam, bit, np, P, nl, fl, m, ps, nr, ru, T, sa, W, hB, hR, hX⟩ := h
  have hF := Rel_SF hn hB hR
  unfold f_Tre_depth f_Mod_depth
  rcases hX with ⟨a1, a2⟩ | ⟨a1, a2, _⟩ | ⟨A, nE, nN, ne, ep, el, lst, al, nx, nk, ue, a1, a2, a3, a4, a5, a6, a7⟩
  · rw [hasT_no (Or.inl a1), if_pos rfl, if_pos a2]; exact ⟨-1, rfl, rfl⟩
  · rw [hasT_no (Or.inr a1), if_pos rfl, if_pos a2]; exact ⟨-1, rfl, rfl⟩
  · obtain ⟨f1, f2, f3, f4, f5, f6, f7, f8⟩ := a6
    rw [hasT_yes a1 f1.1.1 (by omega), if_neg (by decide), a2, if_neg (show ¬ (1 : Int32) = 0 by decide), c_deepest f3 f7 (fun v hv => by have := aD_le f1 (v + 1) v (by omega) hv; omega), zob_s, mxA_E hF f1 f2 f4]
    exact ⟨_, rfl, f6.2.2.1⟩
theorem K_missing (hn : n ≤ 600) (h : Rel n S M) (x : Int64) (a : Int32) : ∃ v, f_Tre_missing S x a = some v ∧ f_Mod_missing M x a = some v := by
  obtain ⟨nf, fam, bit, np, P, nl, fl, m, ps, nr, ru, T, sa, W, hB, hR, hX⟩ := h
  have hF := Rel_SF hn hB hR
  unfold f_Tre_missing
  rcases hX with ⟨a1, a2⟩ | ⟨a1, a2, _⟩ | ⟨A, nE, nN, ne, ep, el, lst, al, nx, nk, ue, a1, a2, a3, a4, a5, a6, a7⟩
  · rw [hasT_no (Or.inl a1), if_pos rfl]
    exact ⟨-1, rfl, by unfold f_Mod_missing; rw [if_pos a2]⟩
  · rw [hasT_no (Or.inr a1), if_pos rfl]
    exact ⟨-1, rfl, by unfold f_Mod_missing; rw [if_pos a2]⟩
  · obtain ⟨f1, f2, f3, f4, f5, f6, f7, f8⟩ := a6
    obtain ⟨R, r1, r2⟩ := W_missing hF a4 a5 hR.2.2.2.2.2.2.2.2.2.2.2.2.2.2.2 hR.2.2.2.2.1 a3 (Rel_MC hB hR) hB.2.2.1 a7 a2 x a
    rw [hasT_yes a1 f1.1.1 (by omega), if_neg (by decide), r1, zob_s]
    exact ⟨R, rfl, r2⟩
theorem K_count (h : Rel n S M) (a : Int32) : f_Tre_count S a = f_Mod_count M a := by
  obtain ⟨nf, fam, bit, np, P, nl, fl, m, ps, nr, ru, T, sa, W, hB, hR, hX⟩ := h
  obtain ⟨b0, b1, b2, b3, b4, b5, b6, b7, b8, b9⟩ := hB
  unfold f_Tre_count f_Mod_count
  by_cases c0 : a = 0
  · rw [if_pos c0, if_neg (by simp [c0])]
    unfold f_Fam_size r_size
    rw [b2.1, rowOf_len, b3.1]
  · rw [if_neg c0, if_pos c0]
    by_cases c1 : a = 1
    · rw [if_pos c1, if_neg (by simp [c1])]
      unfold f_Pat_size r_size
      rw [b4.1, rowOf_len, b5.1]
    · rw [if_neg c1, if_pos c1]
      by_cases c2 : a = 2
      · rw [if_pos c2, if_neg (by simp [c2])]
        unfold f_Psh_many
        rw [b7.2, b8.1]
      · rw [if_neg c2, if_pos c2]
        by_cases c3 : a = 3
        · rw [if_pos c3, if_neg (by simp [c3])]
          unfold r_size
          rw [show S.1 12 = _ from hR.2.1, rowOf_len, hR.2.2.1.1]
        · rw [if_neg c3, if_pos c3]
          by_cases c4 : a = 4
          · rw [if_pos c4, if_neg (show ¬ ¬ a = 4 by simp [c4])]
            rcases hX with ⟨a1, a2⟩ | ⟨a1, a2, _⟩ | ⟨A, nE, nN, ne, ep, el, lst, al, nx, nk, ue, a1, a2, a3, a4, a5, a6, a7⟩
            · rw [hasT_no (Or.inl a1), if_pos rfl, if_pos a2]
            · rw [hasT_no (Or.inr a1), if_pos rfl, if_pos a2]
            · obtain ⟨f1, f2, f3, f4, f5, f6, f7, f8⟩ := a6
              rw [hasT_yes a1 f1.1.1 (by omega), if_neg (by decide), a2, if_neg (show ¬ (1 : Int32) = 0 by decide), a1, f6.1]
          · rw [if_neg c4, if_pos c4]
end PC2
