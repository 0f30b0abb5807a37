-- PURE LAYER: at the start
theorem okS_0 : okS zS0 := fun k hk => by
  unfold zS0 zcap
  dsimp only
  by_cases c : k = 10
  · rw [if_pos c, if_pos c]
    exact ⟨by omega, by simp⟩
  · rw [if_neg c, if_neg c]
    refine ⟨by omega, ?_⟩
    split
    · simp
    · split
      · simp
      · split
        · simp
        · split
          · simp
          · split <;> simp
theorem Rel_0 : Rel 0 zS0 zM0 := by
  have row0 : ∀ k, k ≠ 10 → k ≠ 13 → k ≠ 14 → k ≠ 15 → k ≠ 16 → k ≠ 17 → zS0.1 k = [] := fun k h1 h2 h3 h4 h5 h6 => by
    unfold zS0
    dsimp only
    rw [if_neg h1, if_neg h2, if_neg h3, if_neg h4, if_neg h5, if_neg h6]
  refine ⟨0, fun _ => 0, fun _ => 0, 0, fun _ => (0, 0, 0, none, 0, false, 0, 0), 0, fun _ => (0, 0), 0, fun _ => (0, 0), 0, fun _ => 0, T0, fun _ => 0, 0, ?_, ?_, Or.inl ⟨rfl, rfl⟩⟩
  · refine ⟨okS_0, ⟨Nat.le_refl _, Nat.le_refl _, Nat.le_refl _⟩, ⟨rfl, fun i hi => by omega⟩, ⟨rfl, fun i hi => by omega⟩, ⟨rfl, rfl, rfl, rfl, rfl, rfl, rfl, rfl, rfl⟩, ⟨rfl, rfl, fun i hi => by omega, fun i hi => by omega⟩, ⟨by omega, by omega, fun i hi => by omega, by omega, fun i hi => by omega⟩, ⟨?_, rfl⟩, ⟨rfl, fun i hi => by omega⟩, ⟨fun i hi => by omega, fun i j h1 h2 => by omega⟩⟩
    show List.replicate 128 (-1) = _
    rw [rowOf_rep]; rfl
  · refine ⟨Nat.le_refl _, rfl, ⟨rfl, fun i hi => by omega⟩, fun r hr => by omega, fun i j _ hj => by omega, rfl, rfl, by omega, ?_, ?_, T0_GI, T0_SI, by decide, by decide, Or.inl rfl, T0_EP⟩
    · exact T0_TC rfl rfl rfl rfl rfl (fun k h1 h2 => row0 k (by omega) (by omega) (by omega) (by omega) (by omega) (by omega))
    · exact T0_TMo rfl rfl rfl rfl
