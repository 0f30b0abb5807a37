-- the class's first state
def zS0 : zS := (fun k => if k = 10 then List.replicate 128 (-1) else if k = 13 then [0] else if k = 14 then [0] else if k = 15 then [-1] else if k = 16 then [-1] else if k = 17 then [-1] else [], fun k => if k = 10 then 3 else 0, fun k => if k = 4 then -1 else 0, fun _ => 0)
def kpi : List Nat := [0, 1, 5, 24, 27, 32, 61, 82, 87, 92, 4, 2, 6, 8, 10, 12, 14, 16, 18, 20, 22, 25, 28, 30, 33, 35, 37, 39, 41, 43, 45, 47, 49, 51, 53, 55, 57, 59, 62, 64, 66, 68, 70, 72, 74, 76, 78, 80, 83, 85, 88, 90, 93, 95, 3, 7, 9, 11, 13, 15, 17, 19, 21, 23, 26, 29, 31, 34, 36, 38, 40, 42, 44, 46, 48, 50, 52, 54, 56, 58, 60, 63, 65, 67, 69, 71, 73, 75, 77, 79, 81, 84, 86, 89, 91, 94, 96]
theorem kpi_inj : ∀ i, i < 97 → ∀ j, j < 97 → kpi.getD i 0 = kpi.getD j 0 → i = j := by decide +kernel
theorem kex54 (a0 a1 a2 a3 a4 a5 a6 a7 a8 a9 a10 a11 a12 a13 a14 a15 a16 a17 a18 a19 a20 a21 a22 a23 a24 a25 a26 a27 a28 a29 a30 a31 a32 a33 a34 a35 a36 a37 a38 a39 a40 a41 a42 a43 a44 a45 a46 a47 a48 a49 a50 a51 a52 a53 : Nat) : ∃ G : Nat → Nat, G 0 = a0 ∧ G 1 = a1 ∧ G 2 = a2 ∧ G 3 = a3 ∧ G 4 = a4 ∧ G 5 = a5 ∧ G 6 = a6 ∧ G 7 = a7 ∧ G 8 = a8 ∧ G 9 = a9 ∧ G 10 = a10 ∧ G 11 = a11 ∧ G 12 = a12 ∧ G 13 = a13 ∧ G 14 = a14 ∧ G 15 = a15 ∧ G 16 = a16 ∧ G 17 = a17 ∧ G 18 = a18 ∧ G 19 = a19 ∧ G 20 = a20 ∧ G 21 = a21 ∧ G 22 = a22 ∧ G 23 = a23 ∧ G 24 = a24 ∧ G 25 = a25 ∧ G 26 = a26 ∧ G 27 = a27 ∧ G 28 = a28 ∧ G 29 = a29 ∧ G 30 = a30 ∧ G 31 = a31 ∧ G 32 = a32 ∧ G 33 = a33 ∧ G 34 = a34 ∧ G 35 = a35 ∧ G 36 = a36 ∧ G 37 = a37 ∧ G 38 = a38 ∧ G 39 = a39 ∧ G 40 = a40 ∧ G 41 = a41 ∧ G 42 = a42 ∧ G 43 = a43 ∧ G 44 = a44 ∧ G 45 = a45 ∧ G 46 = a46 ∧ G 47 = a47 ∧ G 48 = a48 ∧ G 49 = a49 ∧ G 50 = a50 ∧ G 51 = a51 ∧ G 52 = a52 ∧ G 53 = a53 := ⟨fun i => [a0, a1, a2, a3, a4, a5, a6, a7, a8, a9, a10, a11, a12, a13, a14, a15, a16, a17, a18, a19, a20, a21, a22, a23, a24, a25, a26, a27, a28, a29, a30, a31, a32, a33, a34, a35, a36, a37, a38, a39, a40, a41, a42, a43, a44, a45, a46, a47, a48, a49, a50, a51, a52, a53].getD i 0, rfl, rfl, rfl, rfl, rfl, rfl, rfl, rfl, rfl, rfl, rfl, rfl, rfl, rfl, rfl, rfl, rfl, rfl, rfl, rfl, rfl, rfl, rfl, rfl, rfl, rfl, rfl, rfl, rfl, rfl, rfl, rfl, rfl, rfl, rfl, rfl, rfl, rfl, rfl, rfl, rfl, rfl, rfl, rfl, rfl, rfl, rfl, rfl, rfl, rfl, rfl, rfl, rfl, rfl⟩
theorem kex43 (a0 a1 a2 a3 a4 a5 a6 a7 a8 a9 a10 a11 a12 a13 a14 a15 a16 a17 a18 a19 a20 a21 a22 a23 a24 a25 a26 a27 a28 a29 a30 a31 a32 a33 a34 a35 a36 a37 a38 a39 a40 a41 a42 : Nat) : ∃ G : Nat → Nat, G 0 = a0 ∧ G 1 = a1 ∧ G 2 = a2 ∧ G 3 = a3 ∧ G 4 = a4 ∧ G 5 = a5 ∧ G 6 = a6 ∧ G 7 = a7 ∧ G 8 = a8 ∧ G 9 = a9 ∧ G 10 = a10 ∧ G 11 = a11 ∧ G 12 = a12 ∧ G 13 = a13 ∧ G 14 = a14 ∧ G 15 = a15 ∧ G 16 = a16 ∧ G 17 = a17 ∧ G 18 = a18 ∧ G 19 = a19 ∧ G 20 = a20 ∧ G 21 = a21 ∧ G 22 = a22 ∧ G 23 = a23 ∧ G 24 = a24 ∧ G 25 = a25 ∧ G 26 = a26 ∧ G 27 = a27 ∧ G 28 = a28 ∧ G 29 = a29 ∧ G 30 = a30 ∧ G 31 = a31 ∧ G 32 = a32 ∧ G 33 = a33 ∧ G 34 = a34 ∧ G 35 = a35 ∧ G 36 = a36 ∧ G 37 = a37 ∧ G 38 = a38 ∧ G 39 = a39 ∧ G 40 = a40 ∧ G 41 = a41 ∧ G 42 = a42 := ⟨fun i => [a0, a1, a2, a3, a4, a5, a6, a7, a8, a9, a10, a11, a12, a13, a14, a15, a16, a17, a18, a19, a20, a21, a22, a23, a24, a25, a26, a27, a28, a29, a30, a31, a32, a33, a34, a35, a36, a37, a38, a39, a40, a41, a42].getD i 0, rfl, rfl, rfl, rfl, rfl, rfl, rfl, rfl, rfl, rfl, rfl, rfl, rfl, rfl, rfl, rfl, rfl, rfl, rfl, rfl, rfl, rfl, rfl, rfl, rfl, rfl, rfl, rfl, rfl, rfl, rfl, rfl, rfl, rfl, rfl, rfl, rfl, rfl, rfl, rfl, rfl, rfl, rfl⟩
section KI
variable {cA : Nat → ClassId} {D : va_G} {l : Launch}
set_option maxHeartbeats 8000000 in
set_option maxRecDepth 20000 in
theorem tree_list (h0 : Nat) (q0 : Nat) (x0 : List Nat × List Nat × Nat) (q1 : Nat) (x1 : List Nat × List Nat) (q2 : Nat) (x2 : {x : Nat × Nat × (Nat → Int32) // ∀ i, i < 128 → x.2.2 i = -1}) (q3 : Nat) (x3 : List Nat × List Nat) (q4 : Nat) (x4 : Nat) (q5 : Nat) (x5 : (List Nat × List Nat) × kParI) (q6 : Nat) (x6 : List Nat × List Nat) (q7 : Nat) (x7 : List Nat × List Nat) (q8 : Nat) (x8 : List Nat × List Nat) (q9 : Nat) (x9 : List Nat × List Nat) : w_Tre cA h0 (q0, x0, q1, x1, q2, x2, q3, x3, q4, x4, q5, x5, q6, x6, q7, x7, q8, x8, q9, x9) = [(h0, .inr (1, [.ref q0, .ref q1, .ref q2, .ref q3, .ref q4, .ref q5, .ref q6, .ref q7, .ref q8, .ref q9, .int 0, .int 0])),
    (q0, .inr (2, [.ref (x0.1.getD 0 0), .ref x0.2.2])),
    ((x0.1.getD 0 0), .inr (0, [.ref (x0.2.1.getD 0 0), .int 0])),
    ((x0.2.1.getD 0 0), .inl (cA 0, 16, .inl (fun _ => 0))),
    (x0.2.2, .inl (cA 1, 1024, .inr (.inl (fun _ => 0)))),
    (q1, .inr (3, [.ref (x1.1.getD 0 0), .ref (x1.1.getD 1 0), .ref (x1.1.getD 2 0), .ref (x1.1.getD 3 0), .ref (x1.1.getD 4 0), .ref (x1.1.getD 5 0), .ref (x1.1.getD 6 0), .ref (x1.1.getD 7 0), .ref (x1.1.getD 8 0)])),
    ((x1.1.getD 0 0), .inr (0, [.ref (x1.2.getD 0 0), .int 0])),
    ((x1.2.getD 0 0), .inl (cA 0, 16, .inl (fun _ => 0))),
    ((x1.1.getD 1 0), .inr (0, [.ref (x1.2.getD 1 0), .int 0])),
    ((x1.2.getD 1 0), .inl (cA 0, 16, .inl (fun _ => 0))),
    ((x1.1.getD 2 0), .inr (0, [.ref (x1.2.getD 2 0), .int 0])),
    ((x1.2.getD 2 0), .inl (cA 0, 16, .inl (fun _ => 0))),
    ((x1.1.getD 3 0), .inr (0, [.ref (x1.2.getD 3 0), .int 0])),
    ((x1.2.getD 3 0), .inl (cA 0, 16, .inl (fun _ => 0))),
    ((x1.1.getD 4 0), .inr (0, [.ref (x1.2.getD 4 0), .int 0])),
    ((x1.2.getD 4 0), .inl (cA 0, 16, .inl (fun _ => 0))),
    ((x1.1.getD 5 0), .inr (0, [.ref (x1.2.getD 5 0), .int 0])),
    ((x1.2.getD 5 0), .inl (cA 0, 16, .inl (fun _ => 0))),
    ((x1.1.getD 6 0), .inr (0, [.ref (x1.2.getD 6 0), .int 0])),
    ((x1.2.getD 6 0), .inl (cA 0, 16, .inl (fun _ => 0))),
    ((x1.1.getD 7 0), .inr (0, [.ref (x1.2.getD 7 0), .int 0])),
    ((x1.2.getD 7 0), .inl (cA 0, 16, .inl (fun _ => 0))),
    ((x1.1.getD 8 0), .inr (0, [.ref (x1.2.getD 8 0), .int 0])),
    ((x1.2.getD 8 0), .inl (cA 0, 16, .inl (fun _ => 0))),
    (q2, .inr (4, [.ref x2.1.1, .int 0])),
    (x2.1.1, .inr (0, [.ref x2.1.2.1, .int (nI (List.length (List.replicate 128 (-1) : List Int32)))])),
    (x2.1.2.1, .inl (cA 0, (16 * 2 ^ 3), .inl x2.1.2.2)),
    (q3, .inr (5, [.ref q1, .ref (x3.1.getD 0 0)])),
    ((x3.1.getD 0 0), .inr (0, [.ref (x3.2.getD 0 0), .int 0])),
    ((x3.2.getD 0 0), .inl (cA 0, 16, .inl (fun _ => 0))),
    (q4, .inr (0, [.ref x4, .int 0])),
    (x4, .inl (cA 0, 16, .inl (fun _ => 0))),
    (q5, .inr (6, [.ref q1, .ref (x5.1.1.getD 0 0), .ref (x5.1.1.getD 1 0), .ref (x5.1.1.getD 2 0), .ref (x5.1.1.getD 3 0), .ref (x5.1.1.getD 4 0), .ref (x5.1.1.getD 5 0), .ref (x5.1.1.getD 6 0), .ref (x5.1.1.getD 7 0), .ref (x5.1.1.getD 8 0), .ref (x5.1.1.getD 9 0), .ref (x5.1.1.getD 10 0), .ref (x5.1.1.getD 11 0), .ref (x5.1.1.getD 12 0), .ref (x5.1.1.getD 13 0)])),
    ((x5.1.1.getD 0 0), .inr (0, [.ref (x5.2.1.1 0), .int (nI (List.length ([0] : List Int32)))])),
    ((x5.2.1.1 0), .inl (cA 0, (16 * 2 ^ 0), .inl (x5.2.1.2 0))),
    ((x5.1.1.getD 1 0), .inr (0, [.ref (x5.2.1.1 1), .int (nI (List.length ([0] : List Int32)))])),
    ((x5.2.1.1 1), .inl (cA 0, (16 * 2 ^ 0), .inl (x5.2.1.2 1))),
    ((x5.1.1.getD 2 0), .inr (0, [.ref (x5.2.1.1 2), .int (nI (List.length ([-1] : List Int32)))])),
    ((x5.2.1.1 2), .inl (cA 0, (16 * 2 ^ 0), .inl (x5.2.1.2 2))),
    ((x5.1.1.getD 3 0), .inr (0, [.ref (x5.2.1.1 3), .int (nI (List.length ([-1] : List Int32)))])),
    ((x5.2.1.1 3), .inl (cA 0, (16 * 2 ^ 0), .inl (x5.2.1.2 3))),
    ((x5.1.1.getD 4 0), .inr (0, [.ref (x5.2.1.1 4), .int (nI (List.length ([-1] : List Int32)))])),
    ((x5.2.1.1 4), .inl (cA 0, (16 * 2 ^ 0), .inl (x5.2.1.2 4))),
    ((x5.1.1.getD 5 0), .inr (0, [.ref (x5.1.2.getD 5 0), .int 0])),
    ((x5.1.2.getD 5 0), .inl (cA 0, 16, .inl (fun _ => 0))),
    ((x5.1.1.getD 6 0), .inr (0, [.ref (x5.1.2.getD 6 0), .int 0])),
    ((x5.1.2.getD 6 0), .inl (cA 0, 16, .inl (fun _ => 0))),
    ((x5.1.1.getD 7 0), .inr (0, [.ref (x5.1.2.getD 7 0), .int 0])),
    ((x5.1.2.getD 7 0), .inl (cA 0, 16, .inl (fun _ => 0))),
    ((x5.1.1.getD 8 0), .inr (0, [.ref (x5.1.2.getD 8 0), .int 0])),
    ((x5.1.2.getD 8 0), .inl (cA 0, 16, .inl (fun _ => 0))),
    ((x5.1.1.getD 9 0), .inr (0, [.ref (x5.1.2.getD 9 0), .int 0])),
    ((x5.1.2.getD 9 0), .inl (cA 0, 16, .inl (fun _ => 0))),
    ((x5.1.1.getD 10 0), .inr (0, [.ref (x5.1.2.getD 10 0), .int 0])),
    ((x5.1.2.getD 10 0), .inl (cA 0, 16, .inl (fun _ => 0))),
    ((x5.1.1.getD 11 0), .inr (0, [.ref (x5.1.2.getD 11 0), .int 0])),
    ((x5.1.2.getD 11 0), .inl (cA 0, 16, .inl (fun _ => 0))),
    ((x5.1.1.getD 12 0), .inr (0, [.ref (x5.1.2.getD 12 0), .int 0])),
    ((x5.1.2.getD 12 0), .inl (cA 0, 16, .inl (fun _ => 0))),
    ((x5.1.1.getD 13 0), .inr (0, [.ref (x5.1.2.getD 13 0), .int 0])),
    ((x5.1.2.getD 13 0), .inl (cA 0, 16, .inl (fun _ => 0))),
    (q6, .inr (7, [.ref (x6.1.getD 0 0), .ref (x6.1.getD 1 0), .ref (x6.1.getD 2 0), .ref (x6.1.getD 3 0), .ref (x6.1.getD 4 0), .ref (x6.1.getD 5 0), .ref (x6.1.getD 6 0), .ref (x6.1.getD 7 0), .ref (x6.1.getD 8 0), .ref (x6.1.getD 9 0)])),
    ((x6.1.getD 0 0), .inr (0, [.ref (x6.2.getD 0 0), .int 0])),
    ((x6.2.getD 0 0), .inl (cA 0, 16, .inl (fun _ => 0))),
    ((x6.1.getD 1 0), .inr (0, [.ref (x6.2.getD 1 0), .int 0])),
    ((x6.2.getD 1 0), .inl (cA 0, 16, .inl (fun _ => 0))),
    ((x6.1.getD 2 0), .inr (0, [.ref (x6.2.getD 2 0), .int 0])),
    ((x6.2.getD 2 0), .inl (cA 0, 16, .inl (fun _ => 0))),
    ((x6.1.getD 3 0), .inr (0, [.ref (x6.2.getD 3 0), .int 0])),
    ((x6.2.getD 3 0), .inl (cA 0, 16, .inl (fun _ => 0))),
    ((x6.1.getD 4 0), .inr (0, [.ref (x6.2.getD 4 0), .int 0])),
    ((x6.2.getD 4 0), .inl (cA 0, 16, .inl (fun _ => 0))),
    ((x6.1.getD 5 0), .inr (0, [.ref (x6.2.getD 5 0), .int 0])),
    ((x6.2.getD 5 0), .inl (cA 0, 16, .inl (fun _ => 0))),
    ((x6.1.getD 6 0), .inr (0, [.ref (x6.2.getD 6 0), .int 0])),
    ((x6.2.getD 6 0), .inl (cA 0, 16, .inl (fun _ => 0))),
    ((x6.1.getD 7 0), .inr (0, [.ref (x6.2.getD 7 0), .int 0])),
    ((x6.2.getD 7 0), .inl (cA 0, 16, .inl (fun _ => 0))),
    ((x6.1.getD 8 0), .inr (0, [.ref (x6.2.getD 8 0), .int 0])),
    ((x6.2.getD 8 0), .inl (cA 0, 16, .inl (fun _ => 0))),
    ((x6.1.getD 9 0), .inr (0, [.ref (x6.2.getD 9 0), .int 0])),
    ((x6.2.getD 9 0), .inl (cA 0, 16, .inl (fun _ => 0))),
    (q7, .inr (8, [.ref q0, .ref q5, .ref q6, .ref (x7.1.getD 0 0), .ref (x7.1.getD 1 0)])),
    ((x7.1.getD 0 0), .inr (0, [.ref (x7.2.getD 0 0), .int 0])),
    ((x7.2.getD 0 0), .inl (cA 0, 16, .inl (fun _ => 0))),
    ((x7.1.getD 1 0), .inr (0, [.ref (x7.2.getD 1 0), .int 0])),
    ((x7.2.getD 1 0), .inl (cA 0, 16, .inl (fun _ => 0))),
    (q8, .inr (9, [.ref q1, .ref q5, .ref q6, .ref (x8.1.getD 0 0), .ref (x8.1.getD 1 0), .int 0])),
    ((x8.1.getD 0 0), .inr (0, [.ref (x8.2.getD 0 0), .int 0])),
    ((x8.2.getD 0 0), .inl (cA 0, 16, .inl (fun _ => 0))),
    ((x8.1.getD 1 0), .inr (0, [.ref (x8.2.getD 1 0), .int 0])),
    ((x8.2.getD 1 0), .inl (cA 0, 16, .inl (fun _ => 0))),
    (q9, .inr (10, [.ref q0, .ref q5, .ref q6, .ref (x9.1.getD 0 0), .ref (x9.1.getD 1 0), .int (-1)])),
    ((x9.1.getD 0 0), .inr (0, [.ref (x9.2.getD 0 0), .int 0])),
    ((x9.2.getD 0 0), .inl (cA 0, 16, .inl (fun _ => 0))),
    ((x9.1.getD 1 0), .inr (0, [.ref (x9.2.getD 1 0), .int 0])),
    ((x9.2.getD 1 0), .inl (cA 0, 16, .inl (fun _ => 0)))] := rfl
set_option maxHeartbeats 8000000 in
set_option maxRecDepth 20000 in
theorem tree_rep (h0 : Nat) (z : kTreI) {A : Nat → Prop} {H : Heap} (hP : va_P D zcl (w_Tre cA h0 z) H) (hD : va_D A (w_Tre cA h0 z)) : ∃ G : Nat → Nat, G 0 = h0 ∧ zRep D cA G A zS0 H := by
  obtain ⟨q0, x0, q1, x1, q2, x2, q3, x3, q4, x4, q5, x5, q6, x6, q7, x7, q8, x8, q9, x9⟩ := z
  rw [tree_list] at hP hD
  obtain ⟨G, g0, g1, g2, g3, g4, g5, g6, g7, g8, g9, g10, g11, g12, g13, g14, g15, g16, g17, g18, g19, g20, g21, g22, g23, g24, g25, g26, g27, g28, g29, g30, g31, g32, g33, g34, g35, g36, g37, g38, g39, g40, g41, g42, g43, g44, g45, g46, g47, g48, g49, g50, g51, g52, g53⟩ := kex54 h0 q0 q1 q2 q3 q5 q6 q7 q8 q9 x0.2.2 (x0.1.getD 0 0) (x1.1.getD 0 0) (x1.1.getD 1 0) (x1.1.getD 2 0) (x1.1.getD 3 0) (x1.1.getD 4 0) (x1.1.getD 5 0) (x1.1.getD 6 0) (x1.1.getD 7 0) (x1.1.getD 8 0) x2.1.1 (x3.1.getD 0 0) q4 (x5.1.1.getD 0 0) (x5.1.1.getD 1 0) (x5.1.1.getD 2 0) (x5.1.1.getD 3 0) (x5.1.1.getD 4 0) (x5.1.1.getD 5 0) (x5.1.1.getD 6 0) (x5.1.1.getD 7 0) (x5.1.1.getD 8 0) (x5.1.1.getD 9 0) (x5.1.1.getD 10 0) (x5.1.1.getD 11 0) (x5.1.1.getD 12 0) (x5.1.1.getD 13 0) (x6.1.getD 0 0) (x6.1.getD 1 0) (x6.1.getD 2 0) (x6.1.getD 3 0) (x6.1.getD 4 0) (x6.1.getD 5 0) (x6.1.getD 6 0) (x6.1.getD 7 0) (x6.1.getD 8 0) (x6.1.getD 9 0) (x7.1.getD 0 0) (x7.1.getD 1 0) (x8.1.getD 0 0) (x8.1.getD 1 0) (x9.1.getD 0 0) (x9.1.getD 1 0)
  obtain ⟨aa, b0, b1, b2, b3, b4, b5, b6, b7, b8, b9, b10, b11, b12, b13, b14, b15, b16, b17, b18, b19, b20, b21, b22, b23, b24, b25, b26, b27, b28, b29, b30, b31, b32, b33, b34, b35, b36, b37, b38, b39, b40, b41, b42⟩ := kex43 (x0.2.1.getD 0 0) (x1.2.getD 0 0) (x1.2.getD 1 0) (x1.2.getD 2 0) (x1.2.getD 3 0) (x1.2.getD 4 0) (x1.2.getD 5 0) (x1.2.getD 6 0) (x1.2.getD 7 0) (x1.2.getD 8 0) x2.1.2.1 (x3.2.getD 0 0) x4 (x5.2.1.1 0) (x5.2.1.1 1) (x5.2.1.1 2) (x5.2.1.1 3) (x5.2.1.1 4) (x5.1.2.getD 5 0) (x5.1.2.getD 6 0) (x5.1.2.getD 7 0) (x5.1.2.getD 8 0) (x5.1.2.getD 9 0) (x5.1.2.getD 10 0) (x5.1.2.getD 11 0) (x5.1.2.getD 12 0) (x5.1.2.getD 13 0) (x6.2.getD 0 0) (x6.2.getD 1 0) (x6.2.getD 2 0) (x6.2.getD 3 0) (x6.2.getD 4 0) (x6.2.getD 5 0) (x6.2.getD 6 0) (x6.2.getD 7 0) (x6.2.getD 8 0) (x6.2.getD 9 0) (x7.2.getD 0 0) (x7.2.getD 1 0) (x8.2.getD 0 0) (x8.2.getD 1 0) (x9.2.getD 0 0) (x9.2.getD 1 0)
  refine ⟨G, g0, aa, (fun k => if k = 10 then x2.1.2.2 else if k = 13 then (x5.2.1.2 0) else if k = 14 then (x5.2.1.2 1) else if k = 15 then (x5.2.1.2 2) else if k = 16 then (x5.2.1.2 3) else if k = 17 then (x5.2.1.2 4) else fun _ => 0), ?_⟩
  have hE : ∀ i, i < 97 → ([(h0, .inr (1, [.ref q0, .ref q1, .ref q2, .ref q3, .ref q4, .ref q5, .ref q6, .ref q7, .ref q8, .ref q9, .int 0, .int 0])),
    (q0, .inr (2, [.ref (x0.1.getD 0 0), .ref x0.2.2])),
    ((x0.1.getD 0 0), .inr (0, [.ref (x0.2.1.getD 0 0), .int 0])),
    ((x0.2.1.getD 0 0), .inl (cA 0, 16, .inl (fun _ => 0))),
    (x0.2.2, .inl (cA 1, 1024, .inr (.inl (fun _ => 0)))),
    (q1, .inr (3, [.ref (x1.1.getD 0 0), .ref (x1.1.getD 1 0), .ref (x1.1.getD 2 0), .ref (x1.1.getD 3 0), .ref (x1.1.getD 4 0), .ref (x1.1.getD 5 0), .ref (x1.1.getD 6 0), .ref (x1.1.getD 7 0), .ref (x1.1.getD 8 0)])),
    ((x1.1.getD 0 0), .inr (0, [.ref (x1.2.getD 0 0), .int 0])),
    ((x1.2.getD 0 0), .inl (cA 0, 16, .inl (fun _ => 0))),
    ((x1.1.getD 1 0), .inr (0, [.ref (x1.2.getD 1 0), .int 0])),
    ((x1.2.getD 1 0), .inl (cA 0, 16, .inl (fun _ => 0))),
    ((x1.1.getD 2 0), .inr (0, [.ref (x1.2.getD 2 0), .int 0])),
    ((x1.2.getD 2 0), .inl (cA 0, 16, .inl (fun _ => 0))),
    ((x1.1.getD 3 0), .inr (0, [.ref (x1.2.getD 3 0), .int 0])),
    ((x1.2.getD 3 0), .inl (cA 0, 16, .inl (fun _ => 0))),
    ((x1.1.getD 4 0), .inr (0, [.ref (x1.2.getD 4 0), .int 0])),
    ((x1.2.getD 4 0), .inl (cA 0, 16, .inl (fun _ => 0))),
    ((x1.1.getD 5 0), .inr (0, [.ref (x1.2.getD 5 0), .int 0])),
    ((x1.2.getD 5 0), .inl (cA 0, 16, .inl (fun _ => 0))),
    ((x1.1.getD 6 0), .inr (0, [.ref (x1.2.getD 6 0), .int 0])),
    ((x1.2.getD 6 0), .inl (cA 0, 16, .inl (fun _ => 0))),
    ((x1.1.getD 7 0), .inr (0, [.ref (x1.2.getD 7 0), .int 0])),
    ((x1.2.getD 7 0), .inl (cA 0, 16, .inl (fun _ => 0))),
    ((x1.1.getD 8 0), .inr (0, [.ref (x1.2.getD 8 0), .int 0])),
    ((x1.2.getD 8 0), .inl (cA 0, 16, .inl (fun _ => 0))),
    (q2, .inr (4, [.ref x2.1.1, .int 0])),
    (x2.1.1, .inr (0, [.ref x2.1.2.1, .int (nI (List.length (List.replicate 128 (-1) : List Int32)))])),
    (x2.1.2.1, .inl (cA 0, (16 * 2 ^ 3), .inl x2.1.2.2)),
    (q3, .inr (5, [.ref q1, .ref (x3.1.getD 0 0)])),
    ((x3.1.getD 0 0), .inr (0, [.ref (x3.2.getD 0 0), .int 0])),
    ((x3.2.getD 0 0), .inl (cA 0, 16, .inl (fun _ => 0))),
    (q4, .inr (0, [.ref x4, .int 0])),
    (x4, .inl (cA 0, 16, .inl (fun _ => 0))),
    (q5, .inr (6, [.ref q1, .ref (x5.1.1.getD 0 0), .ref (x5.1.1.getD 1 0), .ref (x5.1.1.getD 2 0), .ref (x5.1.1.getD 3 0), .ref (x5.1.1.getD 4 0), .ref (x5.1.1.getD 5 0), .ref (x5.1.1.getD 6 0), .ref (x5.1.1.getD 7 0), .ref (x5.1.1.getD 8 0), .ref (x5.1.1.getD 9 0), .ref (x5.1.1.getD 10 0), .ref (x5.1.1.getD 11 0), .ref (x5.1.1.getD 12 0), .ref (x5.1.1.getD 13 0)])),
    ((x5.1.1.getD 0 0), .inr (0, [.ref (x5.2.1.1 0), .int (nI (List.length ([0] : List Int32)))])),
    ((x5.2.1.1 0), .inl (cA 0, (16 * 2 ^ 0), .inl (x5.2.1.2 0))),
    ((x5.1.1.getD 1 0), .inr (0, [.ref (x5.2.1.1 1), .int (nI (List.length ([0] : List Int32)))])),
    ((x5.2.1.1 1), .inl (cA 0, (16 * 2 ^ 0), .inl (x5.2.1.2 1))),
    ((x5.1.1.getD 2 0), .inr (0, [.ref (x5.2.1.1 2), .int (nI (List.length ([-1] : List Int32)))])),
    ((x5.2.1.1 2), .inl (cA 0, (16 * 2 ^ 0), .inl (x5.2.1.2 2))),
    ((x5.1.1.getD 3 0), .inr (0, [.ref (x5.2.1.1 3), .int (nI (List.length ([-1] : List Int32)))])),
    ((x5.2.1.1 3), .inl (cA 0, (16 * 2 ^ 0), .inl (x5.2.1.2 3))),
    ((x5.1.1.getD 4 0), .inr (0, [.ref (x5.2.1.1 4), .int (nI (List.length ([-1] : List Int32)))])),
    ((x5.2.1.1 4), .inl (cA 0, (16 * 2 ^ 0), .inl (x5.2.1.2 4))),
    ((x5.1.1.getD 5 0), .inr (0, [.ref (x5.1.2.getD 5 0), .int 0])),
    ((x5.1.2.getD 5 0), .inl (cA 0, 16, .inl (fun _ => 0))),
    ((x5.1.1.getD 6 0), .inr (0, [.ref (x5.1.2.getD 6 0), .int 0])),
    ((x5.1.2.getD 6 0), .inl (cA 0, 16, .inl (fun _ => 0))),
    ((x5.1.1.getD 7 0), .inr (0, [.ref (x5.1.2.getD 7 0), .int 0])),
    ((x5.1.2.getD 7 0), .inl (cA 0, 16, .inl (fun _ => 0))),
    ((x5.1.1.getD 8 0), .inr (0, [.ref (x5.1.2.getD 8 0), .int 0])),
    ((x5.1.2.getD 8 0), .inl (cA 0, 16, .inl (fun _ => 0))),
    ((x5.1.1.getD 9 0), .inr (0, [.ref (x5.1.2.getD 9 0), .int 0])),
    ((x5.1.2.getD 9 0), .inl (cA 0, 16, .inl (fun _ => 0))),
    ((x5.1.1.getD 10 0), .inr (0, [.ref (x5.1.2.getD 10 0), .int 0])),
    ((x5.1.2.getD 10 0), .inl (cA 0, 16, .inl (fun _ => 0))),
    ((x5.1.1.getD 11 0), .inr (0, [.ref (x5.1.2.getD 11 0), .int 0])),
    ((x5.1.2.getD 11 0), .inl (cA 0, 16, .inl (fun _ => 0))),
    ((x5.1.1.getD 12 0), .inr (0, [.ref (x5.1.2.getD 12 0), .int 0])),
    ((x5.1.2.getD 12 0), .inl (cA 0, 16, .inl (fun _ => 0))),
    ((x5.1.1.getD 13 0), .inr (0, [.ref (x5.1.2.getD 13 0), .int 0])),
    ((x5.1.2.getD 13 0), .inl (cA 0, 16, .inl (fun _ => 0))),
    (q6, .inr (7, [.ref (x6.1.getD 0 0), .ref (x6.1.getD 1 0), .ref (x6.1.getD 2 0), .ref (x6.1.getD 3 0), .ref (x6.1.getD 4 0), .ref (x6.1.getD 5 0), .ref (x6.1.getD 6 0), .ref (x6.1.getD 7 0), .ref (x6.1.getD 8 0), .ref (x6.1.getD 9 0)])),
    ((x6.1.getD 0 0), .inr (0, [.ref (x6.2.getD 0 0), .int 0])),
    ((x6.2.getD 0 0), .inl (cA 0, 16, .inl (fun _ => 0))),
    ((x6.1.getD 1 0), .inr (0, [.ref (x6.2.getD 1 0), .int 0])),
    ((x6.2.getD 1 0), .inl (cA 0, 16, .inl (fun _ => 0))),
    ((x6.1.getD 2 0), .inr (0, [.ref (x6.2.getD 2 0), .int 0])),
    ((x6.2.getD 2 0), .inl (cA 0, 16, .inl (fun _ => 0))),
    ((x6.1.getD 3 0), .inr (0, [.ref (x6.2.getD 3 0), .int 0])),
    ((x6.2.getD 3 0), .inl (cA 0, 16, .inl (fun _ => 0))),
    ((x6.1.getD 4 0), .inr (0, [.ref (x6.2.getD 4 0), .int 0])),
    ((x6.2.getD 4 0), .inl (cA 0, 16, .inl (fun _ => 0))),
    ((x6.1.getD 5 0), .inr (0, [.ref (x6.2.getD 5 0), .int 0])),
    ((x6.2.getD 5 0), .inl (cA 0, 16, .inl (fun _ => 0))),
    ((x6.1.getD 6 0), .inr (0, [.ref (x6.2.getD 6 0), .int 0])),
    ((x6.2.getD 6 0), .inl (cA 0, 16, .inl (fun _ => 0))),
    ((x6.1.getD 7 0), .inr (0, [.ref (x6.2.getD 7 0), .int 0])),
    ((x6.2.getD 7 0), .inl (cA 0, 16, .inl (fun _ => 0))),
    ((x6.1.getD 8 0), .inr (0, [.ref (x6.2.getD 8 0), .int 0])),
    ((x6.2.getD 8 0), .inl (cA 0, 16, .inl (fun _ => 0))),
    ((x6.1.getD 9 0), .inr (0, [.ref (x6.2.getD 9 0), .int 0])),
    ((x6.2.getD 9 0), .inl (cA 0, 16, .inl (fun _ => 0))),
    (q7, .inr (8, [.ref q0, .ref q5, .ref q6, .ref (x7.1.getD 0 0), .ref (x7.1.getD 1 0)])),
    ((x7.1.getD 0 0), .inr (0, [.ref (x7.2.getD 0 0), .int 0])),
    ((x7.2.getD 0 0), .inl (cA 0, 16, .inl (fun _ => 0))),
    ((x7.1.getD 1 0), .inr (0, [.ref (x7.2.getD 1 0), .int 0])),
    ((x7.2.getD 1 0), .inl (cA 0, 16, .inl (fun _ => 0))),
    (q8, .inr (9, [.ref q1, .ref q5, .ref q6, .ref (x8.1.getD 0 0), .ref (x8.1.getD 1 0), .int 0])),
    ((x8.1.getD 0 0), .inr (0, [.ref (x8.2.getD 0 0), .int 0])),
    ((x8.2.getD 0 0), .inl (cA 0, 16, .inl (fun _ => 0))),
    ((x8.1.getD 1 0), .inr (0, [.ref (x8.2.getD 1 0), .int 0])),
    ((x8.2.getD 1 0), .inl (cA 0, 16, .inl (fun _ => 0))),
    (q9, .inr (10, [.ref q0, .ref q5, .ref q6, .ref (x9.1.getD 0 0), .ref (x9.1.getD 1 0), .int (-1)])),
    ((x9.1.getD 0 0), .inr (0, [.ref (x9.2.getD 0 0), .int 0])),
    ((x9.2.getD 0 0), .inl (cA 0, 16, .inl (fun _ => 0))),
    ((x9.1.getD 1 0), .inr (0, [.ref (x9.2.getD 1 0), .int 0])),
    ((x9.2.getD 1 0), .inl (cA 0, 16, .inl (fun _ => 0)))] : va_W)[kpi.getD i 0]? = some (zad G aa i, zct cA G aa (fun k => if k = 10 then x2.1.2.2 else if k = 13 then (x5.2.1.2 0) else if k = 14 then (x5.2.1.2 1) else if k = 15 then (x5.2.1.2 2) else if k = 16 then (x5.2.1.2 3) else if k = 17 then (x5.2.1.2 4) else fun _ => 0) zS0 i) := by
    intro i hi
    match i, hi with
    | 0, _ => exact (show some ((h0, .inr (1, [.ref q0, .ref q1, .ref q2, .ref q3, .ref q4, .ref q5, .ref q6, .ref q7, .ref q8, .ref q9, .int 0, .int 0])) : Nat × va_E) = some ((G 0, .inr (1, [.ref (G 1), .ref (G 2), .ref (G 3), .ref (G 4), .ref (G 23), .ref (G 5), .ref (G 6), .ref (G 7), .ref (G 8), .ref (G 9), .int 0, .int 0])) : Nat × va_E) by rw [g0, g1, g2, g3, g4, g23, g5, g6, g7, g8, g9])
    | 1, _ => exact (show some ((q0, .inr (2, [.ref (x0.1.getD 0 0), .ref x0.2.2])) : Nat × va_E) = some ((G 1, .inr (2, [.ref (G 11), .ref (G 10)])) : Nat × va_E) by rw [g1, g11, g10])
    | 2, _ => exact (show some ((q1, .inr (3, [.ref (x1.1.getD 0 0), .ref (x1.1.getD 1 0), .ref (x1.1.getD 2 0), .ref (x1.1.getD 3 0), .ref (x1.1.getD 4 0), .ref (x1.1.getD 5 0), .ref (x1.1.getD 6 0), .ref (x1.1.getD 7 0), .ref (x1.1.getD 8 0)])) : Nat × va_E) = some ((G 2, .inr (3, [.ref (G 12), .ref (G 13), .ref (G 14), .ref (G 15), .ref (G 16), .ref (G 17), .ref (G 18), .ref (G 19), .ref (G 20)])) : Nat × va_E) by rw [g2, g12, g13, g14, g15, g16, g17, g18, g19, g20])
    | 3, _ => exact (show some ((q2, .inr (4, [.ref x2.1.1, .int 0])) : Nat × va_E) = some ((G 3, .inr (4, [.ref (G 21), .int 0])) : Nat × va_E) by rw [g3, g21])
    | 4, _ => exact (show some ((q3, .inr (5, [.ref q1, .ref (x3.1.getD 0 0)])) : Nat × va_E) = some ((G 4, .inr (5, [.ref (G 2), .ref (G 22)])) : Nat × va_E) by rw [g4, g2, g22])
    | 5, _ => exact (show some ((q5, .inr (6, [.ref q1, .ref (x5.1.1.getD 0 0), .ref (x5.1.1.getD 1 0), .ref (x5.1.1.getD 2 0), .ref (x5.1.1.getD 3 0), .ref (x5.1.1.getD 4 0), .ref (x5.1.1.getD 5 0), .ref (x5.1.1.getD 6 0), .ref (x5.1.1.getD 7 0), .ref (x5.1.1.getD 8 0), .ref (x5.1.1.getD 9 0), .ref (x5.1.1.getD 10 0), .ref (x5.1.1.getD 11 0), .ref (x5.1.1.getD 12 0), .ref (x5.1.1.getD 13 0)])) : Nat × va_E) = some ((G 5, .inr (6, [.ref (G 2), .ref (G 24), .ref (G 25), .ref (G 26), .ref (G 27), .ref (G 28), .ref (G 29), .ref (G 30), .ref (G 31), .ref (G 32), .ref (G 33), .ref (G 34), .ref (G 35), .ref (G 36), .ref (G 37)])) : Nat × va_E) by rw [g5, g2, g24, g25, g26, g27, g28, g29, g30, g31, g32, g33, g34, g35, g36, g37])
    | 6, _ => exact (show some ((q6, .inr (7, [.ref (x6.1.getD 0 0), .ref (x6.1.getD 1 0), .ref (x6.1.getD 2 0), .ref (x6.1.getD 3 0), .ref (x6.1.getD 4 0), .ref (x6.1.getD 5 0), .ref (x6.1.getD 6 0), .ref (x6.1.getD 7 0), .ref (x6.1.getD 8 0), .ref (x6.1.getD 9 0)])) : Nat × va_E) = some ((G 6, .inr (7, [.ref (G 38), .ref (G 39), .ref (G 40), .ref (G 41), .ref (G 42), .ref (G 43), .ref (G 44), .ref (G 45), .ref (G 46), .ref (G 47)])) : Nat × va_E) by rw [g6, g38, g39, g40, g41, g42, g43, g44, g45, g46, g47])
    | 7, _ => exact (show some ((q7, .inr (8, [.ref q0, .ref q5, .ref q6, .ref (x7.1.getD 0 0), .ref (x7.1.getD 1 0)])) : Nat × va_E) = some ((G 7, .inr (8, [.ref (G 1), .ref (G 5), .ref (G 6), .ref (G 48), .ref (G 49)])) : Nat × va_E) by rw [g7, g1, g5, g6, g48, g49])
    | 8, _ => exact (show some ((q8, .inr (9, [.ref q1, .ref q5, .ref q6, .ref (x8.1.getD 0 0), .ref (x8.1.getD 1 0), .int 0])) : Nat × va_E) = some ((G 8, .inr (9, [.ref (G 2), .ref (G 5), .ref (G 6), .ref (G 50), .ref (G 51), .int 0])) : Nat × va_E) by rw [g8, g2, g5, g6, g50, g51])
    | 9, _ => exact (show some ((q9, .inr (10, [.ref q0, .ref q5, .ref q6, .ref (x9.1.getD 0 0), .ref (x9.1.getD 1 0), .int (-1)])) : Nat × va_E) = some ((G 9, .inr (10, [.ref (G 1), .ref (G 5), .ref (G 6), .ref (G 52), .ref (G 53), .int (-1)])) : Nat × va_E) by rw [g9, g1, g5, g6, g52, g53])
    | 10, _ => exact (show some ((x0.2.2, .inl (cA 1, 1024, .inr (.inl (fun _ => 0)))) : Nat × va_E) = some ((G 10, .inl (cA 1, 1024, .inr (.inl (fun _ => 0)))) : Nat × va_E) by rw [g10])
    | 11, _ => exact (show some (((x0.1.getD 0 0), .inr (0, [.ref (x0.2.1.getD 0 0), .int 0])) : Nat × va_E) = some ((G 11, .inr (0, [.ref (aa 0), .int 0])) : Nat × va_E) by rw [g11, b0])
    | 12, _ => exact (show some (((x1.1.getD 0 0), .inr (0, [.ref (x1.2.getD 0 0), .int 0])) : Nat × va_E) = some ((G 12, .inr (0, [.ref (aa 1), .int 0])) : Nat × va_E) by rw [g12, b1])
    | 13, _ => exact (show some (((x1.1.getD 1 0), .inr (0, [.ref (x1.2.getD 1 0), .int 0])) : Nat × va_E) = some ((G 13, .inr (0, [.ref (aa 2), .int 0])) : Nat × va_E) by rw [g13, b2])
    | 14, _ => exact (show some (((x1.1.getD 2 0), .inr (0, [.ref (x1.2.getD 2 0), .int 0])) : Nat × va_E) = some ((G 14, .inr (0, [.ref (aa 3), .int 0])) : Nat × va_E) by rw [g14, b3])
    | 15, _ => exact (show some (((x1.1.getD 3 0), .inr (0, [.ref (x1.2.getD 3 0), .int 0])) : Nat × va_E) = some ((G 15, .inr (0, [.ref (aa 4), .int 0])) : Nat × va_E) by rw [g15, b4])
    | 16, _ => exact (show some (((x1.1.getD 4 0), .inr (0, [.ref (x1.2.getD 4 0), .int 0])) : Nat × va_E) = some ((G 16, .inr (0, [.ref (aa 5), .int 0])) : Nat × va_E) by rw [g16, b5])
    | 17, _ => exact (show some (((x1.1.getD 5 0), .inr (0, [.ref (x1.2.getD 5 0), .int 0])) : Nat × va_E) = some ((G 17, .inr (0, [.ref (aa 6), .int 0])) : Nat × va_E) by rw [g17, b6])
    | 18, _ => exact (show some (((x1.1.getD 6 0), .inr (0, [.ref (x1.2.getD 6 0), .int 0])) : Nat × va_E) = some ((G 18, .inr (0, [.ref (aa 7), .int 0])) : Nat × va_E) by rw [g18, b7])
    | 19, _ => exact (show some (((x1.1.getD 7 0), .inr (0, [.ref (x1.2.getD 7 0), .int 0])) : Nat × va_E) = some ((G 19, .inr (0, [.ref (aa 8), .int 0])) : Nat × va_E) by rw [g19, b8])
    | 20, _ => exact (show some (((x1.1.getD 8 0), .inr (0, [.ref (x1.2.getD 8 0), .int 0])) : Nat × va_E) = some ((G 20, .inr (0, [.ref (aa 9), .int 0])) : Nat × va_E) by rw [g20, b9])
    | 21, _ => exact (show some ((x2.1.1, .inr (0, [.ref x2.1.2.1, .int (nI (List.length (List.replicate 128 (-1) : List Int32)))])) : Nat × va_E) = some ((G 21, .inr (0, [.ref (aa 10), .int (nI (List.length (List.replicate 128 (-1) : List Int32)))])) : Nat × va_E) by rw [g21, b10])
    | 22, _ => exact (show some (((x3.1.getD 0 0), .inr (0, [.ref (x3.2.getD 0 0), .int 0])) : Nat × va_E) = some ((G 22, .inr (0, [.ref (aa 11), .int 0])) : Nat × va_E) by rw [g22, b11])
    | 23, _ => exact (show some ((q4, .inr (0, [.ref x4, .int 0])) : Nat × va_E) = some ((G 23, .inr (0, [.ref (aa 12), .int 0])) : Nat × va_E) by rw [g23, b12])
    | 24, _ => exact (show some (((x5.1.1.getD 0 0), .inr (0, [.ref (x5.2.1.1 0), .int (nI (List.length ([0] : List Int32)))])) : Nat × va_E) = some ((G 24, .inr (0, [.ref (aa 13), .int (nI (List.length ([0] : List Int32)))])) : Nat × va_E) by rw [g24, b13])
    | 25, _ => exact (show some (((x5.1.1.getD 1 0), .inr (0, [.ref (x5.2.1.1 1), .int (nI (List.length ([0] : List Int32)))])) : Nat × va_E) = some ((G 25, .inr (0, [.ref (aa 14), .int (nI (List.length ([0] : List Int32)))])) : Nat × va_E) by rw [g25, b14])
    | 26, _ => exact (show some (((x5.1.1.getD 2 0), .inr (0, [.ref (x5.2.1.1 2), .int (nI (List.length ([-1] : List Int32)))])) : Nat × va_E) = some ((G 26, .inr (0, [.ref (aa 15), .int (nI (List.length ([-1] : List Int32)))])) : Nat × va_E) by rw [g26, b15])
    | 27, _ => exact (show some (((x5.1.1.getD 3 0), .inr (0, [.ref (x5.2.1.1 3), .int (nI (List.length ([-1] : List Int32)))])) : Nat × va_E) = some ((G 27, .inr (0, [.ref (aa 16), .int (nI (List.length ([-1] : List Int32)))])) : Nat × va_E) by rw [g27, b16])
    | 28, _ => exact (show some (((x5.1.1.getD 4 0), .inr (0, [.ref (x5.2.1.1 4), .int (nI (List.length ([-1] : List Int32)))])) : Nat × va_E) = some ((G 28, .inr (0, [.ref (aa 17), .int (nI (List.length ([-1] : List Int32)))])) : Nat × va_E) by rw [g28, b17])
    | 29, _ => exact (show some (((x5.1.1.getD 5 0), .inr (0, [.ref (x5.1.2.getD 5 0), .int 0])) : Nat × va_E) = some ((G 29, .inr (0, [.ref (aa 18), .int 0])) : Nat × va_E) by rw [g29, b18])
    | 30, _ => exact (show some (((x5.1.1.getD 6 0), .inr (0, [.ref (x5.1.2.getD 6 0), .int 0])) : Nat × va_E) = some ((G 30, .inr (0, [.ref (aa 19), .int 0])) : Nat × va_E) by rw [g30, b19])
    | 31, _ => exact (show some (((x5.1.1.getD 7 0), .inr (0, [.ref (x5.1.2.getD 7 0), .int 0])) : Nat × va_E) = some ((G 31, .inr (0, [.ref (aa 20), .int 0])) : Nat × va_E) by rw [g31, b20])
    | 32, _ => exact (show some (((x5.1.1.getD 8 0), .inr (0, [.ref (x5.1.2.getD 8 0), .int 0])) : Nat × va_E) = some ((G 32, .inr (0, [.ref (aa 21), .int 0])) : Nat × va_E) by rw [g32, b21])
    | 33, _ => exact (show some (((x5.1.1.getD 9 0), .inr (0, [.ref (x5.1.2.getD 9 0), .int 0])) : Nat × va_E) = some ((G 33, .inr (0, [.ref (aa 22), .int 0])) : Nat × va_E) by rw [g33, b22])
    | 34, _ => exact (show some (((x5.1.1.getD 10 0), .inr (0, [.ref (x5.1.2.getD 10 0), .int 0])) : Nat × va_E) = some ((G 34, .inr (0, [.ref (aa 23), .int 0])) : Nat × va_E) by rw [g34, b23])
    | 35, _ => exact (show some (((x5.1.1.getD 11 0), .inr (0, [.ref (x5.1.2.getD 11 0), .int 0])) : Nat × va_E) = some ((G 35, .inr (0, [.ref (aa 24), .int 0])) : Nat × va_E) by rw [g35, b24])
    | 36, _ => exact (show some (((x5.1.1.getD 12 0), .inr (0, [.ref (x5.1.2.getD 12 0), .int 0])) : Nat × va_E) = some ((G 36, .inr (0, [.ref (aa 25), .int 0])) : Nat × va_E) by rw [g36, b25])
    | 37, _ => exact (show some (((x5.1.1.getD 13 0), .inr (0, [.ref (x5.1.2.getD 13 0), .int 0])) : Nat × va_E) = some ((G 37, .inr (0, [.ref (aa 26), .int 0])) : Nat × va_E) by rw [g37, b26])
    | 38, _ => exact (show some (((x6.1.getD 0 0), .inr (0, [.ref (x6.2.getD 0 0), .int 0])) : Nat × va_E) = some ((G 38, .inr (0, [.ref (aa 27), .int 0])) : Nat × va_E) by rw [g38, b27])
    | 39, _ => exact (show some (((x6.1.getD 1 0), .inr (0, [.ref (x6.2.getD 1 0), .int 0])) : Nat × va_E) = some ((G 39, .inr (0, [.ref (aa 28), .int 0])) : Nat × va_E) by rw [g39, b28])
    | 40, _ => exact (show some (((x6.1.getD 2 0), .inr (0, [.ref (x6.2.getD 2 0), .int 0])) : Nat × va_E) = some ((G 40, .inr (0, [.ref (aa 29), .int 0])) : Nat × va_E) by rw [g40, b29])
    | 41, _ => exact (show some (((x6.1.getD 3 0), .inr (0, [.ref (x6.2.getD 3 0), .int 0])) : Nat × va_E) = some ((G 41, .inr (0, [.ref (aa 30), .int 0])) : Nat × va_E) by rw [g41, b30])
    | 42, _ => exact (show some (((x6.1.getD 4 0), .inr (0, [.ref (x6.2.getD 4 0), .int 0])) : Nat × va_E) = some ((G 42, .inr (0, [.ref (aa 31), .int 0])) : Nat × va_E) by rw [g42, b31])
    | 43, _ => exact (show some (((x6.1.getD 5 0), .inr (0, [.ref (x6.2.getD 5 0), .int 0])) : Nat × va_E) = some ((G 43, .inr (0, [.ref (aa 32), .int 0])) : Nat × va_E) by rw [g43, b32])
    | 44, _ => exact (show some (((x6.1.getD 6 0), .inr (0, [.ref (x6.2.getD 6 0), .int 0])) : Nat × va_E) = some ((G 44, .inr (0, [.ref (aa 33), .int 0])) : Nat × va_E) by rw [g44, b33])
    | 45, _ => exact (show some (((x6.1.getD 7 0), .inr (0, [.ref (x6.2.getD 7 0), .int 0])) : Nat × va_E) = some ((G 45, .inr (0, [.ref (aa 34), .int 0])) : Nat × va_E) by rw [g45, b34])
    | 46, _ => exact (show some (((x6.1.getD 8 0), .inr (0, [.ref (x6.2.getD 8 0), .int 0])) : Nat × va_E) = some ((G 46, .inr (0, [.ref (aa 35), .int 0])) : Nat × va_E) by rw [g46, b35])
    | 47, _ => exact (show some (((x6.1.getD 9 0), .inr (0, [.ref (x6.2.getD 9 0), .int 0])) : Nat × va_E) = some ((G 47, .inr (0, [.ref (aa 36), .int 0])) : Nat × va_E) by rw [g47, b36])
    | 48, _ => exact (show some (((x7.1.getD 0 0), .inr (0, [.ref (x7.2.getD 0 0), .int 0])) : Nat × va_E) = some ((G 48, .inr (0, [.ref (aa 37), .int 0])) : Nat × va_E) by rw [g48, b37])
    | 49, _ => exact (show some (((x7.1.getD 1 0), .inr (0, [.ref (x7.2.getD 1 0), .int 0])) : Nat × va_E) = some ((G 49, .inr (0, [.ref (aa 38), .int 0])) : Nat × va_E) by rw [g49, b38])
    | 50, _ => exact (show some (((x8.1.getD 0 0), .inr (0, [.ref (x8.2.getD 0 0), .int 0])) : Nat × va_E) = some ((G 50, .inr (0, [.ref (aa 39), .int 0])) : Nat × va_E) by rw [g50, b39])
    | 51, _ => exact (show some (((x8.1.getD 1 0), .inr (0, [.ref (x8.2.getD 1 0), .int 0])) : Nat × va_E) = some ((G 51, .inr (0, [.ref (aa 40), .int 0])) : Nat × va_E) by rw [g51, b40])
    | 52, _ => exact (show some (((x9.1.getD 0 0), .inr (0, [.ref (x9.2.getD 0 0), .int 0])) : Nat × va_E) = some ((G 52, .inr (0, [.ref (aa 41), .int 0])) : Nat × va_E) by rw [g52, b41])
    | 53, _ => exact (show some (((x9.1.getD 1 0), .inr (0, [.ref (x9.2.getD 1 0), .int 0])) : Nat × va_E) = some ((G 53, .inr (0, [.ref (aa 42), .int 0])) : Nat × va_E) by rw [g53, b42])
    | 54, _ => exact (show some (((x0.2.1.getD 0 0), .inl (cA 0, 16, .inl (fun _ => 0))) : Nat × va_E) = some ((aa 0, .inl (cA 0, 16, .inl (fun _ => 0))) : Nat × va_E) by rw [b0])
    | 55, _ => exact (show some (((x1.2.getD 0 0), .inl (cA 0, 16, .inl (fun _ => 0))) : Nat × va_E) = some ((aa 1, .inl (cA 0, 16, .inl (fun _ => 0))) : Nat × va_E) by rw [b1])
    | 56, _ => exact (show some (((x1.2.getD 1 0), .inl (cA 0, 16, .inl (fun _ => 0))) : Nat × va_E) = some ((aa 2, .inl (cA 0, 16, .inl (fun _ => 0))) : Nat × va_E) by rw [b2])
    | 57, _ => exact (show some (((x1.2.getD 2 0), .inl (cA 0, 16, .inl (fun _ => 0))) : Nat × va_E) = some ((aa 3, .inl (cA 0, 16, .inl (fun _ => 0))) : Nat × va_E) by rw [b3])
    | 58, _ => exact (show some (((x1.2.getD 3 0), .inl (cA 0, 16, .inl (fun _ => 0))) : Nat × va_E) = some ((aa 4, .inl (cA 0, 16, .inl (fun _ => 0))) : Nat × va_E) by rw [b4])
    | 59, _ => exact (show some (((x1.2.getD 4 0), .inl (cA 0, 16, .inl (fun _ => 0))) : Nat × va_E) = some ((aa 5, .inl (cA 0, 16, .inl (fun _ => 0))) : Nat × va_E) by rw [b5])
    | 60, _ => exact (show some (((x1.2.getD 5 0), .inl (cA 0, 16, .inl (fun _ => 0))) : Nat × va_E) = some ((aa 6, .inl (cA 0, 16, .inl (fun _ => 0))) : Nat × va_E) by rw [b6])
    | 61, _ => exact (show some (((x1.2.getD 6 0), .inl (cA 0, 16, .inl (fun _ => 0))) : Nat × va_E) = some ((aa 7, .inl (cA 0, 16, .inl (fun _ => 0))) : Nat × va_E) by rw [b7])
    | 62, _ => exact (show some (((x1.2.getD 7 0), .inl (cA 0, 16, .inl (fun _ => 0))) : Nat × va_E) = some ((aa 8, .inl (cA 0, 16, .inl (fun _ => 0))) : Nat × va_E) by rw [b8])
    | 63, _ => exact (show some (((x1.2.getD 8 0), .inl (cA 0, 16, .inl (fun _ => 0))) : Nat × va_E) = some ((aa 9, .inl (cA 0, 16, .inl (fun _ => 0))) : Nat × va_E) by rw [b9])
    | 64, _ => exact (show some ((x2.1.2.1, .inl (cA 0, (16 * 2 ^ 3), .inl x2.1.2.2)) : Nat × va_E) = some ((aa 10, .inl (cA 0, (16 * 2 ^ 3), .inl x2.1.2.2)) : Nat × va_E) by rw [b10])
    | 65, _ => exact (show some (((x3.2.getD 0 0), .inl (cA 0, 16, .inl (fun _ => 0))) : Nat × va_E) = some ((aa 11, .inl (cA 0, 16, .inl (fun _ => 0))) : Nat × va_E) by rw [b11])
    | 66, _ => exact (show some ((x4, .inl (cA 0, 16, .inl (fun _ => 0))) : Nat × va_E) = some ((aa 12, .inl (cA 0, 16, .inl (fun _ => 0))) : Nat × va_E) by rw [b12])
    | 67, _ => exact (show some (((x5.2.1.1 0), .inl (cA 0, (16 * 2 ^ 0), .inl (x5.2.1.2 0))) : Nat × va_E) = some ((aa 13, .inl (cA 0, (16 * 2 ^ 0), .inl (x5.2.1.2 0))) : Nat × va_E) by rw [b13])
    | 68, _ => exact (show some (((x5.2.1.1 1), .inl (cA 0, (16 * 2 ^ 0), .inl (x5.2.1.2 1))) : Nat × va_E) = some ((aa 14, .inl (cA 0, (16 * 2 ^ 0), .inl (x5.2.1.2 1))) : Nat × va_E) by rw [b14])
    | 69, _ => exact (show some (((x5.2.1.1 2), .inl (cA 0, (16 * 2 ^ 0), .inl (x5.2.1.2 2))) : Nat × va_E) = some ((aa 15, .inl (cA 0, (16 * 2 ^ 0), .inl (x5.2.1.2 2))) : Nat × va_E) by rw [b15])
    | 70, _ => exact (show some (((x5.2.1.1 3), .inl (cA 0, (16 * 2 ^ 0), .inl (x5.2.1.2 3))) : Nat × va_E) = some ((aa 16, .inl (cA 0, (16 * 2 ^ 0), .inl (x5.2.1.2 3))) : Nat × va_E) by rw [b16])
    | 71, _ => exact (show some (((x5.2.1.1 4), .inl (cA 0, (16 * 2 ^ 0), .inl (x5.2.1.2 4))) : Nat × va_E) = some ((aa 17, .inl (cA 0, (16 * 2 ^ 0), .inl (x5.2.1.2 4))) : Nat × va_E) by rw [b17])
    | 72, _ => exact (show some (((x5.1.2.getD 5 0), .inl (cA 0, 16, .inl (fun _ => 0))) : Nat × va_E) = some ((aa 18, .inl (cA 0, 16, .inl (fun _ => 0))) : Nat × va_E) by rw [b18])
    | 73, _ => exact (show some (((x5.1.2.getD 6 0), .inl (cA 0, 16, .inl (fun _ => 0))) : Nat × va_E) = some ((aa 19, .inl (cA 0, 16, .inl (fun _ => 0))) : Nat × va_E) by rw [b19])
    | 74, _ => exact (show some (((x5.1.2.getD 7 0), .inl (cA 0, 16, .inl (fun _ => 0))) : Nat × va_E) = some ((aa 20, .inl (cA 0, 16, .inl (fun _ => 0))) : Nat × va_E) by rw [b20])
    | 75, _ => exact (show some (((x5.1.2.getD 8 0), .inl (cA 0, 16, .inl (fun _ => 0))) : Nat × va_E) = some ((aa 21, .inl (cA 0, 16, .inl (fun _ => 0))) : Nat × va_E) by rw [b21])
    | 76, _ => exact (show some (((x5.1.2.getD 9 0), .inl (cA 0, 16, .inl (fun _ => 0))) : Nat × va_E) = some ((aa 22, .inl (cA 0, 16, .inl (fun _ => 0))) : Nat × va_E) by rw [b22])
    | 77, _ => exact (show some (((x5.1.2.getD 10 0), .inl (cA 0, 16, .inl (fun _ => 0))) : Nat × va_E) = some ((aa 23, .inl (cA 0, 16, .inl (fun _ => 0))) : Nat × va_E) by rw [b23])
    | 78, _ => exact (show some (((x5.1.2.getD 11 0), .inl (cA 0, 16, .inl (fun _ => 0))) : Nat × va_E) = some ((aa 24, .inl (cA 0, 16, .inl (fun _ => 0))) : Nat × va_E) by rw [b24])
    | 79, _ => exact (show some (((x5.1.2.getD 12 0), .inl (cA 0, 16, .inl (fun _ => 0))) : Nat × va_E) = some ((aa 25, .inl (cA 0, 16, .inl (fun _ => 0))) : Nat × va_E) by rw [b25])
    | 80, _ => exact (show some (((x5.1.2.getD 13 0), .inl (cA 0, 16, .inl (fun _ => 0))) : Nat × va_E) = some ((aa 26, .inl (cA 0, 16, .inl (fun _ => 0))) : Nat × va_E) by rw [b26])
    | 81, _ => exact (show some (((x6.2.getD 0 0), .inl (cA 0, 16, .inl (fun _ => 0))) : Nat × va_E) = some ((aa 27, .inl (cA 0, 16, .inl (fun _ => 0))) : Nat × va_E) by rw [b27])
    | 82, _ => exact (show some (((x6.2.getD 1 0), .inl (cA 0, 16, .inl (fun _ => 0))) : Nat × va_E) = some ((aa 28, .inl (cA 0, 16, .inl (fun _ => 0))) : Nat × va_E) by rw [b28])
    | 83, _ => exact (show some (((x6.2.getD 2 0), .inl (cA 0, 16, .inl (fun _ => 0))) : Nat × va_E) = some ((aa 29, .inl (cA 0, 16, .inl (fun _ => 0))) : Nat × va_E) by rw [b29])
    | 84, _ => exact (show some (((x6.2.getD 3 0), .inl (cA 0, 16, .inl (fun _ => 0))) : Nat × va_E) = some ((aa 30, .inl (cA 0, 16, .inl (fun _ => 0))) : Nat × va_E) by rw [b30])
    | 85, _ => exact (show some (((x6.2.getD 4 0), .inl (cA 0, 16, .inl (fun _ => 0))) : Nat × va_E) = some ((aa 31, .inl (cA 0, 16, .inl (fun _ => 0))) : Nat × va_E) by rw [b31])
    | 86, _ => exact (show some (((x6.2.getD 5 0), .inl (cA 0, 16, .inl (fun _ => 0))) : Nat × va_E) = some ((aa 32, .inl (cA 0, 16, .inl (fun _ => 0))) : Nat × va_E) by rw [b32])
    | 87, _ => exact (show some (((x6.2.getD 6 0), .inl (cA 0, 16, .inl (fun _ => 0))) : Nat × va_E) = some ((aa 33, .inl (cA 0, 16, .inl (fun _ => 0))) : Nat × va_E) by rw [b33])
    | 88, _ => exact (show some (((x6.2.getD 7 0), .inl (cA 0, 16, .inl (fun _ => 0))) : Nat × va_E) = some ((aa 34, .inl (cA 0, 16, .inl (fun _ => 0))) : Nat × va_E) by rw [b34])
    | 89, _ => exact (show some (((x6.2.getD 8 0), .inl (cA 0, 16, .inl (fun _ => 0))) : Nat × va_E) = some ((aa 35, .inl (cA 0, 16, .inl (fun _ => 0))) : Nat × va_E) by rw [b35])
    | 90, _ => exact (show some (((x6.2.getD 9 0), .inl (cA 0, 16, .inl (fun _ => 0))) : Nat × va_E) = some ((aa 36, .inl (cA 0, 16, .inl (fun _ => 0))) : Nat × va_E) by rw [b36])
    | 91, _ => exact (show some (((x7.2.getD 0 0), .inl (cA 0, 16, .inl (fun _ => 0))) : Nat × va_E) = some ((aa 37, .inl (cA 0, 16, .inl (fun _ => 0))) : Nat × va_E) by rw [b37])
    | 92, _ => exact (show some (((x7.2.getD 1 0), .inl (cA 0, 16, .inl (fun _ => 0))) : Nat × va_E) = some ((aa 38, .inl (cA 0, 16, .inl (fun _ => 0))) : Nat × va_E) by rw [b38])
    | 93, _ => exact (show some (((x8.2.getD 0 0), .inl (cA 0, 16, .inl (fun _ => 0))) : Nat × va_E) = some ((aa 39, .inl (cA 0, 16, .inl (fun _ => 0))) : Nat × va_E) by rw [b39])
    | 94, _ => exact (show some (((x8.2.getD 1 0), .inl (cA 0, 16, .inl (fun _ => 0))) : Nat × va_E) = some ((aa 40, .inl (cA 0, 16, .inl (fun _ => 0))) : Nat × va_E) by rw [b40])
    | 95, _ => exact (show some (((x9.2.getD 0 0), .inl (cA 0, 16, .inl (fun _ => 0))) : Nat × va_E) = some ((aa 41, .inl (cA 0, 16, .inl (fun _ => 0))) : Nat × va_E) by rw [b41])
    | 96, _ => exact (show some (((x9.2.getD 1 0), .inl (cA 0, 16, .inl (fun _ => 0))) : Nat × va_E) = some ((aa 42, .inl (cA 0, 16, .inl (fun _ => 0))) : Nat × va_E) by rw [b42])
    | n + 97, h => exact absurd h (by omega)
  refine ⟨fun i hi => hP _ _ (hE i hi), fun i j hi hj e => kpi_inj i hi j hj (hD.1 _ _ _ _ (hE i hi) (hE j hj) e), fun i hi => hD.2 _ _ (hE i hi), fun k hk => ?_⟩
  by_cases c10 : k = 10
  · subst c10
    refine ⟨by show (List.replicate 128 (-1 : Int32)).length ≤ 16 * 2 ^ 3; rw [List.length_replicate]; decide, by show 16 * 2 ^ 3 ≤ 4194304; decide, fun i hi => ?_⟩
    have hi : i < (List.replicate 128 (-1 : Int32)).length := hi
    rw [List.length_replicate] at hi
    show x2.1.2.2 i = (List.replicate 128 (-1)).getD i 0
    rw [x2.2 i hi, zgetD_rep hi]
  by_cases c13 : k = 13
  · subst c13
    refine ⟨by show 1 ≤ 16 * 2 ^ 0; decide, by show 16 * 2 ^ 0 ≤ 4194304; decide, fun i hi => ?_⟩
    have hi : i < 1 := hi
    have e : i = 0 := by omega
    subst e
    exact x5.2.2.1
  by_cases c14 : k = 14
  · subst c14
    refine ⟨by show 1 ≤ 16 * 2 ^ 0; decide, by show 16 * 2 ^ 0 ≤ 4194304; decide, fun i hi => ?_⟩
    have hi : i < 1 := hi
    have e : i = 0 := by omega
    subst e
    exact x5.2.2.2.1
  by_cases c15 : k = 15
  · subst c15
    refine ⟨by show 1 ≤ 16 * 2 ^ 0; decide, by show 16 * 2 ^ 0 ≤ 4194304; decide, fun i hi => ?_⟩
    have hi : i < 1 := hi
    have e : i = 0 := by omega
    subst e
    exact x5.2.2.2.2.1
  by_cases c16 : k = 16
  · subst c16
    refine ⟨by show 1 ≤ 16 * 2 ^ 0; decide, by show 16 * 2 ^ 0 ≤ 4194304; decide, fun i hi => ?_⟩
    have hi : i < 1 := hi
    have e : i = 0 := by omega
    subst e
    exact x5.2.2.2.2.2.1
  by_cases c17 : k = 17
  · subst c17
    refine ⟨by show 1 ≤ 16 * 2 ^ 0; decide, by show 16 * 2 ^ 0 ≤ 4194304; decide, fun i hi => ?_⟩
    have hi : i < 1 := hi
    have e : i = 0 := by omega
    subst e
    exact x5.2.2.2.2.2.2
  have e1 : zS0.1 k = [] := by simp [zS0, c10, c13, c14, c15, c16, c17]
  have e2 : zcap zS0 k = 16 := by simp [zcap, zS0, c10]
  rw [e1, e2]
  exact ⟨Nat.zero_le _, by decide, fun i hi => absurd hi (Nat.not_lt_zero i)⟩
end KI
