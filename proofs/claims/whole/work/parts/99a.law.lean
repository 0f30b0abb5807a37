def R_law : String := "RuleTreeLaw"
def lw_P (b : Addr) (xs : List Int32) (args : Array Value) (s : State) : Prop := args = #[.ref b] ∧ s.IntsAt b xs ∧ xs.length ≤ 2048 ∧ (Jvm.Cond.and given_1 narrow_1).before args s = true
def lw_Q (_ : Array Value) (s : State) (o : Outcome) (t : State) : Prop := o = .returned (some (.int 1)) ∧ Framed s o t [] 600000 7302250
def lw_Z (below : List Frame) (a : Array Value) (s : State) : State → Prop := fun t => ∃ o, t.status = .running ∧ Ended t below o ∧ lw_Q a s o t
/-- the law's own end, with 1 on the stack, nothing written that was there before, its room as the claim has it -/
theorem lw_ret {p : Program} {l : Launch} {e : Env} {s : State} {m : MethodId} {below : List Frame} {meth : Method} {c : Code} {b : Nat} (hx : p.tables.exec = Jvm.exec) (hb : c.code = code) (hr : meth.sig.returnType = ret) (hlocks : meth.locks = false) {pc : Nat} {H : Heap} {ls : Array Slot} (hdg : decode code pc = .ok (.ireturn, 1)) : W p l e room_1 s m #[Value.ref b] below meth c H [] 600000 7302250 (lw_Z below #[Value.ref b] s) (F0 m pc ls [.int 1]) := by
  intro T hT X
  obtain ⟨fs, hret, hrun, hended, hW, hframe⟩ := X.leave (v := some (.int 1)) (hlocks := hlocks) (fun h => by rw [hr] at h; cases h)
  have hmeth' : T.vm.method? m = some meth := X.method'
  refine ⟨T.setFrames fs, ?_, .returned (some (.int 1)), hrun, hended, rfl, ⟨_, rfl⟩, hW, hframe⟩
  jvm_step X.here [X.here.top, hx, hb, hdg, hmeth', hr, ret, narrow_b1]
  (try refine ⟨rfl, ?_⟩); (try refine ⟨rfl, ?_⟩)
  first | (intro acts; rw [hret _ acts rfl rfl rfl]) | rw [hret _ _ rfl rfl rfl]
  exact Steps.refl _
/-- what holds at the law's entry: the machine, the code, the tables' words (any of lw_tbl by 'hts w (by decide +kernel)'), the script of L ints xs at the cell b, what the Statement gives of the start (any of its parts by flat_of_before) -/
def lw_At (p : Program) (s : State) (m : MethodId) (meth : Method) (c : Code) (b L : Nat) (xs : Nat → Int32) : Prop :=
  p.tables.exec = Jvm.exec ∧ c.code = code ∧ meth.sig.returnType = ret ∧ c.maxLocals = 4 ∧ s.vm.findClass R_law = some m.cls ∧ (∀ w ∈ lw_tbl, w.before #[Value.ref b] s = true) ∧ va_X b L xs s s.heap ∧ b < s.heap.size ∧ meth.locks = false ∧ (Jvm.Cond.and given_1 narrow_1).before #[Value.ref b] s = true
-- THE LAW: both worlds in one heap
def lw_T0 : List zTr := [(124, .aload_n 1, 1, 0, 0), (125, .aload_n 0, 1, 0, 0), (126, .iload_n 3, 1, 0, 0), (127, .iconst 1, 1, 0, 1), (128, .iadd, 1, 0, 0), (129, .iaload, 1, 0, 0), (130, .aload_n 0, 1, 0, 0), (131, .iload_n 3, 1, 0, 0), (132, .iconst 2, 1, 0, 2), (133, .iadd, 1, 0, 0), (134, .iaload, 1, 0, 0), (135, .i2l, 1, 0, 0), (136, .bipush 32, 2, 0, 32), (138, .lshl, 1, 0, 0), (139, .aload_n 0, 1, 0, 0), (140, .iload_n 3, 1, 0, 0), (141, .iconst 3, 1, 0, 3), (142, .iadd, 1, 0, 0), (143, .iaload, 1, 0, 0), (144, .i2l, 1, 0, 0), (145, .ldc2_w 13, 3, 0, 0), (148, .land, 1, 0, 0), (149, .lor, 1, 0, 0), (150, .invokevirtual 15, 3, 0, 0), (153, .aload_n 2, 1, 0, 0), (154, .aload_n 0, 1, 0, 0), (155, .iload_n 3, 1, 0, 0), (156, .iconst 1, 1, 0, 1), (157, .iadd, 1, 0, 0), (158, .iaload, 1, 0, 0), (159, .aload_n 0, 1, 0, 0), (160, .iload_n 3, 1, 0, 0), (161, .iconst 2, 1, 0, 2), (162, .iadd, 1, 0, 0), (163, .iaload, 1, 0, 0), (164, .i2l, 1, 0, 0), (165, .bipush 32, 2, 0, 32), (167, .lshl, 1, 0, 0), (168, .aload_n 0, 1, 0, 0), (169, .iload_n 3, 1, 0, 0), (170, .iconst 3, 1, 0, 3), (171, .iadd, 1, 0, 0), (172, .iaload, 1, 0, 0), (173, .i2l, 1, 0, 0), (174, .ldc2_w 13, 3, 0, 0), (177, .land, 1, 0, 0), (178, .lor, 1, 0, 0), (179, .invokevirtual 19, 3, 0, 0), (182, .if_icmp .eq 459, 3, 641, 0), (185, .iconst 0, 1, 0, 0), (186, .ireturn, 1, 0, 0)]
theorem lw_Tk0 : zTok code 4 lw_T0 := by decide +kernel
def lw_T1 : List zTr := [(187, .aload_n 1, 1, 0, 0), (188, .invokevirtual 20, 3, 0, 0), (191, .aload_n 2, 1, 0, 0), (192, .invokevirtual 24, 3, 0, 0), (195, .if_icmp .eq 446, 3, 641, 0), (198, .iconst 0, 1, 0, 0), (199, .ireturn, 1, 0, 0)]
theorem lw_Tk1 : zTok code 4 lw_T1 := by decide +kernel
def lw_T2 : List zTr := [(200, .aload_n 1, 1, 0, 0), (201, .aload_n 0, 1, 0, 0), (202, .iload_n 3, 1, 0, 0), (203, .iconst 1, 1, 0, 1), (204, .iadd, 1, 0, 0), (205, .iaload, 1, 0, 0), (206, .aload_n 0, 1, 0, 0), (207, .iload_n 3, 1, 0, 0), (208, .iconst 2, 1, 0, 2), (209, .iadd, 1, 0, 0), (210, .iaload, 1, 0, 0), (211, .invokevirtual 25, 3, 0, 0), (214, .aload_n 2, 1, 0, 0), (215, .aload_n 0, 1, 0, 0), (216, .iload_n 3, 1, 0, 0), (217, .iconst 1, 1, 0, 1), (218, .iadd, 1, 0, 0), (219, .iaload, 1, 0, 0), (220, .aload_n 0, 1, 0, 0), (221, .iload_n 3, 1, 0, 0), (222, .iconst 2, 1, 0, 2), (223, .iadd, 1, 0, 0), (224, .iaload, 1, 0, 0), (225, .invokevirtual 29, 3, 0, 0), (228, .if_icmp .eq 413, 3, 641, 0), (231, .iconst 0, 1, 0, 0), (232, .ireturn, 1, 0, 0)]
theorem lw_Tk2 : zTok code 4 lw_T2 := by decide +kernel
def lw_T3 : List zTr := [(233, .aload_n 1, 1, 0, 0), (234, .aload_n 0, 1, 0, 0), (235, .iload_n 3, 1, 0, 0), (236, .iconst 1, 1, 0, 1), (237, .iadd, 1, 0, 0), (238, .iaload, 1, 0, 0), (239, .aload_n 0, 1, 0, 0), (240, .iload_n 3, 1, 0, 0), (241, .iconst 2, 1, 0, 2), (242, .iadd, 1, 0, 0), (243, .iaload, 1, 0, 0), (244, .aload_n 0, 1, 0, 0), (245, .iload_n 3, 1, 0, 0), (246, .iconst 3, 1, 0, 3), (247, .iadd, 1, 0, 0), (248, .iaload, 1, 0, 0), (249, .invokevirtual 30, 3, 0, 0), (252, .aload_n 2, 1, 0, 0), (253, .aload_n 0, 1, 0, 0), (254, .iload_n 3, 1, 0, 0), (255, .iconst 1, 1, 0, 1), (256, .iadd, 1, 0, 0), (257, .iaload, 1, 0, 0), (258, .aload_n 0, 1, 0, 0), (259, .iload_n 3, 1, 0, 0), (260, .iconst 2, 1, 0, 2), (261, .iadd, 1, 0, 0), (262, .iaload, 1, 0, 0), (263, .aload_n 0, 1, 0, 0), (264, .iload_n 3, 1, 0, 0), (265, .iconst 3, 1, 0, 3), (266, .iadd, 1, 0, 0), (267, .iaload, 1, 0, 0), (268, .invokevirtual 34, 3, 0, 0), (271, .if_icmp .eq 370, 3, 641, 0), (274, .iconst 0, 1, 0, 0), (275, .ireturn, 1, 0, 0)]
theorem lw_Tk3 : zTok code 4 lw_T3 := by decide +kernel
def lw_T4 : List zTr := [(276, .aload_n 1, 1, 0, 0), (277, .aload_n 0, 1, 0, 0), (278, .iload_n 3, 1, 0, 0), (279, .iconst 1, 1, 0, 1), (280, .iadd, 1, 0, 0), (281, .iaload, 1, 0, 0), (282, .aload_n 0, 1, 0, 0), (283, .iload_n 3, 1, 0, 0), (284, .iconst 2, 1, 0, 2), (285, .iadd, 1, 0, 0), (286, .iaload, 1, 0, 0), (287, .invokevirtual 35, 3, 0, 0), (290, .aload_n 2, 1, 0, 0), (291, .aload_n 0, 1, 0, 0), (292, .iload_n 3, 1, 0, 0), (293, .iconst 1, 1, 0, 1), (294, .iadd, 1, 0, 0), (295, .iaload, 1, 0, 0), (296, .aload_n 0, 1, 0, 0), (297, .iload_n 3, 1, 0, 0), (298, .iconst 2, 1, 0, 2), (299, .iadd, 1, 0, 0), (300, .iaload, 1, 0, 0), (301, .invokevirtual 38, 3, 0, 0), (304, .if_icmp .eq 337, 3, 641, 0), (307, .iconst 0, 1, 0, 0), (308, .ireturn, 1, 0, 0)]
theorem lw_Tk4 : zTok code 4 lw_T4 := by decide +kernel
def lw_T5 : List zTr := [(309, .aload_n 1, 1, 0, 0), (310, .aload_n 0, 1, 0, 0), (311, .iload_n 3, 1, 0, 0), (312, .iconst 1, 1, 0, 1), (313, .iadd, 1, 0, 0), (314, .iaload, 1, 0, 0), (315, .aload_n 0, 1, 0, 0), (316, .iload_n 3, 1, 0, 0), (317, .iconst 2, 1, 0, 2), (318, .iadd, 1, 0, 0), (319, .iaload, 1, 0, 0), (320, .invokevirtual 39, 3, 0, 0), (323, .aload_n 2, 1, 0, 0), (324, .aload_n 0, 1, 0, 0), (325, .iload_n 3, 1, 0, 0), (326, .iconst 1, 1, 0, 1), (327, .iadd, 1, 0, 0), (328, .iaload, 1, 0, 0), (329, .aload_n 0, 1, 0, 0), (330, .iload_n 3, 1, 0, 0), (331, .iconst 2, 1, 0, 2), (332, .iadd, 1, 0, 0), (333, .iaload, 1, 0, 0), (334, .invokevirtual 42, 3, 0, 0), (337, .if_icmp .eq 304, 3, 641, 0), (340, .iconst 0, 1, 0, 0), (341, .ireturn, 1, 0, 0)]
theorem lw_Tk5 : zTok code 4 lw_T5 := by decide +kernel
def lw_T6 : List zTr := [(342, .aload_n 1, 1, 0, 0), (343, .aload_n 0, 1, 0, 0), (344, .iload_n 3, 1, 0, 0), (345, .iconst 1, 1, 0, 1), (346, .iadd, 1, 0, 0), (347, .iaload, 1, 0, 0), (348, .invokevirtual 43, 3, 0, 0), (351, .aload_n 2, 1, 0, 0), (352, .aload_n 0, 1, 0, 0), (353, .iload_n 3, 1, 0, 0), (354, .iconst 1, 1, 0, 1), (355, .iadd, 1, 0, 0), (356, .iaload, 1, 0, 0), (357, .invokevirtual 47, 3, 0, 0), (360, .if_icmp .eq 281, 3, 641, 0), (363, .iconst 0, 1, 0, 0), (364, .ireturn, 1, 0, 0)]
theorem lw_Tk6 : zTok code 4 lw_T6 := by decide +kernel
def lw_T7 : List zTr := [(365, .aload_n 1, 1, 0, 0), (366, .aload_n 0, 1, 0, 0), (367, .iload_n 3, 1, 0, 0), (368, .iconst 1, 1, 0, 1), (369, .iadd, 1, 0, 0), (370, .iaload, 1, 0, 0), (371, .invokevirtual 48, 3, 0, 0), (374, .aload_n 2, 1, 0, 0), (375, .aload_n 0, 1, 0, 0), (376, .iload_n 3, 1, 0, 0), (377, .iconst 1, 1, 0, 1), (378, .iadd, 1, 0, 0), (379, .iaload, 1, 0, 0), (380, .invokevirtual 51, 3, 0, 0), (383, .if_icmp .eq 258, 3, 641, 0), (386, .iconst 0, 1, 0, 0), (387, .ireturn, 1, 0, 0)]
theorem lw_Tk7 : zTok code 4 lw_T7 := by decide +kernel
def lw_T8 : List zTr := [(388, .aload_n 1, 1, 0, 0), (389, .invokevirtual 52, 3, 0, 0), (392, .aload_n 2, 1, 0, 0), (393, .invokevirtual 55, 3, 0, 0), (396, .if_icmp .eq 245, 3, 641, 0), (399, .iconst 0, 1, 0, 0), (400, .ireturn, 1, 0, 0)]
theorem lw_Tk8 : zTok code 4 lw_T8 := by decide +kernel
def lw_T9 : List zTr := [(401, .aload_n 1, 1, 0, 0), (402, .invokevirtual 56, 3, 0, 0), (405, .aload_n 2, 1, 0, 0), (406, .invokevirtual 59, 3, 0, 0), (409, .if_icmp .eq 232, 3, 641, 0), (412, .iconst 0, 1, 0, 0), (413, .ireturn, 1, 0, 0)]
theorem lw_Tk9 : zTok code 4 lw_T9 := by decide +kernel
def lw_T10 : List zTr := [(414, .aload_n 1, 1, 0, 0), (415, .invokevirtual 60, 3, 0, 0), (418, .aload_n 2, 1, 0, 0), (419, .invokevirtual 63, 3, 0, 0), (422, .if_icmp .eq 219, 3, 641, 0), (425, .iconst 0, 1, 0, 0), (426, .ireturn, 1, 0, 0)]
theorem lw_Tk10 : zTok code 4 lw_T10 := by decide +kernel
def lw_T11 : List zTr := [(427, .aload_n 1, 1, 0, 0), (428, .aload_n 0, 1, 0, 0), (429, .iload_n 3, 1, 0, 0), (430, .iconst 1, 1, 0, 1), (431, .iadd, 1, 0, 0), (432, .iaload, 1, 0, 0), (433, .invokevirtual 64, 3, 0, 0), (436, .aload_n 2, 1, 0, 0), (437, .aload_n 0, 1, 0, 0), (438, .iload_n 3, 1, 0, 0), (439, .iconst 1, 1, 0, 1), (440, .iadd, 1, 0, 0), (441, .iaload, 1, 0, 0), (442, .invokevirtual 67, 3, 0, 0), (445, .if_icmp .eq 196, 3, 641, 0), (448, .iconst 0, 1, 0, 0), (449, .ireturn, 1, 0, 0)]
theorem lw_Tk11 : zTok code 4 lw_T11 := by decide +kernel
def lw_T12 : List zTr := [(450, .aload_n 1, 1, 0, 0), (451, .aload_n 0, 1, 0, 0), (452, .iload_n 3, 1, 0, 0), (453, .iconst 1, 1, 0, 1), (454, .iadd, 1, 0, 0), (455, .iaload, 1, 0, 0), (456, .invokevirtual 68, 3, 0, 0), (459, .aload_n 2, 1, 0, 0), (460, .aload_n 0, 1, 0, 0), (461, .iload_n 3, 1, 0, 0), (462, .iconst 1, 1, 0, 1), (463, .iadd, 1, 0, 0), (464, .iaload, 1, 0, 0), (465, .invokevirtual 71, 3, 0, 0), (468, .if_icmp .eq 173, 3, 641, 0), (471, .iconst 0, 1, 0, 0), (472, .ireturn, 1, 0, 0)]
theorem lw_Tk12 : zTok code 4 lw_T12 := by decide +kernel
def lw_T13 : List zTr := [(473, .aload_n 1, 1, 0, 0), (474, .aload_n 0, 1, 0, 0), (475, .iload_n 3, 1, 0, 0), (476, .iconst 1, 1, 0, 1), (477, .iadd, 1, 0, 0), (478, .iaload, 1, 0, 0), (479, .invokevirtual 72, 3, 0, 0), (482, .aload_n 2, 1, 0, 0), (483, .aload_n 0, 1, 0, 0), (484, .iload_n 3, 1, 0, 0), (485, .iconst 1, 1, 0, 1), (486, .iadd, 1, 0, 0), (487, .iaload, 1, 0, 0), (488, .invokevirtual 75, 3, 0, 0), (491, .if_icmp .eq 150, 3, 641, 0), (494, .iconst 0, 1, 0, 0), (495, .ireturn, 1, 0, 0)]
theorem lw_Tk13 : zTok code 4 lw_T13 := by decide +kernel
def lw_T14 : List zTr := [(496, .aload_n 1, 1, 0, 0), (497, .aload_n 0, 1, 0, 0), (498, .iload_n 3, 1, 0, 0), (499, .iconst 1, 1, 0, 1), (500, .iadd, 1, 0, 0), (501, .iaload, 1, 0, 0), (502, .invokevirtual 76, 3, 0, 0), (505, .aload_n 2, 1, 0, 0), (506, .aload_n 0, 1, 0, 0), (507, .iload_n 3, 1, 0, 0), (508, .iconst 1, 1, 0, 1), (509, .iadd, 1, 0, 0), (510, .iaload, 1, 0, 0), (511, .invokevirtual 80, 3, 0, 0), (514, .if_icmp .eq 127, 3, 641, 0), (517, .iconst 0, 1, 0, 0), (518, .ireturn, 1, 0, 0)]
theorem lw_Tk14 : zTok code 4 lw_T14 := by decide +kernel
def lw_T15 : List zTr := [(519, .aload_n 1, 1, 0, 0), (520, .aload_n 0, 1, 0, 0), (521, .iload_n 3, 1, 0, 0), (522, .iconst 1, 1, 0, 1), (523, .iadd, 1, 0, 0), (524, .iaload, 1, 0, 0), (525, .invokevirtual 81, 3, 0, 0), (528, .aload_n 2, 1, 0, 0), (529, .aload_n 0, 1, 0, 0), (530, .iload_n 3, 1, 0, 0), (531, .iconst 1, 1, 0, 1), (532, .iadd, 1, 0, 0), (533, .iaload, 1, 0, 0), (534, .invokevirtual 84, 3, 0, 0), (537, .if_icmp .eq 104, 3, 641, 0), (540, .iconst 0, 1, 0, 0), (541, .ireturn, 1, 0, 0)]
theorem lw_Tk15 : zTok code 4 lw_T15 := by decide +kernel
def lw_T16 : List zTr := [(542, .aload_n 1, 1, 0, 0), (543, .invokevirtual 85, 3, 0, 0), (546, .aload_n 2, 1, 0, 0), (547, .invokevirtual 88, 3, 0, 0), (550, .if_icmp .eq 91, 3, 641, 0), (553, .iconst 0, 1, 0, 0), (554, .ireturn, 1, 0, 0)]
theorem lw_Tk16 : zTok code 4 lw_T16 := by decide +kernel
def lw_T17 : List zTr := [(555, .aload_n 1, 1, 0, 0), (556, .aload_n 0, 1, 0, 0), (557, .iload_n 3, 1, 0, 0), (558, .iconst 1, 1, 0, 1), (559, .iadd, 1, 0, 0), (560, .iaload, 1, 0, 0), (561, .i2l, 1, 0, 0), (562, .bipush 32, 2, 0, 32), (564, .lshl, 1, 0, 0), (565, .aload_n 0, 1, 0, 0), (566, .iload_n 3, 1, 0, 0), (567, .iconst 2, 1, 0, 2), (568, .iadd, 1, 0, 0), (569, .iaload, 1, 0, 0), (570, .i2l, 1, 0, 0), (571, .ldc2_w 13, 3, 0, 0), (574, .land, 1, 0, 0), (575, .lor, 1, 0, 0), (576, .aload_n 0, 1, 0, 0), (577, .iload_n 3, 1, 0, 0), (578, .iconst 3, 1, 0, 3), (579, .iadd, 1, 0, 0), (580, .iaload, 1, 0, 0), (581, .invokevirtual 89, 3, 0, 0), (584, .aload_n 2, 1, 0, 0), (585, .aload_n 0, 1, 0, 0), (586, .iload_n 3, 1, 0, 0), (587, .iconst 1, 1, 0, 1), (588, .iadd, 1, 0, 0), (589, .iaload, 1, 0, 0), (590, .i2l, 1, 0, 0), (591, .bipush 32, 2, 0, 32), (593, .lshl, 1, 0, 0), (594, .aload_n 0, 1, 0, 0), (595, .iload_n 3, 1, 0, 0), (596, .iconst 2, 1, 0, 2), (597, .iadd, 1, 0, 0), (598, .iaload, 1, 0, 0), (599, .i2l, 1, 0, 0), (600, .ldc2_w 13, 3, 0, 0), (603, .land, 1, 0, 0), (604, .lor, 1, 0, 0), (605, .aload_n 0, 1, 0, 0), (606, .iload_n 3, 1, 0, 0), (607, .iconst 3, 1, 0, 3), (608, .iadd, 1, 0, 0), (609, .iaload, 1, 0, 0), (610, .invokevirtual 93, 3, 0, 0), (613, .if_icmp .eq 28, 3, 641, 0), (616, .iconst 0, 1, 0, 0), (617, .ireturn, 1, 0, 0)]
theorem lw_Tk17 : zTok code 4 lw_T17 := by decide +kernel
def lw_T18 : List zTr := [(618, .aload_n 1, 1, 0, 0), (619, .aload_n 0, 1, 0, 0), (620, .iload_n 3, 1, 0, 0), (621, .iconst 1, 1, 0, 1), (622, .iadd, 1, 0, 0), (623, .iaload, 1, 0, 0), (624, .invokevirtual 94, 3, 0, 0), (627, .aload_n 2, 1, 0, 0), (628, .aload_n 0, 1, 0, 0), (629, .iload_n 3, 1, 0, 0), (630, .iconst 1, 1, 0, 1), (631, .iadd, 1, 0, 0), (632, .iaload, 1, 0, 0), (633, .invokevirtual 97, 3, 0, 0), (636, .if_icmp .eq 5, 3, 641, 0), (639, .iconst 0, 1, 0, 0), (640, .ireturn, 1, 0, 0)]
theorem lw_Tk18 : zTok code 4 lw_T18 := by decide +kernel
def lw_Th : List zTr := [(0, .new 7, 3, 0, 0), (3, .dup, 1, 0, 0), (4, .invokespecial 9, 3, 0, 0), (7, .astore_n 1, 1, 0, 0), (8, .new 10, 3, 0, 0), (11, .dup, 1, 0, 0), (12, .invokespecial 12, 3, 0, 0), (15, .astore_n 2, 1, 0, 0), (16, .iconst 0, 1, 0, 0), (17, .istore_n 3, 1, 0, 0), (18, .iload_n 3, 1, 0, 0), (19, .aload_n 0, 1, 0, 0), (20, .arraylength, 1, 0, 0), (21, .iconst 4, 1, 0, 4), (22, .isub, 1, 0, 0), (23, .if_icmp .gt 624, 3, 647, 0), (26, .aload_n 0, 1, 0, 0), (27, .iload_n 3, 1, 0, 0), (28, .iaload, 1, 0, 0), (29, .bipush 31, 2, 0, 31), (31, .iand, 1, 0, 0), (32, .tableswitch 609 0 18 #[92, 155, 168, 201, 244, 277, 310, 333, 356, 369, 382, 395, 418, 441, 464, 487, 510, 523, 586], 92, 0, 0), (641, .iinc 3 4, 3, 0, 4), (644, .goto (-626), 3, 18, 0), (647, .iconst 1, 1, 0, 1), (648, .ireturn, 1, 0, 0)]
theorem lw_Tkh : zTok code 4 lw_Th := by decide +kernel
section LAW
variable {p : Program} {l : Launch} {e : Env} {s : State} {m : MethodId} {below : List Frame} {meth : Method} {c : Code} {b L : Nat} {xs : Nat → Int32} {D : va_G} {cA : Nat → ClassId} {G B : Nat → Nat}
abbrev lwC (T : List zTr) (p : Program) (s : State) (m : MethodId) (meth : Method) (c : Code) (b : Nat) : Prop := zC p s m #[Value.ref b] meth c code 4 "RuleTreeLaw" zwl T ret
/-- where the class may write: what has come since the start, but the reference's cells -/
def lwA (s : State) (B : Nat → Nat) : Nat → Prop := fun q => s.heap.size ≤ q ∧ ∀ i, i < 34 → q ≠ B i
/-- where the reference may write -/
def lwB (B : Nat → Nat) (z : Nat) : Nat → Prop := fun q => (∃ i, i < 34 ∧ q = B i) ∨ z ≤ q
def lwN (s : State) : Nat → Prop := fun q => s.heap.size ≤ q
def LW (p : Program) (l : Launch) (e : Env) (s : State) (m : MethodId) (below : List Frame) (meth : Method) (c : Code) (b : Nat) (D : va_G) (cA : Nat → ClassId) (G B : Nat → Nat) (S : zS) (M : zM) (pc : Nat) (lv : zLv) (st : List Value) : Prop :=
  ∀ (H : Heap) (locs : List Loc) (cells slots : Nat) (ls : Array Slot), zRep D cA G (lwA s B) S H → mRep D cA B (lwN s) M H → va_S (lwN s) s.heap H locs → cells ≤ 200 + zfc S → slots ≤ 430000 + zfs S → lv_has ls 4 lv →
    W p l e room_1 s m #[Value.ref b] below meth c H locs cells slots (lw_Z below #[Value.ref b] s) (F0 m pc ls st)
variable {S : zS} {M : zM} {pc : Nat} {lv : zLv} {st rest : List Value} {T : List zTr}
theorem lw_re {T' : List zTr} (h : zTok code 4 T') (C0 : lwC T p s m meth c b) : lwC T' p s m meth c b := by
  obtain ⟨hx, hb, hml, hown, hts, hT, hr, hlocks⟩ := C0
  exact ⟨hx, hb, hml, hown, hts, h, hr, hlocks⟩
theorem lw_go (C0 : lwC T p s m meth c b) (n : Nat) {pc' : Nat} {lv' : zLv} {st' : List Value} (h : zrun T n pc lv st = some (pc', lv', st')) (k : LW p l e s m below meth c b D cA G B S M pc' lv' st') : LW p l e s m below meth c b D cA G B S M pc lv st := by
  obtain ⟨hx, hb, hml, hown, hts, hT, hr, hlocks⟩ := C0
  exact fun H locs cells slots ls h1 h2 h3 h4 h5 h6 => zrun_ok hx hb hT n pc lv st h h6 (fun ls' hl' => k H locs cells slots ls' h1 h2 h3 h4 h5 hl')
theorem lw_len (C0 : lwC T p s m meth c b) (hX : va_X b L xs s s.heap) (hbl : b < s.heap.size) {tgt : Nat} {v0 : Int32} (hq : T.lookup pc = some (.arraylength, 1, tgt, v0)) (k : LW p l e s m below meth c b D cA G B S M (pc + 1) lv (.int (nI L) :: rest)) : LW p l e s m below meth c b D cA G B S M pc lv (.ref b :: rest) := by
  obtain ⟨hx, hb, hml, hown, hts, hT, hr, hlocks⟩ := C0
  exact fun H locs cells slots ls h1 h2 h3 h4 h5 h6 => va_slen hx hb hX hbl (Nat.not_le.mpr hbl) h3 (hT.dec hq) (k H locs cells slots ls h1 h2 h3 h4 h5 h6)
theorem lw_ld (C0 : lwC T p s m meth c b) (hX : va_X b L xs s s.heap) (hbl : b < s.heap.size) {j tgt : Nat} {i v0 : Int32} (hi : i = nI j) (hj : j < L) (hL : L ≤ 2048) (hq : T.lookup pc = some (.iaload, 1, tgt, v0)) (k : LW p l e s m below meth c b D cA G B S M (pc + 1) lv (.int (xs j) :: rest)) : LW p l e s m below meth c b D cA G B S M pc lv (.int i :: .ref b :: rest) := by
  obtain ⟨hx, hb, hml, hown, hts, hT, hr, hlocks⟩ := C0
  subst hi
  intro H locs cells slots ls h1 h2 h3 h4 h5 h6
  refine va_sld hx hb hX hbl (Nat.not_le.mpr hbl) h3 (vp_in_nI hj (by omega)) (hT.dec hq) ?_
  rw [nI_clamp (by omega)]
  exact k H locs cells slots ls h1 h2 h3 h4 h5 h6
theorem lw_ldc2 (C0 : lwC T p s m meth c b) {idx tgt : Nat} {v0 : Int32} {v : Int64} (hc : Cond.constantLong "RuleTreeLaw" idx v ∈ zwl) (hq : T.lookup pc = some (.ldc2_w idx, 3, tgt, v0)) (k : LW p l e s m below meth c b D cA G B S M (pc + 3) lv (.long v :: rest)) : LW p l e s m below meth c b D cA G B S M pc lv rest := by
  obtain ⟨hx, hb, hml, hown, hts, hT, hr, hlocks⟩ := C0
  exact fun H locs cells slots ls h1 h2 h3 h4 h5 h6 => lv_ldc2 hx hb hown (hts _ hc) (hT.dec hq) (k H locs cells slots ls h1 h2 h3 h4 h5 h6)
theorem lw_gt (C0 : lwC T p s m meth c b) {x y : Int32} {o : Int} {tgt : Nat} {v : Int32} (hq : T.lookup pc = some (.if_icmp .gt o, 3, tgt, v)) (kt : y < x → LW p l e s m below meth c b D cA G B S M tgt lv rest) (kf : ¬ y < x → LW p l e s m below meth c b D cA G B S M (pc + 3) lv rest) : LW p l e s m below meth c b D cA G B S M pc lv (.int y :: .int x :: rest) := by
  obtain ⟨hx, hb, hml, hown, hts, hT, hr, hlocks⟩ := C0
  obtain ⟨hd, ht⟩ := zok_jmp (hT.at hq) (Or.inr ⟨_, rfl⟩)
  exact fun H locs cells slots ls h1 h2 h3 h4 h5 h6 => lv_icmp_gt hx hb hd ht (fun q => kt q H locs cells slots ls h1 h2 h3 h4 h5 h6) (fun q => kf q H locs cells slots ls h1 h2 h3 h4 h5 h6)
theorem lw_eq (C0 : lwC T p s m meth c b) {x : Int32} {o : Int} {tgt : Nat} {v : Int32} (hq : T.lookup pc = some (.if_icmp .eq o, 3, tgt, v)) (kt : LW p l e s m below meth c b D cA G B S M tgt lv rest) : LW p l e s m below meth c b D cA G B S M pc lv (.int x :: .int x :: rest) := by
  obtain ⟨hx, hb, hml, hown, hts, hT, hr, hlocks⟩ := C0
  obtain ⟨hd, ht⟩ := zok_jmp (hT.at hq) (Or.inr ⟨_, rfl⟩)
  exact fun H locs cells slots ls h1 h2 h3 h4 h5 h6 => lv_icmp_eq hx hb hd ht (fun _ => kt H locs cells slots ls h1 h2 h3 h4 h5 h6) (fun q => absurd rfl q)
theorem lw_tin (C0 : lwC T p s m meth c b) {dflt lo hi off : Int} {offs : Array Int} {len tgt tgt0 : Nat} {v0 x : Int32} (hq : T.lookup pc = some (.tableswitch dflt lo hi offs, len, tgt0, v0)) (h1 : ¬ x.toInt < lo) (h2 : ¬ hi < x.toInt) (ho : offs[(x.toInt - lo).toNat]? = some off) (ht : (pc : Int) + off = (tgt : Int)) (k : LW p l e s m below meth c b D cA G B S M tgt lv rest) : LW p l e s m below meth c b D cA G B S M pc lv (.int x :: rest) := by
  obtain ⟨hx, hb, hml, hown, hts, hT, hr, hlocks⟩ := C0
  exact fun H locs cells slots ls g1 g2 g3 g4 g5 g6 => lv_tableIn hx hb (hT.dec hq) h1 h2 ho ht (k H locs cells slots ls g1 g2 g3 g4 g5 g6)
theorem lw_tout (C0 : lwC T p s m meth c b) {dflt lo hi : Int} {offs : Array Int} {len tgt tgt0 : Nat} {v0 x : Int32} (hq : T.lookup pc = some (.tableswitch dflt lo hi offs, len, tgt0, v0)) (h : x.toInt < lo ∨ hi < x.toInt) (ht : (pc : Int) + dflt = (tgt : Int)) (k : LW p l e s m below meth c b D cA G B S M tgt lv rest) : LW p l e s m below meth c b D cA G B S M pc lv (.int x :: rest) := by
  obtain ⟨hx, hb, hml, hown, hts, hT, hr, hlocks⟩ := C0
  exact fun H locs cells slots ls g1 g2 g3 g4 g5 g6 => lv_tableOut hx hb (hT.dec hq) h ht (k H locs cells slots ls g1 g2 g3 g4 g5 g6)
theorem lw_good {y : MethodName} {bytes : ByteArray} {maxL n idx : Nat} {rt : Option FieldType} {C : String} (Y : zY C y bytes maxL rt n) (hl : Cond.methodLink "RuleTreeLaw" idx y ∈ zwl) : GoodIn zwl (wsV "RuleTreeLaw" idx C y (zw y bytes maxL rt)) := by
  obtain ⟨y1, y2, y3, y4, y5⟩ := Y
  intro w hw
  rcases List.mem_append.mp hw with h | h
  · have : w = .methodLink "RuleTreeLaw" idx y ∨ w = .instanceMethod y ∨ w = .selects C y y ∨ w = .initialized C := by simpa using h
    rcases this with rfl | rfl | rfl | rfl
    · exact ⟨hl, (zgood _ hl).2⟩
    · exact ⟨y2, (zgood _ y2).2⟩
    · exact ⟨y3, (zgood _ y3).2⟩
    · exact ⟨y4, (zgood _ y4).2⟩
  · rcases List.mem_cons.mp h with rfl | h
    · exact ⟨y1, (zgood _ y1).2⟩
    · exact zgood _ h
/-- the class is called -/
theorem lw_callT (C0 : lwC T p s m meth c b) (hK : va_K D zcl (ztys cA) s) {E' : zS × Option Value} {y : MethodName} {bytes : ByteArray} {maxL n fr lo idx tgt : Nat} {v : Int32} {rt : Option FieldType} {As : List Value} (Y : zY "RuleTree" y bytes maxL rt n) (hM : zMet l y (zw y bytes maxL rt) fr lo (.ref (G 0) :: As) D zcl (ztys cA) (lwA s B) (zRep D cA G (lwA s B)) zfc zfs S E')
    (hl : Cond.methodLink "RuleTreeLaw" idx y ∈ zwl) (hq : T.lookup pc = some (.invokevirtual idx, 3, tgt, v)) (hn : As.length = n) (hR : fr + 1 ≤ room_1.frames ∧ 8 + (maxL + 11) + lo ≤ room_1.locals) (hW : (rest.map fun v => v.category).sum ≤ 8) (hfit : zfc E'.1 ≤ 1000 ∧ zfs E'.1 ≤ 6000000)
    (k : LW p l e s m below meth c b D cA G B E'.1 M (pc + 3) lv (E'.2.toList ++ rest)) : LW p l e s m below meth c b D cA G B S M pc lv (As.reverse ++ .ref (G 0) :: rest) := by
  obtain ⟨hm1, hm2, hM⟩ := hM
  obtain ⟨hx, hb, hml, hown, hts, hT, hr, hlocks⟩ := C0
  intro H locs cells slots ls h1 hm h2 h3 h4 h5
  have hlt : ∀ i, i < 34 → B i < H.size := fun i hi => (hm.1 i hi).lt
  have hA : ∀ q, H.size ≤ q → lwA s B q := fun q hq => ⟨Nat.le_trans h2.1 hq, fun i hi h => by have := hlt i hi; omega⟩
  have run := va_runV (p := p) (l := l) (e := e) (below := below) (meth := meth) (c := c) (H := H) (locs := locs) (cells := cells) (slots := slots) (g := F0 m pc ls (As.reverse ++ .ref (G 0) :: rest)) (As := As) (rest := rest) (R := room_1) ⟨hx, hb, hml, hown, hts⟩ hM (cwV n hts (lw_good Y hl) rfl rfl rfl Y.2.2.2.2 hR) ⟨zPre_blind, zrc_obj (o := 0) hK (by omega) rfl H h1, fun U hU hW2 => ⟨rfl, by rw [hU]; exact h1, va_K.moved hW2.alike hK, fun q hq => hA q (by rw [← hU]; exact hq)⟩⟩ rfl hn h5.1 rfl (lv_room hW) (hT.dec hq) ⟨by show cells + (zfc E'.1 - zfc S) ≤ 600000; omega, by show slots + (zfs E'.1 - zfs S) ≤ 7302250; omega⟩
  intro T0 hT0 X
  obtain ⟨w, st₀, t, T', Lc, h0, X', hL, e1, e2, ⟨hv, hRep, hz, hk⟩, stp⟩ := run T0 hT0 X
  cases hv
  rw [h0] at hz hk
  have hmk : mRep D cA B (lwN s) M t.heap := ⟨fun i hi => (hm.1 i hi).kept (hk (B i) (hlt i hi) (fun z => z.2 i hi rfl)), hm.2.1, hm.2.2⟩
  obtain ⟨t2, a1, b1⟩ := k T'.heap (locs ++ Lc) (cells + (zfc E'.1 - zfc S)) (slots + (zfs E'.1 - zfs S)) ls (by rw [e1]; exact hRep) (by rw [e1]; exact hmk)
    ⟨Nat.le_trans h2.1 (by rw [e1]; exact hz), fun q g1 g2 => by rw [e1, hk q (Nat.lt_of_lt_of_le g1 h2.1) (fun z => g2 z.1)]; exact h2.2.1 q g1 g2, fun q hq => by
      rcases List.mem_append.mp hq with h | h
      · exact h2.2.2 q h
      · exact (hL q h).1⟩ (by omega) (by omega) h5 T' rfl X'
  exact ⟨t2, stp t2 a1, b1⟩
theorem lw_zkept {H H1 : Heap} (h : zRep D cA G (lwA s B) S H) (hk : ∀ q : Nat, q < H.size → ¬ lwB B H.size q → H1[q]? = H[q]?) : zRep D cA G (lwA s B) S H1 := by
  obtain ⟨aa, f, hP, hi, hA, hr⟩ := h
  refine ⟨aa, f, fun i hlt => ?_, hi, hA, hr⟩
  have h9 := hP i hlt
  refine h9.kept (hk _ h9.lt ?_)
  rintro (⟨j, hj, hq⟩ | hq)
  · exact (hA i hlt).2 j hj hq
  · exact absurd h9.lt (Nat.not_lt.mpr hq)
/-- the reference is called -/
theorem lw_callM (C0 : lwC T p s m meth c b) (hK : va_K D zcl (ztys cA) s) {E' : zM × Option Value} {y : MethodName} {bytes : ByteArray} {maxL n fr lo idx tgt : Nat} {v : Int32} {rt : Option FieldType} {As : List Value} (Y : zY "RuleTreeModel" y bytes maxL rt n) (hM : ∀ A : Nat → Prop, zMet l y (zw y bytes maxL rt) fr lo (.ref (B 0) :: As) D zcl (ztys cA) A (mRep D cA B A) (fun _ => 0) (fun _ => 0) M E')
    (hl : Cond.methodLink "RuleTreeLaw" idx y ∈ zwl) (hq : T.lookup pc = some (.invokevirtual idx, 3, tgt, v)) (hn : As.length = n) (hR : fr + 1 ≤ room_1.frames ∧ 8 + (maxL + 11) + lo ≤ room_1.locals) (hW : (rest.map fun v => v.category).sum ≤ 8) (hfit : zfc S ≤ 1000 ∧ zfs S ≤ 6000000)
    (k : LW p l e s m below meth c b D cA G B S E'.1 (pc + 3) lv (E'.2.toList ++ rest)) : LW p l e s m below meth c b D cA G B S M pc lv (As.reverse ++ .ref (B 0) :: rest) := by
  obtain ⟨hx, hb, hml, hown, hts, hT, hr, hlocks⟩ := C0
  intro H locs cells slots ls h1 hm h2 h3 h4 h5
  obtain ⟨hm1, hm2, hM⟩ := hM (lwB B H.size)
  have hm' : mRep D cA B (lwB B H.size) M H := ⟨hm.1, hm.2.1, fun i hi => Or.inl ⟨i, hi, rfl⟩⟩
  have run := va_runV (p := p) (l := l) (e := e) (below := below) (meth := meth) (c := c) (H := H) (locs := locs) (cells := cells) (slots := slots) (g := F0 m pc ls (As.reverse ++ .ref (B 0) :: rest)) (As := As) (rest := rest) (R := room_1) ⟨hx, hb, hml, hown, hts⟩ hM (cwV n hts (lw_good Y hl) rfl rfl rfl Y.2.2.2.2 hR) ⟨zPre_blind, mrc hK H hm, fun U hU hW2 => ⟨rfl, by rw [hU]; exact hm', va_K.moved hW2.alike hK, fun q hq => Or.inr (by rw [← hU]; exact hq)⟩⟩ rfl hn h5.1 rfl (lv_room hW) (hT.dec hq) ⟨by show cells + (0 - 0) ≤ 600000; omega, by show slots + (0 - 0) ≤ 7302250; omega⟩
  intro T0 hT0 X
  obtain ⟨w, st₀, t, T', Lc, h0, X', hL, e1, e2, ⟨hv, hRep, hz, hk⟩, stp⟩ := run T0 hT0 X
  cases hv
  rw [h0] at hz hk
  have hN : ∀ q, lwB B H.size q → s.heap.size ≤ q := by
    rintro q (⟨i, hi, rfl⟩ | hq)
    · exact hm.2.2 i hi
    · exact Nat.le_trans h2.1 hq
  obtain ⟨t2, a1, b1⟩ := k T'.heap (locs ++ Lc) (cells + (0 - 0)) (slots + (0 - 0)) ls (by rw [e1]; exact lw_zkept h1 hk) (by rw [e1]; exact ⟨hRep.1, hRep.2.1, hm.2.2⟩)
    ⟨Nat.le_trans h2.1 (by rw [e1]; exact hz), fun q g1 g2 => by rw [e1, hk q (Nat.lt_of_lt_of_le g1 h2.1) (fun z => g2 (hN q z))]; exact h2.2.1 q g1 g2, fun q hq => by
      rcases List.mem_append.mp hq with h | h
      · exact h2.2.2 q h
      · exact hN _ (hL q h)⟩ (by omega) (by omega) h5 T' rfl X'
  exact ⟨t2, stp t2 a1, b1⟩
theorem zsum_le {h : Nat → Nat} {x : Nat} : ∀ {n : Nat}, (∀ i, i < n → h i ≤ x) → zsum h n ≤ n * x := by
  intro n
  induction n with
  | zero => intro _; exact Nat.zero_le _
  | succ n ih =>
    intro e
    have h1 := ih (fun i hi => e i (by omega))
    have h2 := e n (by omega)
    have h3 : (n + 1) * x = n * x + x := Nat.succ_mul n x
    show zsum h n + h n ≤ (n + 1) * x
    omega
theorem okS_fit (h : okS S) : zfc S ≤ 1000 ∧ zfs S ≤ 6000000 := by
  have h1 : ∀ k, k < 43 → S.2.1 k ≤ 12 := fun k hk => (h k hk).1
  constructor
  · have := zsum_le (h := S.2.1) (x := 12) (n := 43) h1
    show zsum S.2.1 43 ≤ 1000
    omega
  · have := zsum_le (h := fun k => 2 * zcap S k) (x := 131072) (n := 43) (fun k hk => by
      have h2 : 2 ^ S.2.1 k ≤ 2 ^ 12 := Nat.pow_le_pow_right (by omega) (h1 k hk)
      show 2 * (16 * 2 ^ S.2.1 k) ≤ 131072
      have h3 : (2 : Nat) ^ 12 = 4096 := by decide
      omega)
    show zsum (fun k => 2 * zcap S k) 43 ≤ 6000000
    omega
theorem Rel_fit {n : Nat} (h : Rel n S M) : zfc S ≤ 1000 ∧ zfs S ≤ 6000000 := by
  obtain ⟨nf, fam, bit, np, P, nl, fl, m, ps, nr, ru, T, sa, W, hB, hR, hX⟩ := h
  exact okS_fit hB.1
abbrev lwl (b : Nat) (G B : Nat → Nat) (i : Nat) : zLv := [(0, .ref b), (1, .ref (G 0)), (2, .ref (B 0)), (3, .int (nI i))]
end LAW
