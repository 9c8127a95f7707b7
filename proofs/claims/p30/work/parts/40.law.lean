/-! THE LAW: its walk, out of what the calls answer -/
theorem dl_of {cc : ByteArray} {l : List (Nat × Instr × Nat)} (hl : ∀ q ∈ l, decode cc q.1 = .ok (q.2.1, q.2.2)) {i pc : Nat} {I : Instr} {n : Nat} (h : (l.drop i).head? = some (pc, I, n)) : decode cc pc = .ok (I, n) := by
  have : (pc, I, n) ∈ l := by
    refine List.mem_of_mem_drop (i := i) ?_
    cases q : l.drop i with
    | nil => rw [q] at h; cases h
    | cons x r => rw [q] at h; cases h; exact List.mem_cons_self
  exact hl (pc, I, n) this
def dl_h : List (Nat × Instr × Nat) := [(0, .new 7, 3), (3, .dup, 1), (4, .invokespecial 9, 3), (7, .astore_n 1, 1), (8, .new 10, 3), (11, .dup, 1), (12, .invokespecial 12, 3), (15, .astore_n 2, 1), (16, .iconst 0, 1), (17, .istore_n 3, 1), (18, .iload_n 3, 1), (19, .aload_n 0, 1), (20, .arraylength, 1), (21, .bipush 8, 2), (23, .isub, 1), (24, .if_icmp .gt 1087, 3), (27, .aload_n 0, 1), (28, .iload_n 3, 1), (29, .iaload, 1), (30, .bipush 31, 2), (32, .iand, 1)]
theorem dk_h {i pc : Nat} {I : Instr} {n : Nat} (h : (dl_h.drop i).head? = some (pc, I, n)) : decode code pc = .ok (I, n) := dl_of (cc := code) (show ∀ q ∈ dl_h, decode code q.1 = .ok (q.2.1, q.2.2) by decide +kernel) h
def dl_e : List (Nat × Instr × Nat) := [(1105, .iinc 3 8, 3), (1108, .goto (-1090), 3), (1111, .iconst 1, 1), (1112, .ireturn, 1)]
theorem dk_e {i pc : Nat} {I : Instr} {n : Nat} (h : (dl_e.drop i).head? = some (pc, I, n)) : decode code pc = .ok (I, n) := dl_of (cc := code) (show ∀ q ∈ dl_e, decode code q.1 = .ok (q.2.1, q.2.2) from qd_tr (by decide +kernel)) h
def dl_c0 : List (Nat × Instr × Nat) := [(164, .aload_n 1, 1), (165, .aload_n 0, 1), (166, .iload_n 3, 1), (167, .iconst 1, 1), (168, .iadd, 1), (169, .iaload, 1), (170, .aload_n 0, 1), (171, .iload_n 3, 1), (172, .iconst 2, 1), (173, .iadd, 1), (174, .iaload, 1), (175, .aload_n 0, 1), (176, .iload_n 3, 1), (177, .iconst 3, 1), (178, .iadd, 1), (179, .iaload, 1), (180, .invokevirtual 13, 3), (183, .pop, 1), (184, .aload_n 2, 1), (185, .aload_n 0, 1), (186, .iload_n 3, 1), (187, .iconst 1, 1), (188, .iadd, 1), (189, .iaload, 1), (190, .aload_n 0, 1), (191, .iload_n 3, 1), (192, .iconst 2, 1), (193, .iadd, 1), (194, .iaload, 1), (195, .aload_n 0, 1), (196, .iload_n 3, 1), (197, .iconst 3, 1), (198, .iadd, 1), (199, .iaload, 1), (200, .invokevirtual 17, 3), (203, .pop, 1), (204, .goto 901, 3)]
theorem dk_c0 {i pc : Nat} {I : Instr} {n : Nat} (h : (dl_c0.drop i).head? = some (pc, I, n)) : decode code pc = .ok (I, n) := dl_of (cc := code) (show ∀ q ∈ dl_c0, decode code q.1 = .ok (q.2.1, q.2.2) from qd_tr (by decide +kernel)) h
def dl_c1 : List (Nat × Instr × Nat) := [(207, .aload_n 1, 1), (208, .aload_n 0, 1), (209, .iload_n 3, 1), (210, .iconst 1, 1), (211, .iadd, 1), (212, .iaload, 1), (213, .aload_n 0, 1), (214, .iload_n 3, 1), (215, .iconst 2, 1), (216, .iadd, 1), (217, .iaload, 1), (218, .invokevirtual 18, 3), (221, .pop, 1), (222, .aload_n 2, 1), (223, .aload_n 0, 1), (224, .iload_n 3, 1), (225, .iconst 1, 1), (226, .iadd, 1), (227, .iaload, 1), (228, .aload_n 0, 1), (229, .iload_n 3, 1), (230, .iconst 2, 1), (231, .iadd, 1), (232, .iaload, 1), (233, .invokevirtual 22, 3), (236, .pop, 1), (237, .goto 868, 3)]
theorem dk_c1 {i pc : Nat} {I : Instr} {n : Nat} (h : (dl_c1.drop i).head? = some (pc, I, n)) : decode code pc = .ok (I, n) := dl_of (cc := code) (show ∀ q ∈ dl_c1, decode code q.1 = .ok (q.2.1, q.2.2) from qd_tr (by decide +kernel)) h
def dl_c2 : List (Nat × Instr × Nat) := [(240, .aload_n 1, 1), (241, .aload_n 0, 1), (242, .iload_n 3, 1), (243, .iconst 1, 1), (244, .iadd, 1), (245, .iaload, 1), (246, .invokevirtual 23, 3), (249, .pop, 1), (250, .aload_n 2, 1), (251, .aload_n 0, 1), (252, .iload_n 3, 1), (253, .iconst 1, 1), (254, .iadd, 1), (255, .iaload, 1), (256, .invokevirtual 27, 3), (259, .pop, 1), (260, .goto 845, 3)]
theorem dk_c2 {i pc : Nat} {I : Instr} {n : Nat} (h : (dl_c2.drop i).head? = some (pc, I, n)) : decode code pc = .ok (I, n) := dl_of (cc := code) (show ∀ q ∈ dl_c2, decode code q.1 = .ok (q.2.1, q.2.2) from qd_tr (by decide +kernel)) h
def dl_c3 : List (Nat × Instr × Nat) := [(263, .aload_n 1, 1), (264, .aload_n 0, 1), (265, .iload_n 3, 1), (266, .iconst 1, 1), (267, .iadd, 1), (268, .iaload, 1), (269, .aload_n 0, 1), (270, .iload_n 3, 1), (271, .iconst 2, 1), (272, .iadd, 1), (273, .iaload, 1), (274, .invokevirtual 28, 3), (277, .pop, 1), (278, .aload_n 2, 1), (279, .aload_n 0, 1), (280, .iload_n 3, 1), (281, .iconst 1, 1), (282, .iadd, 1), (283, .iaload, 1), (284, .aload_n 0, 1), (285, .iload_n 3, 1), (286, .iconst 2, 1), (287, .iadd, 1), (288, .iaload, 1), (289, .invokevirtual 31, 3), (292, .pop, 1), (293, .goto 812, 3)]
theorem dk_c3 {i pc : Nat} {I : Instr} {n : Nat} (h : (dl_c3.drop i).head? = some (pc, I, n)) : decode code pc = .ok (I, n) := dl_of (cc := code) (show ∀ q ∈ dl_c3, decode code q.1 = .ok (q.2.1, q.2.2) from qd_tr (by decide +kernel)) h
def dl_c4 : List (Nat × Instr × Nat) := [(296, .aload_n 1, 1), (297, .aload_n 0, 1), (298, .iload_n 3, 1), (299, .iconst 1, 1), (300, .iadd, 1), (301, .iaload, 1), (302, .aload_n 0, 1), (303, .iload_n 3, 1), (304, .iconst 2, 1), (305, .iadd, 1), (306, .iaload, 1), (307, .aload_n 0, 1), (308, .iload_n 3, 1), (309, .iconst 3, 1), (310, .iadd, 1), (311, .iaload, 1), (312, .aload_n 0, 1), (313, .iload_n 3, 1), (314, .iconst 4, 1), (315, .iadd, 1), (316, .iaload, 1), (317, .aload_n 0, 1), (318, .iload_n 3, 1), (319, .iconst 5, 1), (320, .iadd, 1), (321, .iaload, 1), (322, .invokevirtual 32, 3), (325, .pop, 1), (326, .aload_n 2, 1), (327, .aload_n 0, 1), (328, .iload_n 3, 1), (329, .iconst 1, 1), (330, .iadd, 1), (331, .iaload, 1), (332, .aload_n 0, 1), (333, .iload_n 3, 1), (334, .iconst 2, 1), (335, .iadd, 1), (336, .iaload, 1), (337, .aload_n 0, 1), (338, .iload_n 3, 1), (339, .iconst 3, 1), (340, .iadd, 1), (341, .iaload, 1), (342, .aload_n 0, 1), (343, .iload_n 3, 1), (344, .iconst 4, 1), (345, .iadd, 1), (346, .iaload, 1), (347, .aload_n 0, 1), (348, .iload_n 3, 1), (349, .iconst 5, 1), (350, .iadd, 1), (351, .iaload, 1), (352, .invokevirtual 36, 3), (355, .pop, 1), (356, .goto 749, 3)]
theorem dk_c4 {i pc : Nat} {I : Instr} {n : Nat} (h : (dl_c4.drop i).head? = some (pc, I, n)) : decode code pc = .ok (I, n) := dl_of (cc := code) (show ∀ q ∈ dl_c4, decode code q.1 = .ok (q.2.1, q.2.2) from qd_tr (by decide +kernel)) h
def dl_c5 : List (Nat × Instr × Nat) := [(359, .aload_n 1, 1), (360, .aload_n 0, 1), (361, .iload_n 3, 1), (362, .iconst 1, 1), (363, .iadd, 1), (364, .iaload, 1), (365, .invokevirtual 37, 3), (368, .pop, 1), (369, .aload_n 2, 1), (370, .aload_n 0, 1), (371, .iload_n 3, 1), (372, .iconst 1, 1), (373, .iadd, 1), (374, .iaload, 1), (375, .invokevirtual 41, 3), (378, .pop, 1), (379, .goto 726, 3)]
theorem dk_c5 {i pc : Nat} {I : Instr} {n : Nat} (h : (dl_c5.drop i).head? = some (pc, I, n)) : decode code pc = .ok (I, n) := dl_of (cc := code) (show ∀ q ∈ dl_c5, decode code q.1 = .ok (q.2.1, q.2.2) from qd_tr (by decide +kernel)) h
def dl_c6 : List (Nat × Instr × Nat) := [(382, .aload_n 1, 1), (383, .aload_n 0, 1), (384, .iload_n 3, 1), (385, .iconst 1, 1), (386, .iadd, 1), (387, .iaload, 1), (388, .aload_n 0, 1), (389, .iload_n 3, 1), (390, .iconst 2, 1), (391, .iadd, 1), (392, .iaload, 1), (393, .invokevirtual 42, 3), (396, .pop, 1), (397, .aload_n 2, 1), (398, .aload_n 0, 1), (399, .iload_n 3, 1), (400, .iconst 1, 1), (401, .iadd, 1), (402, .iaload, 1), (403, .aload_n 0, 1), (404, .iload_n 3, 1), (405, .iconst 2, 1), (406, .iadd, 1), (407, .iaload, 1), (408, .invokevirtual 46, 3), (411, .pop, 1), (412, .goto 693, 3)]
theorem dk_c6 {i pc : Nat} {I : Instr} {n : Nat} (h : (dl_c6.drop i).head? = some (pc, I, n)) : decode code pc = .ok (I, n) := dl_of (cc := code) (show ∀ q ∈ dl_c6, decode code q.1 = .ok (q.2.1, q.2.2) from qd_tr (by decide +kernel)) h
def dl_c7 : List (Nat × Instr × Nat) := [(415, .aload_n 1, 1), (416, .aload_n 0, 1), (417, .iload_n 3, 1), (418, .iconst 1, 1), (419, .iadd, 1), (420, .iaload, 1), (421, .aload_n 0, 1), (422, .iload_n 3, 1), (423, .iconst 2, 1), (424, .iadd, 1), (425, .iaload, 1), (426, .invokevirtual 47, 3), (429, .pop, 1), (430, .aload_n 2, 1), (431, .aload_n 0, 1), (432, .iload_n 3, 1), (433, .iconst 1, 1), (434, .iadd, 1), (435, .iaload, 1), (436, .aload_n 0, 1), (437, .iload_n 3, 1), (438, .iconst 2, 1), (439, .iadd, 1), (440, .iaload, 1), (441, .invokevirtual 50, 3), (444, .pop, 1), (445, .goto 660, 3)]
theorem dk_c7 {i pc : Nat} {I : Instr} {n : Nat} (h : (dl_c7.drop i).head? = some (pc, I, n)) : decode code pc = .ok (I, n) := dl_of (cc := code) (show ∀ q ∈ dl_c7, decode code q.1 = .ok (q.2.1, q.2.2) from qd_tr (by decide +kernel)) h
def dl_c8 : List (Nat × Instr × Nat) := [(448, .aload_n 1, 1), (449, .aload_n 0, 1), (450, .iload_n 3, 1), (451, .iconst 1, 1), (452, .iadd, 1), (453, .iaload, 1), (454, .invokevirtual 51, 3), (457, .pop, 1), (458, .aload_n 2, 1), (459, .aload_n 0, 1), (460, .iload_n 3, 1), (461, .iconst 1, 1), (462, .iadd, 1), (463, .iaload, 1), (464, .invokevirtual 54, 3), (467, .pop, 1), (468, .goto 637, 3)]
theorem dk_c8 {i pc : Nat} {I : Instr} {n : Nat} (h : (dl_c8.drop i).head? = some (pc, I, n)) : decode code pc = .ok (I, n) := dl_of (cc := code) (show ∀ q ∈ dl_c8, decode code q.1 = .ok (q.2.1, q.2.2) from qd_tr (by decide +kernel)) h
def dl_c9 : List (Nat × Instr × Nat) := [(471, .aload_n 1, 1), (472, .aload_n 0, 1), (473, .iload_n 3, 1), (474, .iconst 1, 1), (475, .iadd, 1), (476, .iaload, 1), (477, .aload_n 0, 1), (478, .iload_n 3, 1), (479, .iconst 2, 1), (480, .iadd, 1), (481, .iaload, 1), (482, .invokevirtual 55, 3), (485, .pop, 1), (486, .aload_n 2, 1), (487, .aload_n 0, 1), (488, .iload_n 3, 1), (489, .iconst 1, 1), (490, .iadd, 1), (491, .iaload, 1), (492, .aload_n 0, 1), (493, .iload_n 3, 1), (494, .iconst 2, 1), (495, .iadd, 1), (496, .iaload, 1), (497, .invokevirtual 58, 3), (500, .pop, 1), (501, .goto 604, 3)]
theorem dk_c9 {i pc : Nat} {I : Instr} {n : Nat} (h : (dl_c9.drop i).head? = some (pc, I, n)) : decode code pc = .ok (I, n) := dl_of (cc := code) (show ∀ q ∈ dl_c9, decode code q.1 = .ok (q.2.1, q.2.2) from qd_tr (by decide +kernel)) h
def dl_c10 : List (Nat × Instr × Nat) := [(504, .aload_n 1, 1), (505, .aload_n 0, 1), (506, .iload_n 3, 1), (507, .iconst 1, 1), (508, .iadd, 1), (509, .iaload, 1), (510, .aload_n 0, 1), (511, .iload_n 3, 1), (512, .iconst 2, 1), (513, .iadd, 1), (514, .iaload, 1), (515, .invokevirtual 59, 3), (518, .pop, 1), (519, .aload_n 2, 1), (520, .aload_n 0, 1), (521, .iload_n 3, 1), (522, .iconst 1, 1), (523, .iadd, 1), (524, .iaload, 1), (525, .aload_n 0, 1), (526, .iload_n 3, 1), (527, .iconst 2, 1), (528, .iadd, 1), (529, .iaload, 1), (530, .invokevirtual 62, 3), (533, .pop, 1), (534, .goto 571, 3)]
theorem dk_c10 {i pc : Nat} {I : Instr} {n : Nat} (h : (dl_c10.drop i).head? = some (pc, I, n)) : decode code pc = .ok (I, n) := dl_of (cc := code) (show ∀ q ∈ dl_c10, decode code q.1 = .ok (q.2.1, q.2.2) from qd_tr (by decide +kernel)) h
def dl_c11 : List (Nat × Instr × Nat) := [(537, .aload_n 1, 1), (538, .aload_n 0, 1), (539, .iload_n 3, 1), (540, .iconst 1, 1), (541, .iadd, 1), (542, .iaload, 1), (543, .aload_n 0, 1), (544, .iload_n 3, 1), (545, .iconst 2, 1), (546, .iadd, 1), (547, .iaload, 1), (548, .invokevirtual 63, 3), (551, .pop, 1), (552, .aload_n 2, 1), (553, .aload_n 0, 1), (554, .iload_n 3, 1), (555, .iconst 1, 1), (556, .iadd, 1), (557, .iaload, 1), (558, .aload_n 0, 1), (559, .iload_n 3, 1), (560, .iconst 2, 1), (561, .iadd, 1), (562, .iaload, 1), (563, .invokevirtual 66, 3), (566, .pop, 1), (567, .goto 538, 3)]
theorem dk_c11 {i pc : Nat} {I : Instr} {n : Nat} (h : (dl_c11.drop i).head? = some (pc, I, n)) : decode code pc = .ok (I, n) := dl_of (cc := code) (show ∀ q ∈ dl_c11, decode code q.1 = .ok (q.2.1, q.2.2) from qd_tr (by decide +kernel)) h
def dl_c12 : List (Nat × Instr × Nat) := [(570, .aload_n 1, 1), (571, .aload_n 0, 1), (572, .iload_n 3, 1), (573, .iconst 1, 1), (574, .iadd, 1), (575, .iaload, 1), (576, .aload_n 0, 1), (577, .iload_n 3, 1), (578, .iconst 2, 1), (579, .iadd, 1), (580, .iaload, 1), (581, .aload_n 0, 1), (582, .iload_n 3, 1), (583, .iconst 3, 1), (584, .iadd, 1), (585, .iaload, 1), (586, .invokevirtual 67, 3), (589, .pop, 1), (590, .aload_n 2, 1), (591, .aload_n 0, 1), (592, .iload_n 3, 1), (593, .iconst 1, 1), (594, .iadd, 1), (595, .iaload, 1), (596, .aload_n 0, 1), (597, .iload_n 3, 1), (598, .iconst 2, 1), (599, .iadd, 1), (600, .iaload, 1), (601, .aload_n 0, 1), (602, .iload_n 3, 1), (603, .iconst 3, 1), (604, .iadd, 1), (605, .iaload, 1), (606, .invokevirtual 71, 3), (609, .pop, 1), (610, .goto 495, 3)]
theorem dk_c12 {i pc : Nat} {I : Instr} {n : Nat} (h : (dl_c12.drop i).head? = some (pc, I, n)) : decode code pc = .ok (I, n) := dl_of (cc := code) (show ∀ q ∈ dl_c12, decode code q.1 = .ok (q.2.1, q.2.2) from qd_tr (by decide +kernel)) h
def dl_c13 : List (Nat × Instr × Nat) := [(613, .aload_n 1, 1), (614, .aload_n 0, 1), (615, .iload_n 3, 1), (616, .iconst 1, 1), (617, .iadd, 1), (618, .iaload, 1), (619, .invokevirtual 72, 3), (622, .pop, 1), (623, .aload_n 2, 1), (624, .aload_n 0, 1), (625, .iload_n 3, 1), (626, .iconst 1, 1), (627, .iadd, 1), (628, .iaload, 1), (629, .invokevirtual 75, 3), (632, .pop, 1), (633, .goto 472, 3)]
theorem dk_c13 {i pc : Nat} {I : Instr} {n : Nat} (h : (dl_c13.drop i).head? = some (pc, I, n)) : decode code pc = .ok (I, n) := dl_of (cc := code) (show ∀ q ∈ dl_c13, decode code q.1 = .ok (q.2.1, q.2.2) from qd_tr (by decide +kernel)) h
def dl_c14 : List (Nat × Instr × Nat) := [(636, .aload_n 1, 1), (637, .aload_n 0, 1), (638, .iload_n 3, 1), (639, .iconst 1, 1), (640, .iadd, 1), (641, .iaload, 1), (642, .invokevirtual 76, 3), (645, .pop, 1), (646, .aload_n 2, 1), (647, .aload_n 0, 1), (648, .iload_n 3, 1), (649, .iconst 1, 1), (650, .iadd, 1), (651, .iaload, 1), (652, .invokevirtual 79, 3), (655, .pop, 1), (656, .goto 449, 3)]
theorem dk_c14 {i pc : Nat} {I : Instr} {n : Nat} (h : (dl_c14.drop i).head? = some (pc, I, n)) : decode code pc = .ok (I, n) := dl_of (cc := code) (show ∀ q ∈ dl_c14, decode code q.1 = .ok (q.2.1, q.2.2) from qd_tr (by decide +kernel)) h
def dl_c15 : List (Nat × Instr × Nat) := [(659, .aload_n 1, 1), (660, .aload_n 0, 1), (661, .iload_n 3, 1), (662, .iconst 1, 1), (663, .iadd, 1), (664, .iaload, 1), (665, .invokevirtual 80, 3), (668, .pop, 1), (669, .aload_n 2, 1), (670, .aload_n 0, 1), (671, .iload_n 3, 1), (672, .iconst 1, 1), (673, .iadd, 1), (674, .iaload, 1), (675, .invokevirtual 83, 3), (678, .pop, 1), (679, .goto 426, 3)]
theorem dk_c15 {i pc : Nat} {I : Instr} {n : Nat} (h : (dl_c15.drop i).head? = some (pc, I, n)) : decode code pc = .ok (I, n) := dl_of (cc := code) (show ∀ q ∈ dl_c15, decode code q.1 = .ok (q.2.1, q.2.2) from qd_tr (by decide +kernel)) h
def dl_c16 : List (Nat × Instr × Nat) := [(682, .aload_n 1, 1), (683, .aload_n 0, 1), (684, .iload_n 3, 1), (685, .iconst 1, 1), (686, .iadd, 1), (687, .iaload, 1), (688, .invokevirtual 84, 3), (691, .pop, 1), (692, .aload_n 2, 1), (693, .aload_n 0, 1), (694, .iload_n 3, 1), (695, .iconst 1, 1), (696, .iadd, 1), (697, .iaload, 1), (698, .invokevirtual 87, 3), (701, .pop, 1), (702, .goto 403, 3)]
theorem dk_c16 {i pc : Nat} {I : Instr} {n : Nat} (h : (dl_c16.drop i).head? = some (pc, I, n)) : decode code pc = .ok (I, n) := dl_of (cc := code) (show ∀ q ∈ dl_c16, decode code q.1 = .ok (q.2.1, q.2.2) from qd_tr (by decide +kernel)) h
def dl_c17 : List (Nat × Instr × Nat) := [(705, .aload_n 1, 1), (706, .aload_n 0, 1), (707, .iload_n 3, 1), (708, .iconst 1, 1), (709, .iadd, 1), (710, .iaload, 1), (711, .aload_n 0, 1), (712, .iload_n 3, 1), (713, .iconst 2, 1), (714, .iadd, 1), (715, .iaload, 1), (716, .invokevirtual 88, 3), (719, .pop, 1), (720, .aload_n 2, 1), (721, .aload_n 0, 1), (722, .iload_n 3, 1), (723, .iconst 1, 1), (724, .iadd, 1), (725, .iaload, 1), (726, .aload_n 0, 1), (727, .iload_n 3, 1), (728, .iconst 2, 1), (729, .iadd, 1), (730, .iaload, 1), (731, .invokevirtual 91, 3), (734, .pop, 1), (735, .goto 370, 3)]
theorem dk_c17 {i pc : Nat} {I : Instr} {n : Nat} (h : (dl_c17.drop i).head? = some (pc, I, n)) : decode code pc = .ok (I, n) := dl_of (cc := code) (show ∀ q ∈ dl_c17, decode code q.1 = .ok (q.2.1, q.2.2) from qd_tr (by decide +kernel)) h
def dl_c18 : List (Nat × Instr × Nat) := [(738, .aload_n 1, 1), (739, .aload_n 0, 1), (740, .iload_n 3, 1), (741, .iconst 1, 1), (742, .iadd, 1), (743, .iaload, 1), (744, .aload_n 0, 1), (745, .iload_n 3, 1), (746, .iconst 2, 1), (747, .iadd, 1), (748, .iaload, 1), (749, .aload_n 0, 1), (750, .iload_n 3, 1), (751, .iconst 3, 1), (752, .iadd, 1), (753, .iaload, 1), (754, .aload_n 0, 1), (755, .iload_n 3, 1), (756, .iconst 4, 1), (757, .iadd, 1), (758, .iaload, 1), (759, .aload_n 0, 1), (760, .iload_n 3, 1), (761, .iconst 5, 1), (762, .iadd, 1), (763, .iaload, 1), (764, .aload_n 0, 1), (765, .iload_n 3, 1), (766, .bipush 6, 2), (768, .iadd, 1), (769, .iaload, 1), (770, .aload_n 0, 1), (771, .iload_n 3, 1), (772, .bipush 7, 2), (774, .iadd, 1), (775, .iaload, 1), (776, .invokevirtual 92, 3), (779, .pop, 1), (780, .aload_n 2, 1), (781, .aload_n 0, 1), (782, .iload_n 3, 1), (783, .iconst 1, 1), (784, .iadd, 1), (785, .iaload, 1), (786, .aload_n 0, 1), (787, .iload_n 3, 1), (788, .iconst 2, 1), (789, .iadd, 1), (790, .iaload, 1), (791, .aload_n 0, 1), (792, .iload_n 3, 1), (793, .iconst 3, 1), (794, .iadd, 1), (795, .iaload, 1), (796, .aload_n 0, 1), (797, .iload_n 3, 1), (798, .iconst 4, 1), (799, .iadd, 1), (800, .iaload, 1), (801, .aload_n 0, 1), (802, .iload_n 3, 1), (803, .iconst 5, 1), (804, .iadd, 1), (805, .iaload, 1), (806, .aload_n 0, 1), (807, .iload_n 3, 1), (808, .bipush 6, 2), (810, .iadd, 1), (811, .iaload, 1), (812, .aload_n 0, 1), (813, .iload_n 3, 1), (814, .bipush 7, 2), (816, .iadd, 1), (817, .iaload, 1), (818, .invokevirtual 96, 3), (821, .pop, 1), (822, .goto 283, 3)]
theorem dk_c18 {i pc : Nat} {I : Instr} {n : Nat} (h : (dl_c18.drop i).head? = some (pc, I, n)) : decode code pc = .ok (I, n) := dl_of (cc := code) (show ∀ q ∈ dl_c18, decode code q.1 = .ok (q.2.1, q.2.2) from qd_tr (by decide +kernel)) h
def dl_c19 : List (Nat × Instr × Nat) := [(825, .aload_n 1, 1), (826, .aload_n 0, 1), (827, .iload_n 3, 1), (828, .iconst 1, 1), (829, .iadd, 1), (830, .iaload, 1), (831, .aload_n 0, 1), (832, .iload_n 3, 1), (833, .iconst 2, 1), (834, .iadd, 1), (835, .iaload, 1), (836, .aload_n 0, 1), (837, .iload_n 3, 1), (838, .iconst 3, 1), (839, .iadd, 1), (840, .iaload, 1), (841, .aload_n 0, 1), (842, .iload_n 3, 1), (843, .iconst 4, 1), (844, .iadd, 1), (845, .iaload, 1), (846, .invokevirtual 97, 3), (849, .pop, 1), (850, .aload_n 2, 1), (851, .aload_n 0, 1), (852, .iload_n 3, 1), (853, .iconst 1, 1), (854, .iadd, 1), (855, .iaload, 1), (856, .aload_n 0, 1), (857, .iload_n 3, 1), (858, .iconst 2, 1), (859, .iadd, 1), (860, .iaload, 1), (861, .aload_n 0, 1), (862, .iload_n 3, 1), (863, .iconst 3, 1), (864, .iadd, 1), (865, .iaload, 1), (866, .aload_n 0, 1), (867, .iload_n 3, 1), (868, .iconst 4, 1), (869, .iadd, 1), (870, .iaload, 1), (871, .invokevirtual 101, 3), (874, .pop, 1), (875, .goto 230, 3)]
theorem dk_c19 {i pc : Nat} {I : Instr} {n : Nat} (h : (dl_c19.drop i).head? = some (pc, I, n)) : decode code pc = .ok (I, n) := dl_of (cc := code) (show ∀ q ∈ dl_c19, decode code q.1 = .ok (q.2.1, q.2.2) from qd_tr (by decide +kernel)) h
def dl_c20 : List (Nat × Instr × Nat) := [(878, .aload_n 1, 1), (879, .aload_n 0, 1), (880, .iload_n 3, 1), (881, .iconst 1, 1), (882, .iadd, 1), (883, .iaload, 1), (884, .aload_n 0, 1), (885, .iload_n 3, 1), (886, .iconst 2, 1), (887, .iadd, 1), (888, .iaload, 1), (889, .invokevirtual 102, 3), (892, .pop, 1), (893, .aload_n 2, 1), (894, .aload_n 0, 1), (895, .iload_n 3, 1), (896, .iconst 1, 1), (897, .iadd, 1), (898, .iaload, 1), (899, .aload_n 0, 1), (900, .iload_n 3, 1), (901, .iconst 2, 1), (902, .iadd, 1), (903, .iaload, 1), (904, .invokevirtual 105, 3), (907, .pop, 1), (908, .goto 197, 3)]
theorem dk_c20 {i pc : Nat} {I : Instr} {n : Nat} (h : (dl_c20.drop i).head? = some (pc, I, n)) : decode code pc = .ok (I, n) := dl_of (cc := code) (show ∀ q ∈ dl_c20, decode code q.1 = .ok (q.2.1, q.2.2) from qd_tr (by decide +kernel)) h
def dl_c21 : List (Nat × Instr × Nat) := [(911, .aload_n 1, 1), (912, .aload_n 0, 1), (913, .iload_n 3, 1), (914, .iconst 1, 1), (915, .iadd, 1), (916, .iaload, 1), (917, .aload_n 0, 1), (918, .iload_n 3, 1), (919, .iconst 2, 1), (920, .iadd, 1), (921, .iaload, 1), (922, .invokevirtual 106, 3), (925, .pop, 1), (926, .aload_n 2, 1), (927, .aload_n 0, 1), (928, .iload_n 3, 1), (929, .iconst 1, 1), (930, .iadd, 1), (931, .iaload, 1), (932, .aload_n 0, 1), (933, .iload_n 3, 1), (934, .iconst 2, 1), (935, .iadd, 1), (936, .iaload, 1), (937, .invokevirtual 109, 3), (940, .pop, 1), (941, .goto 164, 3)]
theorem dk_c21 {i pc : Nat} {I : Instr} {n : Nat} (h : (dl_c21.drop i).head? = some (pc, I, n)) : decode code pc = .ok (I, n) := dl_of (cc := code) (show ∀ q ∈ dl_c21, decode code q.1 = .ok (q.2.1, q.2.2) from qd_tr (by decide +kernel)) h
def dl_c22 : List (Nat × Instr × Nat) := [(944, .aload_n 1, 1), (945, .aload_n 0, 1), (946, .iload_n 3, 1), (947, .iconst 1, 1), (948, .iadd, 1), (949, .iaload, 1), (950, .invokevirtual 110, 3), (953, .pop, 1), (954, .aload_n 2, 1), (955, .aload_n 0, 1), (956, .iload_n 3, 1), (957, .iconst 1, 1), (958, .iadd, 1), (959, .iaload, 1), (960, .invokevirtual 113, 3), (963, .pop, 1), (964, .goto 141, 3)]
theorem dk_c22 {i pc : Nat} {I : Instr} {n : Nat} (h : (dl_c22.drop i).head? = some (pc, I, n)) : decode code pc = .ok (I, n) := dl_of (cc := code) (show ∀ q ∈ dl_c22, decode code q.1 = .ok (q.2.1, q.2.2) from qd_tr (by decide +kernel)) h
def dl_c23 : List (Nat × Instr × Nat) := [(967, .aload_n 1, 1), (968, .aload_n 0, 1), (969, .iload_n 3, 1), (970, .iconst 1, 1), (971, .iadd, 1), (972, .iaload, 1), (973, .aload_n 0, 1), (974, .iload_n 3, 1), (975, .iconst 2, 1), (976, .iadd, 1), (977, .iaload, 1), (978, .invokevirtual 114, 3), (981, .pop, 1), (982, .aload_n 2, 1), (983, .aload_n 0, 1), (984, .iload_n 3, 1), (985, .iconst 1, 1), (986, .iadd, 1), (987, .iaload, 1), (988, .aload_n 0, 1), (989, .iload_n 3, 1), (990, .iconst 2, 1), (991, .iadd, 1), (992, .iaload, 1), (993, .invokevirtual 117, 3), (996, .pop, 1), (997, .goto 108, 3)]
theorem dk_c23 {i pc : Nat} {I : Instr} {n : Nat} (h : (dl_c23.drop i).head? = some (pc, I, n)) : decode code pc = .ok (I, n) := dl_of (cc := code) (show ∀ q ∈ dl_c23, decode code q.1 = .ok (q.2.1, q.2.2) from qd_tr (by decide +kernel)) h
def dl_c24 : List (Nat × Instr × Nat) := [(1000, .aload_n 1, 1), (1001, .aload_n 0, 1), (1002, .iload_n 3, 1), (1003, .iconst 1, 1), (1004, .iadd, 1), (1005, .iaload, 1), (1006, .invokevirtual 118, 3), (1009, .pop, 1), (1010, .aload_n 2, 1), (1011, .aload_n 0, 1), (1012, .iload_n 3, 1), (1013, .iconst 1, 1), (1014, .iadd, 1), (1015, .iaload, 1), (1016, .invokevirtual 121, 3), (1019, .pop, 1), (1020, .goto 85, 3)]
theorem dk_c24 {i pc : Nat} {I : Instr} {n : Nat} (h : (dl_c24.drop i).head? = some (pc, I, n)) : decode code pc = .ok (I, n) := dl_of (cc := code) (show ∀ q ∈ dl_c24, decode code q.1 = .ok (q.2.1, q.2.2) from qd_tr (by decide +kernel)) h
def dl_c25 : List (Nat × Instr × Nat) := [(1023, .aload_n 1, 1), (1024, .invokevirtual 122, 3), (1027, .pop, 1), (1028, .aload_n 2, 1), (1029, .invokevirtual 126, 3), (1032, .pop, 1), (1033, .goto 72, 3)]
theorem dk_c25 {i pc : Nat} {I : Instr} {n : Nat} (h : (dl_c25.drop i).head? = some (pc, I, n)) : decode code pc = .ok (I, n) := dl_of (cc := code) (show ∀ q ∈ dl_c25, decode code q.1 = .ok (q.2.1, q.2.2) from qd_tr (by decide +kernel)) h
def dl_c26 : List (Nat × Instr × Nat) := [(1036, .aload_n 1, 1), (1037, .invokevirtual 127, 3), (1040, .pop, 1), (1041, .aload_n 2, 1), (1042, .invokevirtual 131, 3), (1045, .pop, 1), (1046, .goto 59, 3)]
theorem dk_c26 {i pc : Nat} {I : Instr} {n : Nat} (h : (dl_c26.drop i).head? = some (pc, I, n)) : decode code pc = .ok (I, n) := dl_of (cc := code) (show ∀ q ∈ dl_c26, decode code q.1 = .ok (q.2.1, q.2.2) from qd_tr (by decide +kernel)) h
def dl_c27 : List (Nat × Instr × Nat) := [(1049, .aload_n 1, 1), (1050, .aload_n 0, 1), (1051, .iload_n 3, 1), (1052, .iconst 1, 1), (1053, .iadd, 1), (1054, .iaload, 1), (1055, .aload_n 0, 1), (1056, .iload_n 3, 1), (1057, .iconst 2, 1), (1058, .iadd, 1), (1059, .iaload, 1), (1060, .invokevirtual 132, 3), (1063, .pop, 1), (1064, .aload_n 2, 1), (1065, .aload_n 0, 1), (1066, .iload_n 3, 1), (1067, .iconst 1, 1), (1068, .iadd, 1), (1069, .iaload, 1), (1070, .aload_n 0, 1), (1071, .iload_n 3, 1), (1072, .iconst 2, 1), (1073, .iadd, 1), (1074, .iaload, 1), (1075, .invokevirtual 135, 3), (1078, .pop, 1), (1079, .goto 26, 3)]
theorem dk_c27 {i pc : Nat} {I : Instr} {n : Nat} (h : (dl_c27.drop i).head? = some (pc, I, n)) : decode code pc = .ok (I, n) := dl_of (cc := code) (show ∀ q ∈ dl_c27, decode code q.1 = .ok (q.2.1, q.2.2) from qd_tr (by decide +kernel)) h
def dl_c28 : List (Nat × Instr × Nat) := [(1082, .aload_n 1, 1), (1083, .aload_n 0, 1), (1084, .iload_n 3, 1), (1085, .iconst 1, 1), (1086, .iadd, 1), (1087, .iaload, 1), (1088, .invokevirtual 136, 3), (1091, .aload_n 2, 1), (1092, .aload_n 0, 1), (1093, .iload_n 3, 1), (1094, .iconst 1, 1), (1095, .iadd, 1), (1096, .iaload, 1), (1097, .invokevirtual 139, 3), (1100, .if_icmp .eq 5, 3), (1103, .iconst 0, 1), (1104, .ireturn, 1)]
theorem dk_c28 {i pc : Nat} {I : Instr} {n : Nat} (h : (dl_c28.drop i).head? = some (pc, I, n)) : decode code pc = .ok (I, n) := dl_of (cc := code) (show ∀ q ∈ dl_c28, decode code q.1 = .ok (q.2.1, q.2.2) from qd_tr (by decide +kernel)) h
theorem dk_sw : decode code 33 = .ok (.tableswitch 1072 0 28 #[131, 174, 207, 230, 263, 326, 349, 382, 415, 438, 471, 504, 537, 580, 603, 626, 649, 672, 705, 792, 845, 878, 911, 934, 967, 990, 1003, 1016, 1049], 131) := by decide +kernel
def LQ (b : Nat) (s : State) (below : List Frame) : State → Prop := lw_Z below #[Value.ref b] s
/-- where the law's loop stands -/
def LX (p : Program) (s : State) (mi : MethodId) (meth : Method) (c : Code) (b Ln : Nat) (xs : Nat → Int32) (w : MD) : Prop :=
  p.tables.exec = Jvm.exec ∧ c.code = code ∧ c.maxLocals = 4 ∧ s.vm.findClass RL = some mi.cls ∧ (∀ q ∈ TBG, q.before #[Value.ref b] s = true) ∧ WS w s ∧ WT w (fun q => s.heap.size ≤ q) s s.heap ∧ adOK w ∧ (∀ a, a < shN → s.heap.size ≤ w.2.2.1 a) ∧ va_X b Ln xs s s.heap ∧ b < s.heap.size ∧ Ln ≤ 4096
section LAW
variable {p : Program} {l : Launch} {e : Env} {s : State} {mi : MethodId} {below : List Frame} {meth : Method} {c : Code} {w : MD} {b Ln : Nat} {xs : Nat → Int32} {Q : State → Prop} {kc ks : Nat}
theorem lw_call (X : LX p s mi meth c b Ln xs w) (hkc : kc ≤ 600000) (hks : ks ≤ 7302250) {N : Mth} {n ci d1 idx pc a : Nat} (hN : NK N n) (hl : Cond.methodLink RL idx N.1 ∈ TBG) (hin : Cond.instanceMethod N.1 ∈ TBG) (hse : Cond.selects N.1.cls N.1 N.1 ∈ TBG) {T : u_T} {NN : Nat} (hc : vwCl[ci]? = some (N.1.cls, T, NN)) (ha : shk a = ci) {as rest st : List Value} {H : Heap} {locs : List Loc} {ls : Array Slot} {σ σ' : MH} {r : Int32} (hn : as.length = n) (e1 : st = (as.map (mv w)).reverse ++ .ref (w.2.2.1 a) :: rest) (hcat : (rest.map fun v => v.category).sum ≤ 8) (hd : d1 + 1 ≤ 100) (hP : va_P w.1 vwCl (wsO w σ) H) (hS : va_S (fun q => s.heap.size ≤ q) s.heap H locs) (hls : ls.size = 4) (hdg : decode code pc = .ok (.invokevirtual idx, 3)) (ev : Ev N d1 (.ref a :: as) σ (some (.int r)) σ')
    (kk : ∀ (H1 : Heap) (locs1 : List Loc), va_P w.1 vwCl (wsO w σ') H1 → va_S (fun q => s.heap.size ≤ q) s.heap H1 locs1 → W p l e room_1 s mi #[Value.ref b] below meth c H1 locs1 kc ks Q (F0 mi (pc + 3) ls (.int r :: rest))) : W p l e room_1 s mi #[Value.ref b] below meth c H locs kc ks Q (F0 mi pc ls st) := by
  obtain ⟨hx, hb, hml, hown, hts, hWS, hWT, had, hA, -, -, -⟩ := X
  have hB : ∀ q, s.heap.size ≤ q → (fun q => s.heap.size ≤ q) q := fun _ h => h
  subst e1
  have hR : 100 ≤ room_1.frames ∧ 64 * 100 ≤ room_1.locals := ⟨by decide, by decide⟩
  obtain ⟨k1, k2, k3, k4, k5, k6⟩ := hN.back hts hd hR.1 hR.2
  have hr := va_runV (C := N.1.cls) (b := w.2.2.1 a) (g := F0 mi pc ls ((as.map (mv w)).reverse ++ .ref (w.2.2.1 a) :: rest)) (rest := rest) (As := as.map (mv w)) (p := p) (l := l) (e := e) (below := below) (meth := meth) (locs := locs) (cells := kc) (slots := ks) ⟨hx, hb, hml, hown, hts⟩ (ev l w H.size) ⟨⟨k1, k2, k3, k4, k5, k6, hts _ hN.1, hts _ hN.2.1, hN.2.2.1, hN.len, hts _ hl⟩, hts _ hin, hts _ hse⟩ ⟨PEv.blind, recv_at hWS.1 hP ha hc, fun U hU hW => ⟨rfl, PEv.at (A := fun q => s.heap.size ≤ q) hWS hWT had hA hB hP hS U hU hW⟩⟩ rfl (by rw [List.length_map]; exact hn) hls rfl (lv_room hcat) hdg ⟨hkc, hks⟩
  intro T hT XX
  obtain ⟨vv, st₀, t, T', L2, hh0, XX', hL2, e1, e2, ⟨⟨hv, hp⟩, hz, hk2⟩, stt⟩ := hr T hT XX
  cases hv
  rw [hh0] at hz hk2
  have hFc : ∀ z, AF w H.size z → s.heap.size ≤ z := AF_in (A := fun q => s.heap.size ≤ q) hA hB hS.1
  have := kk T'.heap (locs ++ L2) (by rw [e1]; exact hp) ⟨Nat.le_trans hS.1 (by rw [e1]; exact hz), fun z hz1 hz2 => by rw [e1, hk2 z (Nat.lt_of_lt_of_le hz1 hS.1) (fun y => hz2 (hFc z y))]; exact hS.2.1 z hz1 hz2, fun z hz3 => by
    rcases List.mem_append.mp hz3 with h8 | h8
    · exact hS.2.2 z h8
    · exact hFc _ (hL2 z h8)⟩
  obtain ⟨t2, a2, b2⟩ := this T' rfl XX'
  exact ⟨t2, stt t2 a2, b2⟩
/-- an argument out of the script -/
theorem lw_arg (X : LX p s mi meth c b Ln xs w) {H : Heap} {locs : List Loc} (hS : va_S (fun q => s.heap.size ≤ q) s.heap H locs) {ls : Array Slot} {lv : List (Nat × Value)} (hl : lv_has ls 4 ((0, .ref b) :: lv)) {i k pc : Nat} {z : Int32} (hz : z = nI k) (h3 : ls[3]? = some (.val (.int (nI (8 * i))))) (hk : k < 8) (hi : 8 * i + 8 ≤ Ln) (d0 : decode code pc = .ok (.aload_n 0, 1)) (d1 : decode code (pc + 1) = .ok (.iload_n 3, 1)) {ln : Nat} (dc : ∀ {rest : List Value} {H : Heap} {locs : List Loc}, W p l e room_1 s mi #[Value.ref b] below meth c H locs kc ks Q (F0 mi (pc + 2 + ln) ls (.int z :: rest)) → W p l e room_1 s mi #[Value.ref b] below meth c H locs kc ks Q (F0 mi (pc + 2) ls rest)) (d3 : decode code (pc + 2 + ln) = .ok (.iadd, 1)) (d4 : decode code (pc + 2 + ln + 1) = .ok (.iaload, 1)) {rest : List Value}
    (kk : W p l e room_1 s mi #[Value.ref b] below meth c H locs kc ks Q (F0 mi (pc + 2 + ln + 2) ls (.int (xs (8 * i + k)) :: rest))) : W p l e room_1 s mi #[Value.ref b] below meth c H locs kc ks Q (F0 mi pc ls rest) := by
  obtain ⟨hx, hb, hml, hown, hts, hWS, hWT, had, hA, hX, hbl, hLn⟩ := X
  refine lv_aload_n hx hb d0 rfl (lv_at hl 0 rfl) ?_
  refine lv_iload_n hx hb d1 rfl h3 ?_
  refine dc ?_
  refine lv_iadd hx hb d3 ?_
  subst hz
  rw [nI_add]
  refine va_sld hx hb hX hbl (fun h => Nat.not_le.mpr hbl h) hS (vp_in_nI (by omega) (by omega)) d4 ?_
  rw [nI_clamp (by omega)]
  exact kk

def EC (E : Nat → Prop) : Prop := E 28
theorem lc_0 (X : LX p s mi meth c b Ln xs w) (hkc : kc ≤ 600000) (hks : ks ≤ 7302250) {Inv : Nat → MH → Prop} {E : Prop} (hst : ST0 E 4096 Inv) {σ : MH} {i : Nat} (hI : Inv i σ) {H : Heap} {locs : List Loc} {ls : Array Slot} (hP : va_P w.1 vwCl (wsO w σ) H) (hS : va_S (fun q => s.heap.size ≤ q) s.heap H locs) (hi : 8 * i + 8 ≤ Ln) (hl : lv_has ls 4 [(0, .ref b), (1, .ref (w.2.2.1 0)), (2, .ref (w.2.2.1 166)), (3, .int (nI (8 * i)))])
    (kk : ∀ (σ1 : MH) (H1 : Heap) (locs1 : List Loc), Inv (i + 1) σ1 → va_P w.1 vwCl (wsO w σ1) H1 → va_S (fun q => s.heap.size ≤ q) s.heap H1 locs1 → W p l e room_1 s mi #[Value.ref b] below meth c H1 locs1 kc ks Q (F0 mi 1105 ls [])) : W p l e room_1 s mi #[Value.ref b] below meth c H locs kc ks Q (F0 mi 164 ls []) := by
  have hx := X.1
  have hb := X.2.1
  have hBn : 8 * i + 8 ≤ 4096 := Nat.le_trans hi X.2.2.2.2.2.2.2.2.2.2.2
  obtain ⟨r, r', σ1, σ2, h1, h2, h3, hI2⟩ := hst i σ hBn hI (xs (8 * i + 1)) (xs (8 * i + 2)) (xs (8 * i + 3))
  refine lv_aload_n hx hb (dk_c0 (i := 0) rfl) rfl (lv_at hl 1 rfl) ?_
  refine lw_arg X hS hl (i := i) (k := 1) (z := 1) (ln := 1) (by decide) (lv_at hl 3 rfl) (by decide) hi (dk_c0 (i := 1) rfl) (dk_c0 (i := 2) rfl) (fun kz => lv_iconst hx hb (dk_c0 (i := 3) rfl) (by decide) kz) (dk_c0 (i := 4) rfl) (dk_c0 (i := 5) rfl) ?_
  refine lw_arg X hS hl (i := i) (k := 2) (z := 2) (ln := 1) (by decide) (lv_at hl 3 rfl) (by decide) hi (dk_c0 (i := 6) rfl) (dk_c0 (i := 7) rfl) (fun kz => lv_iconst hx hb (dk_c0 (i := 8) rfl) (by decide) kz) (dk_c0 (i := 9) rfl) (dk_c0 (i := 10) rfl) ?_
  refine lw_arg X hS hl (i := i) (k := 3) (z := 3) (ln := 1) (by decide) (lv_at hl 3 rfl) (by decide) hi (dk_c0 (i := 11) rfl) (dk_c0 (i := 12) rfl) (fun kz => lv_iconst hx hb (dk_c0 (i := 13) rfl) (by decide) kz) (dk_c0 (i := 14) rfl) (dk_c0 (i := 15) rfl) ?_
  refine lw_call X hkc hks nk_Pz_person tw548 tw549 tw550 (ci := 10) rfl (a := 0) rfl (as := [.int (xs (8 * i + 1)), .int (xs (8 * i + 2)), .int (xs (8 * i + 3))]) (rest := []) rfl rfl (Nat.le_of_ble_eq_true rfl) (Nat.le_of_ble_eq_true rfl) hP hS hl.1 (dk_c0 (i := 16) rfl) (ev_Pz_person _ _ _ _ h1) (fun HA locsA hPA hSA => ?_)
  refine lv_pop hx hb (dk_c0 (i := 17) rfl) rfl ?_
  refine lv_aload_n hx hb (dk_c0 (i := 18) rfl) rfl (lv_at hl 2 rfl) ?_
  refine lw_arg X hSA hl (i := i) (k := 1) (z := 1) (ln := 1) (by decide) (lv_at hl 3 rfl) (by decide) hi (dk_c0 (i := 19) rfl) (dk_c0 (i := 20) rfl) (fun kz => lv_iconst hx hb (dk_c0 (i := 21) rfl) (by decide) kz) (dk_c0 (i := 22) rfl) (dk_c0 (i := 23) rfl) ?_
  refine lw_arg X hSA hl (i := i) (k := 2) (z := 2) (ln := 1) (by decide) (lv_at hl 3 rfl) (by decide) hi (dk_c0 (i := 24) rfl) (dk_c0 (i := 25) rfl) (fun kz => lv_iconst hx hb (dk_c0 (i := 26) rfl) (by decide) kz) (dk_c0 (i := 27) rfl) (dk_c0 (i := 28) rfl) ?_
  refine lw_arg X hSA hl (i := i) (k := 3) (z := 3) (ln := 1) (by decide) (lv_at hl 3 rfl) (by decide) hi (dk_c0 (i := 29) rfl) (dk_c0 (i := 30) rfl) (fun kz => lv_iconst hx hb (dk_c0 (i := 31) rfl) (by decide) kz) (dk_c0 (i := 32) rfl) (dk_c0 (i := 33) rfl) ?_
  refine lw_call X hkc hks nk_Md_person tw1356 tw1357 tw1358 (ci := 11) rfl (a := 166) rfl (as := [.int (xs (8 * i + 1)), .int (xs (8 * i + 2)), .int (xs (8 * i + 3))]) (rest := []) rfl rfl (Nat.le_of_ble_eq_true rfl) (Nat.le_of_ble_eq_true rfl) hPA hSA hl.1 (dk_c0 (i := 34) rfl) (ev_Md_person _ _ _ _ h2) (fun HB locsB hPB hSB => ?_)
  refine lv_pop hx hb (dk_c0 (i := 35) rfl) rfl ?_
  exact lv_goto (tgt := 1105) hx hb (dk_c0 (i := 36) rfl) (by decide) (kk σ2 HB locsB hI2 hPB hSB)
theorem lc_1 (X : LX p s mi meth c b Ln xs w) (hkc : kc ≤ 600000) (hks : ks ≤ 7302250) {Inv : Nat → MH → Prop} {E : Prop} (hst : ST1 E 4096 Inv) {σ : MH} {i : Nat} (hI : Inv i σ) {H : Heap} {locs : List Loc} {ls : Array Slot} (hP : va_P w.1 vwCl (wsO w σ) H) (hS : va_S (fun q => s.heap.size ≤ q) s.heap H locs) (hi : 8 * i + 8 ≤ Ln) (hl : lv_has ls 4 [(0, .ref b), (1, .ref (w.2.2.1 0)), (2, .ref (w.2.2.1 166)), (3, .int (nI (8 * i)))])
    (kk : ∀ (σ1 : MH) (H1 : Heap) (locs1 : List Loc), Inv (i + 1) σ1 → va_P w.1 vwCl (wsO w σ1) H1 → va_S (fun q => s.heap.size ≤ q) s.heap H1 locs1 → W p l e room_1 s mi #[Value.ref b] below meth c H1 locs1 kc ks Q (F0 mi 1105 ls [])) : W p l e room_1 s mi #[Value.ref b] below meth c H locs kc ks Q (F0 mi 207 ls []) := by
  have hx := X.1
  have hb := X.2.1
  have hBn : 8 * i + 8 ≤ 4096 := Nat.le_trans hi X.2.2.2.2.2.2.2.2.2.2.2
  obtain ⟨r, r', σ1, σ2, h1, h2, h3, hI2⟩ := hst i σ hBn hI (xs (8 * i + 1)) (xs (8 * i + 2))
  refine lv_aload_n hx hb (dk_c1 (i := 0) rfl) rfl (lv_at hl 1 rfl) ?_
  refine lw_arg X hS hl (i := i) (k := 1) (z := 1) (ln := 1) (by decide) (lv_at hl 3 rfl) (by decide) hi (dk_c1 (i := 1) rfl) (dk_c1 (i := 2) rfl) (fun kz => lv_iconst hx hb (dk_c1 (i := 3) rfl) (by decide) kz) (dk_c1 (i := 4) rfl) (dk_c1 (i := 5) rfl) ?_
  refine lw_arg X hS hl (i := i) (k := 2) (z := 2) (ln := 1) (by decide) (lv_at hl 3 rfl) (by decide) hi (dk_c1 (i := 6) rfl) (dk_c1 (i := 7) rfl) (fun kz => lv_iconst hx hb (dk_c1 (i := 8) rfl) (by decide) kz) (dk_c1 (i := 9) rfl) (dk_c1 (i := 10) rfl) ?_
  refine lw_call X hkc hks nk_Pz_wear tw560 tw561 tw562 (ci := 10) rfl (a := 0) rfl (as := [.int (xs (8 * i + 1)), .int (xs (8 * i + 2))]) (rest := []) rfl rfl (Nat.le_of_ble_eq_true rfl) (Nat.le_of_ble_eq_true rfl) hP hS hl.1 (dk_c1 (i := 11) rfl) (ev_Pz_wear _ _ _ h1) (fun HA locsA hPA hSA => ?_)
  refine lv_pop hx hb (dk_c1 (i := 12) rfl) rfl ?_
  refine lv_aload_n hx hb (dk_c1 (i := 13) rfl) rfl (lv_at hl 2 rfl) ?_
  refine lw_arg X hSA hl (i := i) (k := 1) (z := 1) (ln := 1) (by decide) (lv_at hl 3 rfl) (by decide) hi (dk_c1 (i := 14) rfl) (dk_c1 (i := 15) rfl) (fun kz => lv_iconst hx hb (dk_c1 (i := 16) rfl) (by decide) kz) (dk_c1 (i := 17) rfl) (dk_c1 (i := 18) rfl) ?_
  refine lw_arg X hSA hl (i := i) (k := 2) (z := 2) (ln := 1) (by decide) (lv_at hl 3 rfl) (by decide) hi (dk_c1 (i := 19) rfl) (dk_c1 (i := 20) rfl) (fun kz => lv_iconst hx hb (dk_c1 (i := 21) rfl) (by decide) kz) (dk_c1 (i := 22) rfl) (dk_c1 (i := 23) rfl) ?_
  refine lw_call X hkc hks nk_Md_wear tw1373 tw1374 tw1375 (ci := 11) rfl (a := 166) rfl (as := [.int (xs (8 * i + 1)), .int (xs (8 * i + 2))]) (rest := []) rfl rfl (Nat.le_of_ble_eq_true rfl) (Nat.le_of_ble_eq_true rfl) hPA hSA hl.1 (dk_c1 (i := 24) rfl) (ev_Md_wear _ _ _ h2) (fun HB locsB hPB hSB => ?_)
  refine lv_pop hx hb (dk_c1 (i := 25) rfl) rfl ?_
  exact lv_goto (tgt := 1105) hx hb (dk_c1 (i := 26) rfl) (by decide) (kk σ2 HB locsB hI2 hPB hSB)
theorem lc_2 (X : LX p s mi meth c b Ln xs w) (hkc : kc ≤ 600000) (hks : ks ≤ 7302250) {Inv : Nat → MH → Prop} {E : Prop} (hst : ST2 E 4096 Inv) {σ : MH} {i : Nat} (hI : Inv i σ) {H : Heap} {locs : List Loc} {ls : Array Slot} (hP : va_P w.1 vwCl (wsO w σ) H) (hS : va_S (fun q => s.heap.size ≤ q) s.heap H locs) (hi : 8 * i + 8 ≤ Ln) (hl : lv_has ls 4 [(0, .ref b), (1, .ref (w.2.2.1 0)), (2, .ref (w.2.2.1 166)), (3, .int (nI (8 * i)))])
    (kk : ∀ (σ1 : MH) (H1 : Heap) (locs1 : List Loc), Inv (i + 1) σ1 → va_P w.1 vwCl (wsO w σ1) H1 → va_S (fun q => s.heap.size ≤ q) s.heap H1 locs1 → W p l e room_1 s mi #[Value.ref b] below meth c H1 locs1 kc ks Q (F0 mi 1105 ls [])) : W p l e room_1 s mi #[Value.ref b] below meth c H locs kc ks Q (F0 mi 240 ls []) := by
  have hx := X.1
  have hb := X.2.1
  have hBn : 8 * i + 8 ≤ 4096 := Nat.le_trans hi X.2.2.2.2.2.2.2.2.2.2.2
  obtain ⟨r, r', σ1, σ2, h1, h2, h3, hI2⟩ := hst i σ hBn hI (xs (8 * i + 1))
  refine lv_aload_n hx hb (dk_c2 (i := 0) rfl) rfl (lv_at hl 1 rfl) ?_
  refine lw_arg X hS hl (i := i) (k := 1) (z := 1) (ln := 1) (by decide) (lv_at hl 3 rfl) (by decide) hi (dk_c2 (i := 1) rfl) (dk_c2 (i := 2) rfl) (fun kz => lv_iconst hx hb (dk_c2 (i := 3) rfl) (by decide) kz) (dk_c2 (i := 4) rfl) (dk_c2 (i := 5) rfl) ?_
  refine lw_call X hkc hks nk_Pz_dies tw564 tw565 tw566 (ci := 10) rfl (a := 0) rfl (as := [.int (xs (8 * i + 1))]) (rest := []) rfl rfl (Nat.le_of_ble_eq_true rfl) (Nat.le_of_ble_eq_true rfl) hP hS hl.1 (dk_c2 (i := 6) rfl) (ev_Pz_dies _ _ h1) (fun HA locsA hPA hSA => ?_)
  refine lv_pop hx hb (dk_c2 (i := 7) rfl) rfl ?_
  refine lv_aload_n hx hb (dk_c2 (i := 8) rfl) rfl (lv_at hl 2 rfl) ?_
  refine lw_arg X hSA hl (i := i) (k := 1) (z := 1) (ln := 1) (by decide) (lv_at hl 3 rfl) (by decide) hi (dk_c2 (i := 9) rfl) (dk_c2 (i := 10) rfl) (fun kz => lv_iconst hx hb (dk_c2 (i := 11) rfl) (by decide) kz) (dk_c2 (i := 12) rfl) (dk_c2 (i := 13) rfl) ?_
  refine lw_call X hkc hks nk_Md_dies tw1377 tw1378 tw1379 (ci := 11) rfl (a := 166) rfl (as := [.int (xs (8 * i + 1))]) (rest := []) rfl rfl (Nat.le_of_ble_eq_true rfl) (Nat.le_of_ble_eq_true rfl) hPA hSA hl.1 (dk_c2 (i := 14) rfl) (ev_Md_dies _ _ h2) (fun HB locsB hPB hSB => ?_)
  refine lv_pop hx hb (dk_c2 (i := 15) rfl) rfl ?_
  exact lv_goto (tgt := 1105) hx hb (dk_c2 (i := 16) rfl) (by decide) (kk σ2 HB locsB hI2 hPB hSB)
theorem lc_3 (X : LX p s mi meth c b Ln xs w) (hkc : kc ≤ 600000) (hks : ks ≤ 7302250) {Inv : Nat → MH → Prop} {E : Prop} (hst : ST3 E 4096 Inv) {σ : MH} {i : Nat} (hI : Inv i σ) {H : Heap} {locs : List Loc} {ls : Array Slot} (hP : va_P w.1 vwCl (wsO w σ) H) (hS : va_S (fun q => s.heap.size ≤ q) s.heap H locs) (hi : 8 * i + 8 ≤ Ln) (hl : lv_has ls 4 [(0, .ref b), (1, .ref (w.2.2.1 0)), (2, .ref (w.2.2.1 166)), (3, .int (nI (8 * i)))])
    (kk : ∀ (σ1 : MH) (H1 : Heap) (locs1 : List Loc), Inv (i + 1) σ1 → va_P w.1 vwCl (wsO w σ1) H1 → va_S (fun q => s.heap.size ≤ q) s.heap H1 locs1 → W p l e room_1 s mi #[Value.ref b] below meth c H1 locs1 kc ks Q (F0 mi 1105 ls [])) : W p l e room_1 s mi #[Value.ref b] below meth c H locs kc ks Q (F0 mi 263 ls []) := by
  have hx := X.1
  have hb := X.2.1
  have hBn : 8 * i + 8 ≤ 4096 := Nat.le_trans hi X.2.2.2.2.2.2.2.2.2.2.2
  obtain ⟨r, r', σ1, σ2, h1, h2, h3, hI2⟩ := hst i σ hBn hI (xs (8 * i + 1)) (xs (8 * i + 2))
  refine lv_aload_n hx hb (dk_c3 (i := 0) rfl) rfl (lv_at hl 1 rfl) ?_
  refine lw_arg X hS hl (i := i) (k := 1) (z := 1) (ln := 1) (by decide) (lv_at hl 3 rfl) (by decide) hi (dk_c3 (i := 1) rfl) (dk_c3 (i := 2) rfl) (fun kz => lv_iconst hx hb (dk_c3 (i := 3) rfl) (by decide) kz) (dk_c3 (i := 4) rfl) (dk_c3 (i := 5) rfl) ?_
  refine lw_arg X hS hl (i := i) (k := 2) (z := 2) (ln := 1) (by decide) (lv_at hl 3 rfl) (by decide) hi (dk_c3 (i := 6) rfl) (dk_c3 (i := 7) rfl) (fun kz => lv_iconst hx hb (dk_c3 (i := 8) rfl) (by decide) kz) (dk_c3 (i := 9) rfl) (dk_c3 (i := 10) rfl) ?_
  refine lw_call X hkc hks nk_Pz_weds tw580 tw581 tw582 (ci := 10) rfl (a := 0) rfl (as := [.int (xs (8 * i + 1)), .int (xs (8 * i + 2))]) (rest := []) rfl rfl (Nat.le_of_ble_eq_true rfl) (Nat.le_of_ble_eq_true rfl) hP hS hl.1 (dk_c3 (i := 11) rfl) (ev_Pz_weds _ _ _ h1) (fun HA locsA hPA hSA => ?_)
  refine lv_pop hx hb (dk_c3 (i := 12) rfl) rfl ?_
  refine lv_aload_n hx hb (dk_c3 (i := 13) rfl) rfl (lv_at hl 2 rfl) ?_
  refine lw_arg X hSA hl (i := i) (k := 1) (z := 1) (ln := 1) (by decide) (lv_at hl 3 rfl) (by decide) hi (dk_c3 (i := 14) rfl) (dk_c3 (i := 15) rfl) (fun kz => lv_iconst hx hb (dk_c3 (i := 16) rfl) (by decide) kz) (dk_c3 (i := 17) rfl) (dk_c3 (i := 18) rfl) ?_
  refine lw_arg X hSA hl (i := i) (k := 2) (z := 2) (ln := 1) (by decide) (lv_at hl 3 rfl) (by decide) hi (dk_c3 (i := 19) rfl) (dk_c3 (i := 20) rfl) (fun kz => lv_iconst hx hb (dk_c3 (i := 21) rfl) (by decide) kz) (dk_c3 (i := 22) rfl) (dk_c3 (i := 23) rfl) ?_
  refine lw_call X hkc hks nk_Md_weds tw1389 tw1390 tw1391 (ci := 11) rfl (a := 166) rfl (as := [.int (xs (8 * i + 1)), .int (xs (8 * i + 2))]) (rest := []) rfl rfl (Nat.le_of_ble_eq_true rfl) (Nat.le_of_ble_eq_true rfl) hPA hSA hl.1 (dk_c3 (i := 24) rfl) (ev_Md_weds _ _ _ h2) (fun HB locsB hPB hSB => ?_)
  refine lv_pop hx hb (dk_c3 (i := 25) rfl) rfl ?_
  exact lv_goto (tgt := 1105) hx hb (dk_c3 (i := 26) rfl) (by decide) (kk σ2 HB locsB hI2 hPB hSB)
theorem lc_4 (X : LX p s mi meth c b Ln xs w) (hkc : kc ≤ 600000) (hks : ks ≤ 7302250) {Inv : Nat → MH → Prop} {E : Prop} (hst : ST4 E 4096 Inv) {σ : MH} {i : Nat} (hI : Inv i σ) {H : Heap} {locs : List Loc} {ls : Array Slot} (hP : va_P w.1 vwCl (wsO w σ) H) (hS : va_S (fun q => s.heap.size ≤ q) s.heap H locs) (hi : 8 * i + 8 ≤ Ln) (hl : lv_has ls 4 [(0, .ref b), (1, .ref (w.2.2.1 0)), (2, .ref (w.2.2.1 166)), (3, .int (nI (8 * i)))])
    (kk : ∀ (σ1 : MH) (H1 : Heap) (locs1 : List Loc), Inv (i + 1) σ1 → va_P w.1 vwCl (wsO w σ1) H1 → va_S (fun q => s.heap.size ≤ q) s.heap H1 locs1 → W p l e room_1 s mi #[Value.ref b] below meth c H1 locs1 kc ks Q (F0 mi 1105 ls [])) : W p l e room_1 s mi #[Value.ref b] below meth c H locs kc ks Q (F0 mi 296 ls []) := by
  have hx := X.1
  have hb := X.2.1
  have hBn : 8 * i + 8 ≤ 4096 := Nat.le_trans hi X.2.2.2.2.2.2.2.2.2.2.2
  obtain ⟨r, r', σ1, σ2, h1, h2, h3, hI2⟩ := hst i σ hBn hI (xs (8 * i + 1)) (xs (8 * i + 2)) (xs (8 * i + 3)) (xs (8 * i + 4)) (xs (8 * i + 5))
  refine lv_aload_n hx hb (dk_c4 (i := 0) rfl) rfl (lv_at hl 1 rfl) ?_
  refine lw_arg X hS hl (i := i) (k := 1) (z := 1) (ln := 1) (by decide) (lv_at hl 3 rfl) (by decide) hi (dk_c4 (i := 1) rfl) (dk_c4 (i := 2) rfl) (fun kz => lv_iconst hx hb (dk_c4 (i := 3) rfl) (by decide) kz) (dk_c4 (i := 4) rfl) (dk_c4 (i := 5) rfl) ?_
  refine lw_arg X hS hl (i := i) (k := 2) (z := 2) (ln := 1) (by decide) (lv_at hl 3 rfl) (by decide) hi (dk_c4 (i := 6) rfl) (dk_c4 (i := 7) rfl) (fun kz => lv_iconst hx hb (dk_c4 (i := 8) rfl) (by decide) kz) (dk_c4 (i := 9) rfl) (dk_c4 (i := 10) rfl) ?_
  refine lw_arg X hS hl (i := i) (k := 3) (z := 3) (ln := 1) (by decide) (lv_at hl 3 rfl) (by decide) hi (dk_c4 (i := 11) rfl) (dk_c4 (i := 12) rfl) (fun kz => lv_iconst hx hb (dk_c4 (i := 13) rfl) (by decide) kz) (dk_c4 (i := 14) rfl) (dk_c4 (i := 15) rfl) ?_
  refine lw_arg X hS hl (i := i) (k := 4) (z := 4) (ln := 1) (by decide) (lv_at hl 3 rfl) (by decide) hi (dk_c4 (i := 16) rfl) (dk_c4 (i := 17) rfl) (fun kz => lv_iconst hx hb (dk_c4 (i := 18) rfl) (by decide) kz) (dk_c4 (i := 19) rfl) (dk_c4 (i := 20) rfl) ?_
  refine lw_arg X hS hl (i := i) (k := 5) (z := 5) (ln := 1) (by decide) (lv_at hl 3 rfl) (by decide) hi (dk_c4 (i := 21) rfl) (dk_c4 (i := 22) rfl) (fun kz => lv_iconst hx hb (dk_c4 (i := 23) rfl) (by decide) kz) (dk_c4 (i := 24) rfl) (dk_c4 (i := 25) rfl) ?_
  refine lw_call X hkc hks nk_Pz_feed tw593 tw594 tw595 (ci := 10) rfl (a := 0) rfl (as := [.int (xs (8 * i + 1)), .int (xs (8 * i + 2)), .int (xs (8 * i + 3)), .int (xs (8 * i + 4)), .int (xs (8 * i + 5))]) (rest := []) rfl rfl (Nat.le_of_ble_eq_true rfl) (Nat.le_of_ble_eq_true rfl) hP hS hl.1 (dk_c4 (i := 26) rfl) (ev_Pz_feed _ _ _ _ _ _ h1) (fun HA locsA hPA hSA => ?_)
  refine lv_pop hx hb (dk_c4 (i := 27) rfl) rfl ?_
  refine lv_aload_n hx hb (dk_c4 (i := 28) rfl) rfl (lv_at hl 2 rfl) ?_
  refine lw_arg X hSA hl (i := i) (k := 1) (z := 1) (ln := 1) (by decide) (lv_at hl 3 rfl) (by decide) hi (dk_c4 (i := 29) rfl) (dk_c4 (i := 30) rfl) (fun kz => lv_iconst hx hb (dk_c4 (i := 31) rfl) (by decide) kz) (dk_c4 (i := 32) rfl) (dk_c4 (i := 33) rfl) ?_
  refine lw_arg X hSA hl (i := i) (k := 2) (z := 2) (ln := 1) (by decide) (lv_at hl 3 rfl) (by decide) hi (dk_c4 (i := 34) rfl) (dk_c4 (i := 35) rfl) (fun kz => lv_iconst hx hb (dk_c4 (i := 36) rfl) (by decide) kz) (dk_c4 (i := 37) rfl) (dk_c4 (i := 38) rfl) ?_
  refine lw_arg X hSA hl (i := i) (k := 3) (z := 3) (ln := 1) (by decide) (lv_at hl 3 rfl) (by decide) hi (dk_c4 (i := 39) rfl) (dk_c4 (i := 40) rfl) (fun kz => lv_iconst hx hb (dk_c4 (i := 41) rfl) (by decide) kz) (dk_c4 (i := 42) rfl) (dk_c4 (i := 43) rfl) ?_
  refine lw_arg X hSA hl (i := i) (k := 4) (z := 4) (ln := 1) (by decide) (lv_at hl 3 rfl) (by decide) hi (dk_c4 (i := 44) rfl) (dk_c4 (i := 45) rfl) (fun kz => lv_iconst hx hb (dk_c4 (i := 46) rfl) (by decide) kz) (dk_c4 (i := 47) rfl) (dk_c4 (i := 48) rfl) ?_
  refine lw_arg X hSA hl (i := i) (k := 5) (z := 5) (ln := 1) (by decide) (lv_at hl 3 rfl) (by decide) hi (dk_c4 (i := 49) rfl) (dk_c4 (i := 50) rfl) (fun kz => lv_iconst hx hb (dk_c4 (i := 51) rfl) (by decide) kz) (dk_c4 (i := 52) rfl) (dk_c4 (i := 53) rfl) ?_
  refine lw_call X hkc hks nk_Md_feed tw1401 tw1402 tw1403 (ci := 11) rfl (a := 166) rfl (as := [.int (xs (8 * i + 1)), .int (xs (8 * i + 2)), .int (xs (8 * i + 3)), .int (xs (8 * i + 4)), .int (xs (8 * i + 5))]) (rest := []) rfl rfl (Nat.le_of_ble_eq_true rfl) (Nat.le_of_ble_eq_true rfl) hPA hSA hl.1 (dk_c4 (i := 54) rfl) (ev_Md_feed _ _ _ _ _ _ h2) (fun HB locsB hPB hSB => ?_)
  refine lv_pop hx hb (dk_c4 (i := 55) rfl) rfl ?_
  exact lv_goto (tgt := 1105) hx hb (dk_c4 (i := 56) rfl) (by decide) (kk σ2 HB locsB hI2 hPB hSB)
theorem lc_5 (X : LX p s mi meth c b Ln xs w) (hkc : kc ≤ 600000) (hks : ks ≤ 7302250) {Inv : Nat → MH → Prop} {E : Prop} (hst : ST5 E 4096 Inv) {σ : MH} {i : Nat} (hI : Inv i σ) {H : Heap} {locs : List Loc} {ls : Array Slot} (hP : va_P w.1 vwCl (wsO w σ) H) (hS : va_S (fun q => s.heap.size ≤ q) s.heap H locs) (hi : 8 * i + 8 ≤ Ln) (hl : lv_has ls 4 [(0, .ref b), (1, .ref (w.2.2.1 0)), (2, .ref (w.2.2.1 166)), (3, .int (nI (8 * i)))])
    (kk : ∀ (σ1 : MH) (H1 : Heap) (locs1 : List Loc), Inv (i + 1) σ1 → va_P w.1 vwCl (wsO w σ1) H1 → va_S (fun q => s.heap.size ≤ q) s.heap H1 locs1 → W p l e room_1 s mi #[Value.ref b] below meth c H1 locs1 kc ks Q (F0 mi 1105 ls [])) : W p l e room_1 s mi #[Value.ref b] below meth c H locs kc ks Q (F0 mi 359 ls []) := by
  have hx := X.1
  have hb := X.2.1
  have hBn : 8 * i + 8 ≤ 4096 := Nat.le_trans hi X.2.2.2.2.2.2.2.2.2.2.2
  obtain ⟨r, r', σ1, σ2, h1, h2, h3, hI2⟩ := hst i σ hBn hI (xs (8 * i + 1))
  refine lv_aload_n hx hb (dk_c5 (i := 0) rfl) rfl (lv_at hl 1 rfl) ?_
  refine lw_arg X hS hl (i := i) (k := 1) (z := 1) (ln := 1) (by decide) (lv_at hl 3 rfl) (by decide) hi (dk_c5 (i := 1) rfl) (dk_c5 (i := 2) rfl) (fun kz => lv_iconst hx hb (dk_c5 (i := 3) rfl) (by decide) kz) (dk_c5 (i := 4) rfl) (dk_c5 (i := 5) rfl) ?_
  refine lw_call X hkc hks nk_Pz_law tw601 tw602 tw603 (ci := 10) rfl (a := 0) rfl (as := [.int (xs (8 * i + 1))]) (rest := []) rfl rfl (Nat.le_of_ble_eq_true rfl) (Nat.le_of_ble_eq_true rfl) hP hS hl.1 (dk_c5 (i := 6) rfl) (ev_Pz_law _ _ h1) (fun HA locsA hPA hSA => ?_)
  refine lv_pop hx hb (dk_c5 (i := 7) rfl) rfl ?_
  refine lv_aload_n hx hb (dk_c5 (i := 8) rfl) rfl (lv_at hl 2 rfl) ?_
  refine lw_arg X hSA hl (i := i) (k := 1) (z := 1) (ln := 1) (by decide) (lv_at hl 3 rfl) (by decide) hi (dk_c5 (i := 9) rfl) (dk_c5 (i := 10) rfl) (fun kz => lv_iconst hx hb (dk_c5 (i := 11) rfl) (by decide) kz) (dk_c5 (i := 12) rfl) (dk_c5 (i := 13) rfl) ?_
  refine lw_call X hkc hks nk_Md_law tw1409 tw1410 tw1411 (ci := 11) rfl (a := 166) rfl (as := [.int (xs (8 * i + 1))]) (rest := []) rfl rfl (Nat.le_of_ble_eq_true rfl) (Nat.le_of_ble_eq_true rfl) hPA hSA hl.1 (dk_c5 (i := 14) rfl) (ev_Md_law _ _ h2) (fun HB locsB hPB hSB => ?_)
  refine lv_pop hx hb (dk_c5 (i := 15) rfl) rfl ?_
  exact lv_goto (tgt := 1105) hx hb (dk_c5 (i := 16) rfl) (by decide) (kk σ2 HB locsB hI2 hPB hSB)
theorem lc_6 (X : LX p s mi meth c b Ln xs w) (hkc : kc ≤ 600000) (hks : ks ≤ 7302250) {Inv : Nat → MH → Prop} {E : Prop} (hst : ST6 E 4096 Inv) {σ : MH} {i : Nat} (hI : Inv i σ) {H : Heap} {locs : List Loc} {ls : Array Slot} (hP : va_P w.1 vwCl (wsO w σ) H) (hS : va_S (fun q => s.heap.size ≤ q) s.heap H locs) (hi : 8 * i + 8 ≤ Ln) (hl : lv_has ls 4 [(0, .ref b), (1, .ref (w.2.2.1 0)), (2, .ref (w.2.2.1 166)), (3, .int (nI (8 * i)))])
    (kk : ∀ (σ1 : MH) (H1 : Heap) (locs1 : List Loc), Inv (i + 1) σ1 → va_P w.1 vwCl (wsO w σ1) H1 → va_S (fun q => s.heap.size ≤ q) s.heap H1 locs1 → W p l e room_1 s mi #[Value.ref b] below meth c H1 locs1 kc ks Q (F0 mi 1105 ls [])) : W p l e room_1 s mi #[Value.ref b] below meth c H locs kc ks Q (F0 mi 382 ls []) := by
  have hx := X.1
  have hb := X.2.1
  have hBn : 8 * i + 8 ≤ 4096 := Nat.le_trans hi X.2.2.2.2.2.2.2.2.2.2.2
  obtain ⟨r, r', σ1, σ2, h1, h2, h3, hI2⟩ := hst i σ hBn hI (xs (8 * i + 1)) (xs (8 * i + 2))
  refine lv_aload_n hx hb (dk_c6 (i := 0) rfl) rfl (lv_at hl 1 rfl) ?_
  refine lw_arg X hS hl (i := i) (k := 1) (z := 1) (ln := 1) (by decide) (lv_at hl 3 rfl) (by decide) hi (dk_c6 (i := 1) rfl) (dk_c6 (i := 2) rfl) (fun kz => lv_iconst hx hb (dk_c6 (i := 3) rfl) (by decide) kz) (dk_c6 (i := 4) rfl) (dk_c6 (i := 5) rfl) ?_
  refine lw_arg X hS hl (i := i) (k := 2) (z := 2) (ln := 1) (by decide) (lv_at hl 3 rfl) (by decide) hi (dk_c6 (i := 6) rfl) (dk_c6 (i := 7) rfl) (fun kz => lv_iconst hx hb (dk_c6 (i := 8) rfl) (by decide) kz) (dk_c6 (i := 9) rfl) (dk_c6 (i := 10) rfl) ?_
  refine lw_call X hkc hks nk_Pz_edge tw787 tw788 tw789 (ci := 10) rfl (a := 0) rfl (as := [.int (xs (8 * i + 1)), .int (xs (8 * i + 2))]) (rest := []) rfl rfl (Nat.le_of_ble_eq_true rfl) (Nat.le_of_ble_eq_true rfl) hP hS hl.1 (dk_c6 (i := 11) rfl) (ev_Pz_edge _ _ _ h1) (fun HA locsA hPA hSA => ?_)
  refine lv_pop hx hb (dk_c6 (i := 12) rfl) rfl ?_
  refine lv_aload_n hx hb (dk_c6 (i := 13) rfl) rfl (lv_at hl 2 rfl) ?_
  refine lw_arg X hSA hl (i := i) (k := 1) (z := 1) (ln := 1) (by decide) (lv_at hl 3 rfl) (by decide) hi (dk_c6 (i := 14) rfl) (dk_c6 (i := 15) rfl) (fun kz => lv_iconst hx hb (dk_c6 (i := 16) rfl) (by decide) kz) (dk_c6 (i := 17) rfl) (dk_c6 (i := 18) rfl) ?_
  refine lw_arg X hSA hl (i := i) (k := 2) (z := 2) (ln := 1) (by decide) (lv_at hl 3 rfl) (by decide) hi (dk_c6 (i := 19) rfl) (dk_c6 (i := 20) rfl) (fun kz => lv_iconst hx hb (dk_c6 (i := 21) rfl) (by decide) kz) (dk_c6 (i := 22) rfl) (dk_c6 (i := 23) rfl) ?_
  refine lw_call X hkc hks nk_Md_edge tw1495 tw1496 tw1497 (ci := 11) rfl (a := 166) rfl (as := [.int (xs (8 * i + 1)), .int (xs (8 * i + 2))]) (rest := []) rfl rfl (Nat.le_of_ble_eq_true rfl) (Nat.le_of_ble_eq_true rfl) hPA hSA hl.1 (dk_c6 (i := 24) rfl) (ev_Md_edge _ _ _ h2) (fun HB locsB hPB hSB => ?_)
  refine lv_pop hx hb (dk_c6 (i := 25) rfl) rfl ?_
  exact lv_goto (tgt := 1105) hx hb (dk_c6 (i := 26) rfl) (by decide) (kk σ2 HB locsB hI2 hPB hSB)
theorem lc_7 (X : LX p s mi meth c b Ln xs w) (hkc : kc ≤ 600000) (hks : ks ≤ 7302250) {Inv : Nat → MH → Prop} {E : Prop} (hst : ST7 E 4096 Inv) {σ : MH} {i : Nat} (hI : Inv i σ) {H : Heap} {locs : List Loc} {ls : Array Slot} (hP : va_P w.1 vwCl (wsO w σ) H) (hS : va_S (fun q => s.heap.size ≤ q) s.heap H locs) (hi : 8 * i + 8 ≤ Ln) (hl : lv_has ls 4 [(0, .ref b), (1, .ref (w.2.2.1 0)), (2, .ref (w.2.2.1 166)), (3, .int (nI (8 * i)))])
    (kk : ∀ (σ1 : MH) (H1 : Heap) (locs1 : List Loc), Inv (i + 1) σ1 → va_P w.1 vwCl (wsO w σ1) H1 → va_S (fun q => s.heap.size ≤ q) s.heap H1 locs1 → W p l e room_1 s mi #[Value.ref b] below meth c H1 locs1 kc ks Q (F0 mi 1105 ls [])) : W p l e room_1 s mi #[Value.ref b] below meth c H locs kc ks Q (F0 mi 415 ls []) := by
  have hx := X.1
  have hb := X.2.1
  have hBn : 8 * i + 8 ≤ 4096 := Nat.le_trans hi X.2.2.2.2.2.2.2.2.2.2.2
  obtain ⟨r, r', σ1, σ2, h1, h2, h3, hI2⟩ := hst i σ hBn hI (xs (8 * i + 1)) (xs (8 * i + 2))
  refine lv_aload_n hx hb (dk_c7 (i := 0) rfl) rfl (lv_at hl 1 rfl) ?_
  refine lw_arg X hS hl (i := i) (k := 1) (z := 1) (ln := 1) (by decide) (lv_at hl 3 rfl) (by decide) hi (dk_c7 (i := 1) rfl) (dk_c7 (i := 2) rfl) (fun kz => lv_iconst hx hb (dk_c7 (i := 3) rfl) (by decide) kz) (dk_c7 (i := 4) rfl) (dk_c7 (i := 5) rfl) ?_
  refine lw_arg X hS hl (i := i) (k := 2) (z := 2) (ln := 1) (by decide) (lv_at hl 3 rfl) (by decide) hi (dk_c7 (i := 6) rfl) (dk_c7 (i := 7) rfl) (fun kz => lv_iconst hx hb (dk_c7 (i := 8) rfl) (by decide) kz) (dk_c7 (i := 9) rfl) (dk_c7 (i := 10) rfl) ?_
  refine lw_call X hkc hks nk_Pz_journey tw826 tw827 tw828 (ci := 10) rfl (a := 0) rfl (as := [.int (xs (8 * i + 1)), .int (xs (8 * i + 2))]) (rest := []) rfl rfl (Nat.le_of_ble_eq_true rfl) (Nat.le_of_ble_eq_true rfl) hP hS hl.1 (dk_c7 (i := 11) rfl) (ev_Pz_journey _ _ _ h1) (fun HA locsA hPA hSA => ?_)
  refine lv_pop hx hb (dk_c7 (i := 12) rfl) rfl ?_
  refine lv_aload_n hx hb (dk_c7 (i := 13) rfl) rfl (lv_at hl 2 rfl) ?_
  refine lw_arg X hSA hl (i := i) (k := 1) (z := 1) (ln := 1) (by decide) (lv_at hl 3 rfl) (by decide) hi (dk_c7 (i := 14) rfl) (dk_c7 (i := 15) rfl) (fun kz => lv_iconst hx hb (dk_c7 (i := 16) rfl) (by decide) kz) (dk_c7 (i := 17) rfl) (dk_c7 (i := 18) rfl) ?_
  refine lw_arg X hSA hl (i := i) (k := 2) (z := 2) (ln := 1) (by decide) (lv_at hl 3 rfl) (by decide) hi (dk_c7 (i := 19) rfl) (dk_c7 (i := 20) rfl) (fun kz => lv_iconst hx hb (dk_c7 (i := 21) rfl) (by decide) kz) (dk_c7 (i := 22) rfl) (dk_c7 (i := 23) rfl) ?_
  refine lw_call X hkc hks nk_Md_journey tw1506 tw1507 tw1508 (ci := 11) rfl (a := 166) rfl (as := [.int (xs (8 * i + 1)), .int (xs (8 * i + 2))]) (rest := []) rfl rfl (Nat.le_of_ble_eq_true rfl) (Nat.le_of_ble_eq_true rfl) hPA hSA hl.1 (dk_c7 (i := 24) rfl) (ev_Md_journey _ _ _ h2) (fun HB locsB hPB hSB => ?_)
  refine lv_pop hx hb (dk_c7 (i := 25) rfl) rfl ?_
  exact lv_goto (tgt := 1105) hx hb (dk_c7 (i := 26) rfl) (by decide) (kk σ2 HB locsB hI2 hPB hSB)
theorem lc_8 (X : LX p s mi meth c b Ln xs w) (hkc : kc ≤ 600000) (hks : ks ≤ 7302250) {Inv : Nat → MH → Prop} {E : Prop} (hst : ST8 E 4096 Inv) {σ : MH} {i : Nat} (hI : Inv i σ) {H : Heap} {locs : List Loc} {ls : Array Slot} (hP : va_P w.1 vwCl (wsO w σ) H) (hS : va_S (fun q => s.heap.size ≤ q) s.heap H locs) (hi : 8 * i + 8 ≤ Ln) (hl : lv_has ls 4 [(0, .ref b), (1, .ref (w.2.2.1 0)), (2, .ref (w.2.2.1 166)), (3, .int (nI (8 * i)))])
    (kk : ∀ (σ1 : MH) (H1 : Heap) (locs1 : List Loc), Inv (i + 1) σ1 → va_P w.1 vwCl (wsO w σ1) H1 → va_S (fun q => s.heap.size ≤ q) s.heap H1 locs1 → W p l e room_1 s mi #[Value.ref b] below meth c H1 locs1 kc ks Q (F0 mi 1105 ls [])) : W p l e room_1 s mi #[Value.ref b] below meth c H locs kc ks Q (F0 mi 448 ls []) := by
  have hx := X.1
  have hb := X.2.1
  have hBn : 8 * i + 8 ≤ 4096 := Nat.le_trans hi X.2.2.2.2.2.2.2.2.2.2.2
  obtain ⟨r, r', σ1, σ2, h1, h2, h3, hI2⟩ := hst i σ hBn hI (xs (8 * i + 1))
  refine lv_aload_n hx hb (dk_c8 (i := 0) rfl) rfl (lv_at hl 1 rfl) ?_
  refine lw_arg X hS hl (i := i) (k := 1) (z := 1) (ln := 1) (by decide) (lv_at hl 3 rfl) (by decide) hi (dk_c8 (i := 1) rfl) (dk_c8 (i := 2) rfl) (fun kz => lv_iconst hx hb (dk_c8 (i := 3) rfl) (by decide) kz) (dk_c8 (i := 4) rfl) (dk_c8 (i := 5) rfl) ?_
  refine lw_call X hkc hks nk_Pz_days tw835 tw836 tw837 (ci := 10) rfl (a := 0) rfl (as := [.int (xs (8 * i + 1))]) (rest := []) rfl rfl (Nat.le_of_ble_eq_true rfl) (Nat.le_of_ble_eq_true rfl) hP hS hl.1 (dk_c8 (i := 6) rfl) (ev_Pz_days _ _ h1) (fun HA locsA hPA hSA => ?_)
  refine lv_pop hx hb (dk_c8 (i := 7) rfl) rfl ?_
  refine lv_aload_n hx hb (dk_c8 (i := 8) rfl) rfl (lv_at hl 2 rfl) ?_
  refine lw_arg X hSA hl (i := i) (k := 1) (z := 1) (ln := 1) (by decide) (lv_at hl 3 rfl) (by decide) hi (dk_c8 (i := 9) rfl) (dk_c8 (i := 10) rfl) (fun kz => lv_iconst hx hb (dk_c8 (i := 11) rfl) (by decide) kz) (dk_c8 (i := 12) rfl) (dk_c8 (i := 13) rfl) ?_
  refine lw_call X hkc hks nk_Md_days tw1514 tw1515 tw1516 (ci := 11) rfl (a := 166) rfl (as := [.int (xs (8 * i + 1))]) (rest := []) rfl rfl (Nat.le_of_ble_eq_true rfl) (Nat.le_of_ble_eq_true rfl) hPA hSA hl.1 (dk_c8 (i := 14) rfl) (ev_Md_days _ _ h2) (fun HB locsB hPB hSB => ?_)
  refine lv_pop hx hb (dk_c8 (i := 15) rfl) rfl ?_
  exact lv_goto (tgt := 1105) hx hb (dk_c8 (i := 16) rfl) (by decide) (kk σ2 HB locsB hI2 hPB hSB)
theorem lc_9 (X : LX p s mi meth c b Ln xs w) (hkc : kc ≤ 600000) (hks : ks ≤ 7302250) {Inv : Nat → MH → Prop} {E : Prop} (hst : ST9 E 4096 Inv) {σ : MH} {i : Nat} (hI : Inv i σ) {H : Heap} {locs : List Loc} {ls : Array Slot} (hP : va_P w.1 vwCl (wsO w σ) H) (hS : va_S (fun q => s.heap.size ≤ q) s.heap H locs) (hi : 8 * i + 8 ≤ Ln) (hl : lv_has ls 4 [(0, .ref b), (1, .ref (w.2.2.1 0)), (2, .ref (w.2.2.1 166)), (3, .int (nI (8 * i)))])
    (kk : ∀ (σ1 : MH) (H1 : Heap) (locs1 : List Loc), Inv (i + 1) σ1 → va_P w.1 vwCl (wsO w σ1) H1 → va_S (fun q => s.heap.size ≤ q) s.heap H1 locs1 → W p l e room_1 s mi #[Value.ref b] below meth c H1 locs1 kc ks Q (F0 mi 1105 ls [])) : W p l e room_1 s mi #[Value.ref b] below meth c H locs kc ks Q (F0 mi 471 ls []) := by
  have hx := X.1
  have hb := X.2.1
  have hBn : 8 * i + 8 ≤ 4096 := Nat.le_trans hi X.2.2.2.2.2.2.2.2.2.2.2
  obtain ⟨r, r', σ1, σ2, h1, h2, h3, hI2⟩ := hst i σ hBn hI (xs (8 * i + 1)) (xs (8 * i + 2))
  refine lv_aload_n hx hb (dk_c9 (i := 0) rfl) rfl (lv_at hl 1 rfl) ?_
  refine lw_arg X hS hl (i := i) (k := 1) (z := 1) (ln := 1) (by decide) (lv_at hl 3 rfl) (by decide) hi (dk_c9 (i := 1) rfl) (dk_c9 (i := 2) rfl) (fun kz => lv_iconst hx hb (dk_c9 (i := 3) rfl) (by decide) kz) (dk_c9 (i := 4) rfl) (dk_c9 (i := 5) rfl) ?_
  refine lw_arg X hS hl (i := i) (k := 2) (z := 2) (ln := 1) (by decide) (lv_at hl 3 rfl) (by decide) hi (dk_c9 (i := 6) rfl) (dk_c9 (i := 7) rfl) (fun kz => lv_iconst hx hb (dk_c9 (i := 8) rfl) (by decide) kz) (dk_c9 (i := 9) rfl) (dk_c9 (i := 10) rfl) ?_
  refine lw_call X hkc hks nk_Pz_tried tw940 tw941 tw942 (ci := 10) rfl (a := 0) rfl (as := [.int (xs (8 * i + 1)), .int (xs (8 * i + 2))]) (rest := []) rfl rfl (Nat.le_of_ble_eq_true rfl) (Nat.le_of_ble_eq_true rfl) hP hS hl.1 (dk_c9 (i := 11) rfl) (ev_Pz_tried _ _ _ h1) (fun HA locsA hPA hSA => ?_)
  refine lv_pop hx hb (dk_c9 (i := 12) rfl) rfl ?_
  refine lv_aload_n hx hb (dk_c9 (i := 13) rfl) rfl (lv_at hl 2 rfl) ?_
  refine lw_arg X hSA hl (i := i) (k := 1) (z := 1) (ln := 1) (by decide) (lv_at hl 3 rfl) (by decide) hi (dk_c9 (i := 14) rfl) (dk_c9 (i := 15) rfl) (fun kz => lv_iconst hx hb (dk_c9 (i := 16) rfl) (by decide) kz) (dk_c9 (i := 17) rfl) (dk_c9 (i := 18) rfl) ?_
  refine lw_arg X hSA hl (i := i) (k := 2) (z := 2) (ln := 1) (by decide) (lv_at hl 3 rfl) (by decide) hi (dk_c9 (i := 19) rfl) (dk_c9 (i := 20) rfl) (fun kz => lv_iconst hx hb (dk_c9 (i := 21) rfl) (by decide) kz) (dk_c9 (i := 22) rfl) (dk_c9 (i := 23) rfl) ?_
  refine lw_call X hkc hks nk_Md_tried tw1596 tw1597 tw1598 (ci := 11) rfl (a := 166) rfl (as := [.int (xs (8 * i + 1)), .int (xs (8 * i + 2))]) (rest := []) rfl rfl (Nat.le_of_ble_eq_true rfl) (Nat.le_of_ble_eq_true rfl) hPA hSA hl.1 (dk_c9 (i := 24) rfl) (ev_Md_tried _ _ _ h2) (fun HB locsB hPB hSB => ?_)
  refine lv_pop hx hb (dk_c9 (i := 25) rfl) rfl ?_
  exact lv_goto (tgt := 1105) hx hb (dk_c9 (i := 26) rfl) (by decide) (kk σ2 HB locsB hI2 hPB hSB)
theorem lc_10 (X : LX p s mi meth c b Ln xs w) (hkc : kc ≤ 600000) (hks : ks ≤ 7302250) {Inv : Nat → MH → Prop} {E : Prop} (hst : ST10 E 4096 Inv) {σ : MH} {i : Nat} (hI : Inv i σ) {H : Heap} {locs : List Loc} {ls : Array Slot} (hP : va_P w.1 vwCl (wsO w σ) H) (hS : va_S (fun q => s.heap.size ≤ q) s.heap H locs) (hi : 8 * i + 8 ≤ Ln) (hl : lv_has ls 4 [(0, .ref b), (1, .ref (w.2.2.1 0)), (2, .ref (w.2.2.1 166)), (3, .int (nI (8 * i)))])
    (kk : ∀ (σ1 : MH) (H1 : Heap) (locs1 : List Loc), Inv (i + 1) σ1 → va_P w.1 vwCl (wsO w σ1) H1 → va_S (fun q => s.heap.size ≤ q) s.heap H1 locs1 → W p l e room_1 s mi #[Value.ref b] below meth c H1 locs1 kc ks Q (F0 mi 1105 ls [])) : W p l e room_1 s mi #[Value.ref b] below meth c H locs kc ks Q (F0 mi 504 ls []) := by
  have hx := X.1
  have hb := X.2.1
  have hBn : 8 * i + 8 ≤ 4096 := Nat.le_trans hi X.2.2.2.2.2.2.2.2.2.2.2
  obtain ⟨r, r', σ1, σ2, h1, h2, h3, hI2⟩ := hst i σ hBn hI (xs (8 * i + 1)) (xs (8 * i + 2))
  refine lv_aload_n hx hb (dk_c10 (i := 0) rfl) rfl (lv_at hl 1 rfl) ?_
  refine lw_arg X hS hl (i := i) (k := 1) (z := 1) (ln := 1) (by decide) (lv_at hl 3 rfl) (by decide) hi (dk_c10 (i := 1) rfl) (dk_c10 (i := 2) rfl) (fun kz => lv_iconst hx hb (dk_c10 (i := 3) rfl) (by decide) kz) (dk_c10 (i := 4) rfl) (dk_c10 (i := 5) rfl) ?_
  refine lw_arg X hS hl (i := i) (k := 2) (z := 2) (ln := 1) (by decide) (lv_at hl 3 rfl) (by decide) hi (dk_c10 (i := 6) rfl) (dk_c10 (i := 7) rfl) (fun kz => lv_iconst hx hb (dk_c10 (i := 8) rfl) (by decide) kz) (dk_c10 (i := 9) rfl) (dk_c10 (i := 10) rfl) ?_
  refine lw_call X hkc hks nk_Pz_personIs tw953 tw954 tw955 (ci := 10) rfl (a := 0) rfl (as := [.int (xs (8 * i + 1)), .int (xs (8 * i + 2))]) (rest := []) rfl rfl (Nat.le_of_ble_eq_true rfl) (Nat.le_of_ble_eq_true rfl) hP hS hl.1 (dk_c10 (i := 11) rfl) (ev_Pz_personIs _ _ _ h1) (fun HA locsA hPA hSA => ?_)
  refine lv_pop hx hb (dk_c10 (i := 12) rfl) rfl ?_
  refine lv_aload_n hx hb (dk_c10 (i := 13) rfl) rfl (lv_at hl 2 rfl) ?_
  refine lw_arg X hSA hl (i := i) (k := 1) (z := 1) (ln := 1) (by decide) (lv_at hl 3 rfl) (by decide) hi (dk_c10 (i := 14) rfl) (dk_c10 (i := 15) rfl) (fun kz => lv_iconst hx hb (dk_c10 (i := 16) rfl) (by decide) kz) (dk_c10 (i := 17) rfl) (dk_c10 (i := 18) rfl) ?_
  refine lw_arg X hSA hl (i := i) (k := 2) (z := 2) (ln := 1) (by decide) (lv_at hl 3 rfl) (by decide) hi (dk_c10 (i := 19) rfl) (dk_c10 (i := 20) rfl) (fun kz => lv_iconst hx hb (dk_c10 (i := 21) rfl) (by decide) kz) (dk_c10 (i := 22) rfl) (dk_c10 (i := 23) rfl) ?_
  refine lw_call X hkc hks nk_Md_personIs tw1607 tw1608 tw1609 (ci := 11) rfl (a := 166) rfl (as := [.int (xs (8 * i + 1)), .int (xs (8 * i + 2))]) (rest := []) rfl rfl (Nat.le_of_ble_eq_true rfl) (Nat.le_of_ble_eq_true rfl) hPA hSA hl.1 (dk_c10 (i := 24) rfl) (ev_Md_personIs _ _ _ h2) (fun HB locsB hPB hSB => ?_)
  refine lv_pop hx hb (dk_c10 (i := 25) rfl) rfl ?_
  exact lv_goto (tgt := 1105) hx hb (dk_c10 (i := 26) rfl) (by decide) (kk σ2 HB locsB hI2 hPB hSB)
theorem lc_11 (X : LX p s mi meth c b Ln xs w) (hkc : kc ≤ 600000) (hks : ks ≤ 7302250) {Inv : Nat → MH → Prop} {E : Prop} (hst : ST11 E 4096 Inv) {σ : MH} {i : Nat} (hI : Inv i σ) {H : Heap} {locs : List Loc} {ls : Array Slot} (hP : va_P w.1 vwCl (wsO w σ) H) (hS : va_S (fun q => s.heap.size ≤ q) s.heap H locs) (hi : 8 * i + 8 ≤ Ln) (hl : lv_has ls 4 [(0, .ref b), (1, .ref (w.2.2.1 0)), (2, .ref (w.2.2.1 166)), (3, .int (nI (8 * i)))])
    (kk : ∀ (σ1 : MH) (H1 : Heap) (locs1 : List Loc), Inv (i + 1) σ1 → va_P w.1 vwCl (wsO w σ1) H1 → va_S (fun q => s.heap.size ≤ q) s.heap H1 locs1 → W p l e room_1 s mi #[Value.ref b] below meth c H1 locs1 kc ks Q (F0 mi 1105 ls [])) : W p l e room_1 s mi #[Value.ref b] below meth c H locs kc ks Q (F0 mi 537 ls []) := by
  have hx := X.1
  have hb := X.2.1
  have hBn : 8 * i + 8 ≤ 4096 := Nat.le_trans hi X.2.2.2.2.2.2.2.2.2.2.2
  obtain ⟨r, r', h1, h2, h3, hI2⟩ := hst i σ hBn hI (xs (8 * i + 1)) (xs (8 * i + 2))
  refine lv_aload_n hx hb (dk_c11 (i := 0) rfl) rfl (lv_at hl 1 rfl) ?_
  refine lw_arg X hS hl (i := i) (k := 1) (z := 1) (ln := 1) (by decide) (lv_at hl 3 rfl) (by decide) hi (dk_c11 (i := 1) rfl) (dk_c11 (i := 2) rfl) (fun kz => lv_iconst hx hb (dk_c11 (i := 3) rfl) (by decide) kz) (dk_c11 (i := 4) rfl) (dk_c11 (i := 5) rfl) ?_
  refine lw_arg X hS hl (i := i) (k := 2) (z := 2) (ln := 1) (by decide) (lv_at hl 3 rfl) (by decide) hi (dk_c11 (i := 6) rfl) (dk_c11 (i := 7) rfl) (fun kz => lv_iconst hx hb (dk_c11 (i := 8) rfl) (by decide) kz) (dk_c11 (i := 9) rfl) (dk_c11 (i := 10) rfl) ?_
  refine lw_call X hkc hks nk_Pz_piece tw963 tw964 tw965 (ci := 10) rfl (a := 0) rfl (as := [.int (xs (8 * i + 1)), .int (xs (8 * i + 2))]) (rest := []) rfl rfl (Nat.le_of_ble_eq_true rfl) (Nat.le_of_ble_eq_true rfl) hP hS hl.1 (dk_c11 (i := 11) rfl) (ev_Pz_piece _ _ _ h1) (fun HA locsA hPA hSA => ?_)
  refine lv_pop hx hb (dk_c11 (i := 12) rfl) rfl ?_
  refine lv_aload_n hx hb (dk_c11 (i := 13) rfl) rfl (lv_at hl 2 rfl) ?_
  refine lw_arg X hSA hl (i := i) (k := 1) (z := 1) (ln := 1) (by decide) (lv_at hl 3 rfl) (by decide) hi (dk_c11 (i := 14) rfl) (dk_c11 (i := 15) rfl) (fun kz => lv_iconst hx hb (dk_c11 (i := 16) rfl) (by decide) kz) (dk_c11 (i := 17) rfl) (dk_c11 (i := 18) rfl) ?_
  refine lw_arg X hSA hl (i := i) (k := 2) (z := 2) (ln := 1) (by decide) (lv_at hl 3 rfl) (by decide) hi (dk_c11 (i := 19) rfl) (dk_c11 (i := 20) rfl) (fun kz => lv_iconst hx hb (dk_c11 (i := 21) rfl) (by decide) kz) (dk_c11 (i := 22) rfl) (dk_c11 (i := 23) rfl) ?_
  refine lw_call X hkc hks nk_Md_piece tw1615 tw1616 tw1617 (ci := 11) rfl (a := 166) rfl (as := [.int (xs (8 * i + 1)), .int (xs (8 * i + 2))]) (rest := []) rfl rfl (Nat.le_of_ble_eq_true rfl) (Nat.le_of_ble_eq_true rfl) hPA hSA hl.1 (dk_c11 (i := 24) rfl) (ev_Md_piece _ _ _ h2) (fun HB locsB hPB hSB => ?_)
  refine lv_pop hx hb (dk_c11 (i := 25) rfl) rfl ?_
  exact lv_goto (tgt := 1105) hx hb (dk_c11 (i := 26) rfl) (by decide) (kk σ HB locsB hI2 hPB hSB)
theorem lc_12 (X : LX p s mi meth c b Ln xs w) (hkc : kc ≤ 600000) (hks : ks ≤ 7302250) {Inv : Nat → MH → Prop} {E : Prop} (hst : ST12 E 4096 Inv) {σ : MH} {i : Nat} (hI : Inv i σ) {H : Heap} {locs : List Loc} {ls : Array Slot} (hP : va_P w.1 vwCl (wsO w σ) H) (hS : va_S (fun q => s.heap.size ≤ q) s.heap H locs) (hi : 8 * i + 8 ≤ Ln) (hl : lv_has ls 4 [(0, .ref b), (1, .ref (w.2.2.1 0)), (2, .ref (w.2.2.1 166)), (3, .int (nI (8 * i)))])
    (kk : ∀ (σ1 : MH) (H1 : Heap) (locs1 : List Loc), Inv (i + 1) σ1 → va_P w.1 vwCl (wsO w σ1) H1 → va_S (fun q => s.heap.size ≤ q) s.heap H1 locs1 → W p l e room_1 s mi #[Value.ref b] below meth c H1 locs1 kc ks Q (F0 mi 1105 ls [])) : W p l e room_1 s mi #[Value.ref b] below meth c H locs kc ks Q (F0 mi 570 ls []) := by
  have hx := X.1
  have hb := X.2.1
  have hBn : 8 * i + 8 ≤ 4096 := Nat.le_trans hi X.2.2.2.2.2.2.2.2.2.2.2
  obtain ⟨r, r', σ1, σ2, h1, h2, h3, hI2⟩ := hst i σ hBn hI (xs (8 * i + 1)) (xs (8 * i + 2)) (xs (8 * i + 3))
  refine lv_aload_n hx hb (dk_c12 (i := 0) rfl) rfl (lv_at hl 1 rfl) ?_
  refine lw_arg X hS hl (i := i) (k := 1) (z := 1) (ln := 1) (by decide) (lv_at hl 3 rfl) (by decide) hi (dk_c12 (i := 1) rfl) (dk_c12 (i := 2) rfl) (fun kz => lv_iconst hx hb (dk_c12 (i := 3) rfl) (by decide) kz) (dk_c12 (i := 4) rfl) (dk_c12 (i := 5) rfl) ?_
  refine lw_arg X hS hl (i := i) (k := 2) (z := 2) (ln := 1) (by decide) (lv_at hl 3 rfl) (by decide) hi (dk_c12 (i := 6) rfl) (dk_c12 (i := 7) rfl) (fun kz => lv_iconst hx hb (dk_c12 (i := 8) rfl) (by decide) kz) (dk_c12 (i := 9) rfl) (dk_c12 (i := 10) rfl) ?_
  refine lw_arg X hS hl (i := i) (k := 3) (z := 3) (ln := 1) (by decide) (lv_at hl 3 rfl) (by decide) hi (dk_c12 (i := 11) rfl) (dk_c12 (i := 12) rfl) (fun kz => lv_iconst hx hb (dk_c12 (i := 13) rfl) (by decide) kz) (dk_c12 (i := 14) rfl) (dk_c12 (i := 15) rfl) ?_
  refine lw_call X hkc hks nk_Pz_slack tw967 tw968 tw969 (ci := 10) rfl (a := 0) rfl (as := [.int (xs (8 * i + 1)), .int (xs (8 * i + 2)), .int (xs (8 * i + 3))]) (rest := []) rfl rfl (Nat.le_of_ble_eq_true rfl) (Nat.le_of_ble_eq_true rfl) hP hS hl.1 (dk_c12 (i := 16) rfl) (ev_Pz_slack _ _ _ _ h1) (fun HA locsA hPA hSA => ?_)
  refine lv_pop hx hb (dk_c12 (i := 17) rfl) rfl ?_
  refine lv_aload_n hx hb (dk_c12 (i := 18) rfl) rfl (lv_at hl 2 rfl) ?_
  refine lw_arg X hSA hl (i := i) (k := 1) (z := 1) (ln := 1) (by decide) (lv_at hl 3 rfl) (by decide) hi (dk_c12 (i := 19) rfl) (dk_c12 (i := 20) rfl) (fun kz => lv_iconst hx hb (dk_c12 (i := 21) rfl) (by decide) kz) (dk_c12 (i := 22) rfl) (dk_c12 (i := 23) rfl) ?_
  refine lw_arg X hSA hl (i := i) (k := 2) (z := 2) (ln := 1) (by decide) (lv_at hl 3 rfl) (by decide) hi (dk_c12 (i := 24) rfl) (dk_c12 (i := 25) rfl) (fun kz => lv_iconst hx hb (dk_c12 (i := 26) rfl) (by decide) kz) (dk_c12 (i := 27) rfl) (dk_c12 (i := 28) rfl) ?_
  refine lw_arg X hSA hl (i := i) (k := 3) (z := 3) (ln := 1) (by decide) (lv_at hl 3 rfl) (by decide) hi (dk_c12 (i := 29) rfl) (dk_c12 (i := 30) rfl) (fun kz => lv_iconst hx hb (dk_c12 (i := 31) rfl) (by decide) kz) (dk_c12 (i := 32) rfl) (dk_c12 (i := 33) rfl) ?_
  refine lw_call X hkc hks nk_Md_slack tw1619 tw1620 tw1621 (ci := 11) rfl (a := 166) rfl (as := [.int (xs (8 * i + 1)), .int (xs (8 * i + 2)), .int (xs (8 * i + 3))]) (rest := []) rfl rfl (Nat.le_of_ble_eq_true rfl) (Nat.le_of_ble_eq_true rfl) hPA hSA hl.1 (dk_c12 (i := 34) rfl) (ev_Md_slack _ _ _ _ h2) (fun HB locsB hPB hSB => ?_)
  refine lv_pop hx hb (dk_c12 (i := 35) rfl) rfl ?_
  exact lv_goto (tgt := 1105) hx hb (dk_c12 (i := 36) rfl) (by decide) (kk σ2 HB locsB hI2 hPB hSB)
theorem lc_13 (X : LX p s mi meth c b Ln xs w) (hkc : kc ≤ 600000) (hks : ks ≤ 7302250) {Inv : Nat → MH → Prop} {E : Prop} (hst : ST13 E 4096 Inv) {σ : MH} {i : Nat} (hI : Inv i σ) {H : Heap} {locs : List Loc} {ls : Array Slot} (hP : va_P w.1 vwCl (wsO w σ) H) (hS : va_S (fun q => s.heap.size ≤ q) s.heap H locs) (hi : 8 * i + 8 ≤ Ln) (hl : lv_has ls 4 [(0, .ref b), (1, .ref (w.2.2.1 0)), (2, .ref (w.2.2.1 166)), (3, .int (nI (8 * i)))])
    (kk : ∀ (σ1 : MH) (H1 : Heap) (locs1 : List Loc), Inv (i + 1) σ1 → va_P w.1 vwCl (wsO w σ1) H1 → va_S (fun q => s.heap.size ≤ q) s.heap H1 locs1 → W p l e room_1 s mi #[Value.ref b] below meth c H1 locs1 kc ks Q (F0 mi 1105 ls [])) : W p l e room_1 s mi #[Value.ref b] below meth c H locs kc ks Q (F0 mi 613 ls []) := by
  have hx := X.1
  have hb := X.2.1
  have hBn : 8 * i + 8 ≤ 4096 := Nat.le_trans hi X.2.2.2.2.2.2.2.2.2.2.2
  obtain ⟨r, r', σ1, σ2, h1, h2, h3, hI2⟩ := hst i σ hBn hI (xs (8 * i + 1))
  refine lv_aload_n hx hb (dk_c13 (i := 0) rfl) rfl (lv_at hl 1 rfl) ?_
  refine lw_arg X hS hl (i := i) (k := 1) (z := 1) (ln := 1) (by decide) (lv_at hl 3 rfl) (by decide) hi (dk_c13 (i := 1) rfl) (dk_c13 (i := 2) rfl) (fun kz => lv_iconst hx hb (dk_c13 (i := 3) rfl) (by decide) kz) (dk_c13 (i := 4) rfl) (dk_c13 (i := 5) rfl) ?_
  refine lw_call X hkc hks nk_Pz_locks tw976 tw977 tw978 (ci := 10) rfl (a := 0) rfl (as := [.int (xs (8 * i + 1))]) (rest := []) rfl rfl (Nat.le_of_ble_eq_true rfl) (Nat.le_of_ble_eq_true rfl) hP hS hl.1 (dk_c13 (i := 6) rfl) (ev_Pz_locks _ _ h1) (fun HA locsA hPA hSA => ?_)
  refine lv_pop hx hb (dk_c13 (i := 7) rfl) rfl ?_
  refine lv_aload_n hx hb (dk_c13 (i := 8) rfl) rfl (lv_at hl 2 rfl) ?_
  refine lw_arg X hSA hl (i := i) (k := 1) (z := 1) (ln := 1) (by decide) (lv_at hl 3 rfl) (by decide) hi (dk_c13 (i := 9) rfl) (dk_c13 (i := 10) rfl) (fun kz => lv_iconst hx hb (dk_c13 (i := 11) rfl) (by decide) kz) (dk_c13 (i := 12) rfl) (dk_c13 (i := 13) rfl) ?_
  refine lw_call X hkc hks nk_Md_locks tw1627 tw1628 tw1629 (ci := 11) rfl (a := 166) rfl (as := [.int (xs (8 * i + 1))]) (rest := []) rfl rfl (Nat.le_of_ble_eq_true rfl) (Nat.le_of_ble_eq_true rfl) hPA hSA hl.1 (dk_c13 (i := 14) rfl) (ev_Md_locks _ _ h2) (fun HB locsB hPB hSB => ?_)
  refine lv_pop hx hb (dk_c13 (i := 15) rfl) rfl ?_
  exact lv_goto (tgt := 1105) hx hb (dk_c13 (i := 16) rfl) (by decide) (kk σ2 HB locsB hI2 hPB hSB)
theorem lc_14 (X : LX p s mi meth c b Ln xs w) (hkc : kc ≤ 600000) (hks : ks ≤ 7302250) {Inv : Nat → MH → Prop} {E : Prop} (hst : ST14 E 4096 Inv) {σ : MH} {i : Nat} (hI : Inv i σ) {H : Heap} {locs : List Loc} {ls : Array Slot} (hP : va_P w.1 vwCl (wsO w σ) H) (hS : va_S (fun q => s.heap.size ≤ q) s.heap H locs) (hi : 8 * i + 8 ≤ Ln) (hl : lv_has ls 4 [(0, .ref b), (1, .ref (w.2.2.1 0)), (2, .ref (w.2.2.1 166)), (3, .int (nI (8 * i)))])
    (kk : ∀ (σ1 : MH) (H1 : Heap) (locs1 : List Loc), Inv (i + 1) σ1 → va_P w.1 vwCl (wsO w σ1) H1 → va_S (fun q => s.heap.size ≤ q) s.heap H1 locs1 → W p l e room_1 s mi #[Value.ref b] below meth c H1 locs1 kc ks Q (F0 mi 1105 ls [])) : W p l e room_1 s mi #[Value.ref b] below meth c H locs kc ks Q (F0 mi 636 ls []) := by
  have hx := X.1
  have hb := X.2.1
  have hBn : 8 * i + 8 ≤ 4096 := Nat.le_trans hi X.2.2.2.2.2.2.2.2.2.2.2
  obtain ⟨r, r', σ1, σ2, h1, h2, h3, hI2⟩ := hst i σ hBn hI (xs (8 * i + 1))
  refine lv_aload_n hx hb (dk_c14 (i := 0) rfl) rfl (lv_at hl 1 rfl) ?_
  refine lw_arg X hS hl (i := i) (k := 1) (z := 1) (ln := 1) (by decide) (lv_at hl 3 rfl) (by decide) hi (dk_c14 (i := 1) rfl) (dk_c14 (i := 2) rfl) (fun kz => lv_iconst hx hb (dk_c14 (i := 3) rfl) (by decide) kz) (dk_c14 (i := 4) rfl) (dk_c14 (i := 5) rfl) ?_
  refine lw_call X hkc hks nk_Pz_most tw988 tw989 tw990 (ci := 10) rfl (a := 0) rfl (as := [.int (xs (8 * i + 1))]) (rest := []) rfl rfl (Nat.le_of_ble_eq_true rfl) (Nat.le_of_ble_eq_true rfl) hP hS hl.1 (dk_c14 (i := 6) rfl) (ev_Pz_most _ _ h1) (fun HA locsA hPA hSA => ?_)
  refine lv_pop hx hb (dk_c14 (i := 7) rfl) rfl ?_
  refine lv_aload_n hx hb (dk_c14 (i := 8) rfl) rfl (lv_at hl 2 rfl) ?_
  refine lw_arg X hSA hl (i := i) (k := 1) (z := 1) (ln := 1) (by decide) (lv_at hl 3 rfl) (by decide) hi (dk_c14 (i := 9) rfl) (dk_c14 (i := 10) rfl) (fun kz => lv_iconst hx hb (dk_c14 (i := 11) rfl) (by decide) kz) (dk_c14 (i := 12) rfl) (dk_c14 (i := 13) rfl) ?_
  refine lw_call X hkc hks nk_Md_most tw1635 tw1636 tw1637 (ci := 11) rfl (a := 166) rfl (as := [.int (xs (8 * i + 1))]) (rest := []) rfl rfl (Nat.le_of_ble_eq_true rfl) (Nat.le_of_ble_eq_true rfl) hPA hSA hl.1 (dk_c14 (i := 14) rfl) (ev_Md_most _ _ h2) (fun HB locsB hPB hSB => ?_)
  refine lv_pop hx hb (dk_c14 (i := 15) rfl) rfl ?_
  exact lv_goto (tgt := 1105) hx hb (dk_c14 (i := 16) rfl) (by decide) (kk σ2 HB locsB hI2 hPB hSB)
theorem lc_15 (X : LX p s mi meth c b Ln xs w) (hkc : kc ≤ 600000) (hks : ks ≤ 7302250) {Inv : Nat → MH → Prop} {E : Prop} (hst : ST15 E 4096 Inv) {σ : MH} {i : Nat} (hI : Inv i σ) {H : Heap} {locs : List Loc} {ls : Array Slot} (hP : va_P w.1 vwCl (wsO w σ) H) (hS : va_S (fun q => s.heap.size ≤ q) s.heap H locs) (hi : 8 * i + 8 ≤ Ln) (hl : lv_has ls 4 [(0, .ref b), (1, .ref (w.2.2.1 0)), (2, .ref (w.2.2.1 166)), (3, .int (nI (8 * i)))])
    (kk : ∀ (σ1 : MH) (H1 : Heap) (locs1 : List Loc), Inv (i + 1) σ1 → va_P w.1 vwCl (wsO w σ1) H1 → va_S (fun q => s.heap.size ≤ q) s.heap H1 locs1 → W p l e room_1 s mi #[Value.ref b] below meth c H1 locs1 kc ks Q (F0 mi 1105 ls [])) : W p l e room_1 s mi #[Value.ref b] below meth c H locs kc ks Q (F0 mi 659 ls []) := by
  have hx := X.1
  have hb := X.2.1
  have hBn : 8 * i + 8 ≤ 4096 := Nat.le_trans hi X.2.2.2.2.2.2.2.2.2.2.2
  obtain ⟨r, r', σ1, σ2, h1, h2, h3, hI2⟩ := hst i σ hBn hI (xs (8 * i + 1))
  refine lv_aload_n hx hb (dk_c15 (i := 0) rfl) rfl (lv_at hl 1 rfl) ?_
  refine lw_arg X hS hl (i := i) (k := 1) (z := 1) (ln := 1) (by decide) (lv_at hl 3 rfl) (by decide) hi (dk_c15 (i := 1) rfl) (dk_c15 (i := 2) rfl) (fun kz => lv_iconst hx hb (dk_c15 (i := 3) rfl) (by decide) kz) (dk_c15 (i := 4) rfl) (dk_c15 (i := 5) rfl) ?_
  refine lw_call X hkc hks nk_Pz_stable tw1024 tw1025 tw1026 (ci := 10) rfl (a := 0) rfl (as := [.int (xs (8 * i + 1))]) (rest := []) rfl rfl (Nat.le_of_ble_eq_true rfl) (Nat.le_of_ble_eq_true rfl) hP hS hl.1 (dk_c15 (i := 6) rfl) (ev_Pz_stable _ _ h1) (fun HA locsA hPA hSA => ?_)
  refine lv_pop hx hb (dk_c15 (i := 7) rfl) rfl ?_
  refine lv_aload_n hx hb (dk_c15 (i := 8) rfl) rfl (lv_at hl 2 rfl) ?_
  refine lw_arg X hSA hl (i := i) (k := 1) (z := 1) (ln := 1) (by decide) (lv_at hl 3 rfl) (by decide) hi (dk_c15 (i := 9) rfl) (dk_c15 (i := 10) rfl) (fun kz => lv_iconst hx hb (dk_c15 (i := 11) rfl) (by decide) kz) (dk_c15 (i := 12) rfl) (dk_c15 (i := 13) rfl) ?_
  refine lw_call X hkc hks nk_Md_stable tw1656 tw1657 tw1658 (ci := 11) rfl (a := 166) rfl (as := [.int (xs (8 * i + 1))]) (rest := []) rfl rfl (Nat.le_of_ble_eq_true rfl) (Nat.le_of_ble_eq_true rfl) hPA hSA hl.1 (dk_c15 (i := 14) rfl) (ev_Md_stable _ _ h2) (fun HB locsB hPB hSB => ?_)
  refine lv_pop hx hb (dk_c15 (i := 15) rfl) rfl ?_
  exact lv_goto (tgt := 1105) hx hb (dk_c15 (i := 16) rfl) (by decide) (kk σ2 HB locsB hI2 hPB hSB)
theorem lc_16 (X : LX p s mi meth c b Ln xs w) (hkc : kc ≤ 600000) (hks : ks ≤ 7302250) {Inv : Nat → MH → Prop} {E : Prop} (hst : ST16 E 4096 Inv) {σ : MH} {i : Nat} (hI : Inv i σ) {H : Heap} {locs : List Loc} {ls : Array Slot} (hP : va_P w.1 vwCl (wsO w σ) H) (hS : va_S (fun q => s.heap.size ≤ q) s.heap H locs) (hi : 8 * i + 8 ≤ Ln) (hl : lv_has ls 4 [(0, .ref b), (1, .ref (w.2.2.1 0)), (2, .ref (w.2.2.1 166)), (3, .int (nI (8 * i)))])
    (kk : ∀ (σ1 : MH) (H1 : Heap) (locs1 : List Loc), Inv (i + 1) σ1 → va_P w.1 vwCl (wsO w σ1) H1 → va_S (fun q => s.heap.size ≤ q) s.heap H1 locs1 → W p l e room_1 s mi #[Value.ref b] below meth c H1 locs1 kc ks Q (F0 mi 1105 ls [])) : W p l e room_1 s mi #[Value.ref b] below meth c H locs kc ks Q (F0 mi 682 ls []) := by
  have hx := X.1
  have hb := X.2.1
  have hBn : 8 * i + 8 ≤ 4096 := Nat.le_trans hi X.2.2.2.2.2.2.2.2.2.2.2
  obtain ⟨r, r', σ1, σ2, h1, h2, h3, hI2⟩ := hst i σ hBn hI (xs (8 * i + 1))
  refine lv_aload_n hx hb (dk_c16 (i := 0) rfl) rfl (lv_at hl 1 rfl) ?_
  refine lw_arg X hS hl (i := i) (k := 1) (z := 1) (ln := 1) (by decide) (lv_at hl 3 rfl) (by decide) hi (dk_c16 (i := 1) rfl) (dk_c16 (i := 2) rfl) (fun kz => lv_iconst hx hb (dk_c16 (i := 3) rfl) (by decide) kz) (dk_c16 (i := 4) rfl) (dk_c16 (i := 5) rfl) ?_
  refine lw_call X hkc hks nk_Pz_unrest tw1041 tw1042 tw1043 (ci := 10) rfl (a := 0) rfl (as := [.int (xs (8 * i + 1))]) (rest := []) rfl rfl (Nat.le_of_ble_eq_true rfl) (Nat.le_of_ble_eq_true rfl) hP hS hl.1 (dk_c16 (i := 6) rfl) (ev_Pz_unrest _ _ h1) (fun HA locsA hPA hSA => ?_)
  refine lv_pop hx hb (dk_c16 (i := 7) rfl) rfl ?_
  refine lv_aload_n hx hb (dk_c16 (i := 8) rfl) rfl (lv_at hl 2 rfl) ?_
  refine lw_arg X hSA hl (i := i) (k := 1) (z := 1) (ln := 1) (by decide) (lv_at hl 3 rfl) (by decide) hi (dk_c16 (i := 9) rfl) (dk_c16 (i := 10) rfl) (fun kz => lv_iconst hx hb (dk_c16 (i := 11) rfl) (by decide) kz) (dk_c16 (i := 12) rfl) (dk_c16 (i := 13) rfl) ?_
  refine lw_call X hkc hks nk_Md_unrest tw1672 tw1673 tw1674 (ci := 11) rfl (a := 166) rfl (as := [.int (xs (8 * i + 1))]) (rest := []) rfl rfl (Nat.le_of_ble_eq_true rfl) (Nat.le_of_ble_eq_true rfl) hPA hSA hl.1 (dk_c16 (i := 14) rfl) (ev_Md_unrest _ _ h2) (fun HB locsB hPB hSB => ?_)
  refine lv_pop hx hb (dk_c16 (i := 15) rfl) rfl ?_
  exact lv_goto (tgt := 1105) hx hb (dk_c16 (i := 16) rfl) (by decide) (kk σ2 HB locsB hI2 hPB hSB)
theorem lc_17 (X : LX p s mi meth c b Ln xs w) (hkc : kc ≤ 600000) (hks : ks ≤ 7302250) {Inv : Nat → MH → Prop} {E : Prop} (hst : ST17 E 4096 Inv) {σ : MH} {i : Nat} (hI : Inv i σ) {H : Heap} {locs : List Loc} {ls : Array Slot} (hP : va_P w.1 vwCl (wsO w σ) H) (hS : va_S (fun q => s.heap.size ≤ q) s.heap H locs) (hi : 8 * i + 8 ≤ Ln) (hl : lv_has ls 4 [(0, .ref b), (1, .ref (w.2.2.1 0)), (2, .ref (w.2.2.1 166)), (3, .int (nI (8 * i)))])
    (kk : ∀ (σ1 : MH) (H1 : Heap) (locs1 : List Loc), Inv (i + 1) σ1 → va_P w.1 vwCl (wsO w σ1) H1 → va_S (fun q => s.heap.size ≤ q) s.heap H1 locs1 → W p l e room_1 s mi #[Value.ref b] below meth c H1 locs1 kc ks Q (F0 mi 1105 ls [])) : W p l e room_1 s mi #[Value.ref b] below meth c H locs kc ks Q (F0 mi 705 ls []) := by
  have hx := X.1
  have hb := X.2.1
  have hBn : 8 * i + 8 ≤ 4096 := Nat.le_trans hi X.2.2.2.2.2.2.2.2.2.2.2
  obtain ⟨r, r', σ1, σ2, h1, h2, h3, hI2⟩ := hst i σ hBn hI (xs (8 * i + 1)) (xs (8 * i + 2))
  refine lv_aload_n hx hb (dk_c17 (i := 0) rfl) rfl (lv_at hl 1 rfl) ?_
  refine lw_arg X hS hl (i := i) (k := 1) (z := 1) (ln := 1) (by decide) (lv_at hl 3 rfl) (by decide) hi (dk_c17 (i := 1) rfl) (dk_c17 (i := 2) rfl) (fun kz => lv_iconst hx hb (dk_c17 (i := 3) rfl) (by decide) kz) (dk_c17 (i := 4) rfl) (dk_c17 (i := 5) rfl) ?_
  refine lw_arg X hS hl (i := i) (k := 2) (z := 2) (ln := 1) (by decide) (lv_at hl 3 rfl) (by decide) hi (dk_c17 (i := 6) rfl) (dk_c17 (i := 7) rfl) (fun kz => lv_iconst hx hb (dk_c17 (i := 8) rfl) (by decide) kz) (dk_c17 (i := 9) rfl) (dk_c17 (i := 10) rfl) ?_
  refine lw_call X hkc hks nk_Pz_search tw1053 tw1054 tw1055 (ci := 10) rfl (a := 0) rfl (as := [.int (xs (8 * i + 1)), .int (xs (8 * i + 2))]) (rest := []) rfl rfl (Nat.le_of_ble_eq_true rfl) (Nat.le_of_ble_eq_true rfl) hP hS hl.1 (dk_c17 (i := 11) rfl) (ev_Pz_search _ _ _ h1) (fun HA locsA hPA hSA => ?_)
  refine lv_pop hx hb (dk_c17 (i := 12) rfl) rfl ?_
  refine lv_aload_n hx hb (dk_c17 (i := 13) rfl) rfl (lv_at hl 2 rfl) ?_
  refine lw_arg X hSA hl (i := i) (k := 1) (z := 1) (ln := 1) (by decide) (lv_at hl 3 rfl) (by decide) hi (dk_c17 (i := 14) rfl) (dk_c17 (i := 15) rfl) (fun kz => lv_iconst hx hb (dk_c17 (i := 16) rfl) (by decide) kz) (dk_c17 (i := 17) rfl) (dk_c17 (i := 18) rfl) ?_
  refine lw_arg X hSA hl (i := i) (k := 2) (z := 2) (ln := 1) (by decide) (lv_at hl 3 rfl) (by decide) hi (dk_c17 (i := 19) rfl) (dk_c17 (i := 20) rfl) (fun kz => lv_iconst hx hb (dk_c17 (i := 21) rfl) (by decide) kz) (dk_c17 (i := 22) rfl) (dk_c17 (i := 23) rfl) ?_
  refine lw_call X hkc hks nk_Md_search tw1680 tw1681 tw1682 (ci := 11) rfl (a := 166) rfl (as := [.int (xs (8 * i + 1)), .int (xs (8 * i + 2))]) (rest := []) rfl rfl (Nat.le_of_ble_eq_true rfl) (Nat.le_of_ble_eq_true rfl) hPA hSA hl.1 (dk_c17 (i := 24) rfl) (ev_Md_search _ _ _ h2) (fun HB locsB hPB hSB => ?_)
  refine lv_pop hx hb (dk_c17 (i := 25) rfl) rfl ?_
  exact lv_goto (tgt := 1105) hx hb (dk_c17 (i := 26) rfl) (by decide) (kk σ2 HB locsB hI2 hPB hSB)
theorem lc_18 (X : LX p s mi meth c b Ln xs w) (hkc : kc ≤ 600000) (hks : ks ≤ 7302250) {Inv : Nat → MH → Prop} {E : Prop} (hst : ST18 E 4096 Inv) {σ : MH} {i : Nat} (hI : Inv i σ) {H : Heap} {locs : List Loc} {ls : Array Slot} (hP : va_P w.1 vwCl (wsO w σ) H) (hS : va_S (fun q => s.heap.size ≤ q) s.heap H locs) (hi : 8 * i + 8 ≤ Ln) (hl : lv_has ls 4 [(0, .ref b), (1, .ref (w.2.2.1 0)), (2, .ref (w.2.2.1 166)), (3, .int (nI (8 * i)))])
    (kk : ∀ (σ1 : MH) (H1 : Heap) (locs1 : List Loc), Inv (i + 1) σ1 → va_P w.1 vwCl (wsO w σ1) H1 → va_S (fun q => s.heap.size ≤ q) s.heap H1 locs1 → W p l e room_1 s mi #[Value.ref b] below meth c H1 locs1 kc ks Q (F0 mi 1105 ls [])) : W p l e room_1 s mi #[Value.ref b] below meth c H locs kc ks Q (F0 mi 738 ls []) := by
  have hx := X.1
  have hb := X.2.1
  have hBn : 8 * i + 8 ≤ 4096 := Nat.le_trans hi X.2.2.2.2.2.2.2.2.2.2.2
  obtain ⟨r, r', σ1, σ2, h1, h2, h3, hI2⟩ := hst i σ hBn hI (xs (8 * i + 1)) (xs (8 * i + 2)) (xs (8 * i + 3)) (xs (8 * i + 4)) (xs (8 * i + 5)) (xs (8 * i + 6)) (xs (8 * i + 7))
  refine lv_aload_n hx hb (dk_c18 (i := 0) rfl) rfl (lv_at hl 1 rfl) ?_
  refine lw_arg X hS hl (i := i) (k := 1) (z := 1) (ln := 1) (by decide) (lv_at hl 3 rfl) (by decide) hi (dk_c18 (i := 1) rfl) (dk_c18 (i := 2) rfl) (fun kz => lv_iconst hx hb (dk_c18 (i := 3) rfl) (by decide) kz) (dk_c18 (i := 4) rfl) (dk_c18 (i := 5) rfl) ?_
  refine lw_arg X hS hl (i := i) (k := 2) (z := 2) (ln := 1) (by decide) (lv_at hl 3 rfl) (by decide) hi (dk_c18 (i := 6) rfl) (dk_c18 (i := 7) rfl) (fun kz => lv_iconst hx hb (dk_c18 (i := 8) rfl) (by decide) kz) (dk_c18 (i := 9) rfl) (dk_c18 (i := 10) rfl) ?_
  refine lw_arg X hS hl (i := i) (k := 3) (z := 3) (ln := 1) (by decide) (lv_at hl 3 rfl) (by decide) hi (dk_c18 (i := 11) rfl) (dk_c18 (i := 12) rfl) (fun kz => lv_iconst hx hb (dk_c18 (i := 13) rfl) (by decide) kz) (dk_c18 (i := 14) rfl) (dk_c18 (i := 15) rfl) ?_
  refine lw_arg X hS hl (i := i) (k := 4) (z := 4) (ln := 1) (by decide) (lv_at hl 3 rfl) (by decide) hi (dk_c18 (i := 16) rfl) (dk_c18 (i := 17) rfl) (fun kz => lv_iconst hx hb (dk_c18 (i := 18) rfl) (by decide) kz) (dk_c18 (i := 19) rfl) (dk_c18 (i := 20) rfl) ?_
  refine lw_arg X hS hl (i := i) (k := 5) (z := 5) (ln := 1) (by decide) (lv_at hl 3 rfl) (by decide) hi (dk_c18 (i := 21) rfl) (dk_c18 (i := 22) rfl) (fun kz => lv_iconst hx hb (dk_c18 (i := 23) rfl) (by decide) kz) (dk_c18 (i := 24) rfl) (dk_c18 (i := 25) rfl) ?_
  refine lw_arg X hS hl (i := i) (k := 6) (z := 6) (ln := 2) (by decide) (lv_at hl 3 rfl) (by decide) hi (dk_c18 (i := 26) rfl) (dk_c18 (i := 27) rfl) (fun kz => lv_bipush hx hb (dk_c18 (i := 28) rfl) (by decide) kz) (dk_c18 (i := 29) rfl) (dk_c18 (i := 30) rfl) ?_
  refine lw_arg X hS hl (i := i) (k := 7) (z := 7) (ln := 2) (by decide) (lv_at hl 3 rfl) (by decide) hi (dk_c18 (i := 31) rfl) (dk_c18 (i := 32) rfl) (fun kz => lv_bipush hx hb (dk_c18 (i := 33) rfl) (by decide) kz) (dk_c18 (i := 34) rfl) (dk_c18 (i := 35) rfl) ?_
  refine lw_call X hkc hks nk_Pz_sanding tw1092 tw1093 tw1094 (ci := 10) rfl (a := 0) rfl (as := [.int (xs (8 * i + 1)), .int (xs (8 * i + 2)), .int (xs (8 * i + 3)), .int (xs (8 * i + 4)), .int (xs (8 * i + 5)), .int (xs (8 * i + 6)), .int (xs (8 * i + 7))]) (rest := []) rfl rfl (Nat.le_of_ble_eq_true rfl) (Nat.le_of_ble_eq_true rfl) hP hS hl.1 (dk_c18 (i := 36) rfl) (ev_Pz_sanding _ _ _ _ _ _ _ _ h1) (fun HA locsA hPA hSA => ?_)
  refine lv_pop hx hb (dk_c18 (i := 37) rfl) rfl ?_
  refine lv_aload_n hx hb (dk_c18 (i := 38) rfl) rfl (lv_at hl 2 rfl) ?_
  refine lw_arg X hSA hl (i := i) (k := 1) (z := 1) (ln := 1) (by decide) (lv_at hl 3 rfl) (by decide) hi (dk_c18 (i := 39) rfl) (dk_c18 (i := 40) rfl) (fun kz => lv_iconst hx hb (dk_c18 (i := 41) rfl) (by decide) kz) (dk_c18 (i := 42) rfl) (dk_c18 (i := 43) rfl) ?_
  refine lw_arg X hSA hl (i := i) (k := 2) (z := 2) (ln := 1) (by decide) (lv_at hl 3 rfl) (by decide) hi (dk_c18 (i := 44) rfl) (dk_c18 (i := 45) rfl) (fun kz => lv_iconst hx hb (dk_c18 (i := 46) rfl) (by decide) kz) (dk_c18 (i := 47) rfl) (dk_c18 (i := 48) rfl) ?_
  refine lw_arg X hSA hl (i := i) (k := 3) (z := 3) (ln := 1) (by decide) (lv_at hl 3 rfl) (by decide) hi (dk_c18 (i := 49) rfl) (dk_c18 (i := 50) rfl) (fun kz => lv_iconst hx hb (dk_c18 (i := 51) rfl) (by decide) kz) (dk_c18 (i := 52) rfl) (dk_c18 (i := 53) rfl) ?_
  refine lw_arg X hSA hl (i := i) (k := 4) (z := 4) (ln := 1) (by decide) (lv_at hl 3 rfl) (by decide) hi (dk_c18 (i := 54) rfl) (dk_c18 (i := 55) rfl) (fun kz => lv_iconst hx hb (dk_c18 (i := 56) rfl) (by decide) kz) (dk_c18 (i := 57) rfl) (dk_c18 (i := 58) rfl) ?_
  refine lw_arg X hSA hl (i := i) (k := 5) (z := 5) (ln := 1) (by decide) (lv_at hl 3 rfl) (by decide) hi (dk_c18 (i := 59) rfl) (dk_c18 (i := 60) rfl) (fun kz => lv_iconst hx hb (dk_c18 (i := 61) rfl) (by decide) kz) (dk_c18 (i := 62) rfl) (dk_c18 (i := 63) rfl) ?_
  refine lw_arg X hSA hl (i := i) (k := 6) (z := 6) (ln := 2) (by decide) (lv_at hl 3 rfl) (by decide) hi (dk_c18 (i := 64) rfl) (dk_c18 (i := 65) rfl) (fun kz => lv_bipush hx hb (dk_c18 (i := 66) rfl) (by decide) kz) (dk_c18 (i := 67) rfl) (dk_c18 (i := 68) rfl) ?_
  refine lw_arg X hSA hl (i := i) (k := 7) (z := 7) (ln := 2) (by decide) (lv_at hl 3 rfl) (by decide) hi (dk_c18 (i := 69) rfl) (dk_c18 (i := 70) rfl) (fun kz => lv_bipush hx hb (dk_c18 (i := 71) rfl) (by decide) kz) (dk_c18 (i := 72) rfl) (dk_c18 (i := 73) rfl) ?_
  refine lw_call X hkc hks nk_Md_sanding tw1699 tw1700 tw1701 (ci := 11) rfl (a := 166) rfl (as := [.int (xs (8 * i + 1)), .int (xs (8 * i + 2)), .int (xs (8 * i + 3)), .int (xs (8 * i + 4)), .int (xs (8 * i + 5)), .int (xs (8 * i + 6)), .int (xs (8 * i + 7))]) (rest := []) rfl rfl (Nat.le_of_ble_eq_true rfl) (Nat.le_of_ble_eq_true rfl) hPA hSA hl.1 (dk_c18 (i := 74) rfl) (ev_Md_sanding _ _ _ _ _ _ _ _ h2) (fun HB locsB hPB hSB => ?_)
  refine lv_pop hx hb (dk_c18 (i := 75) rfl) rfl ?_
  exact lv_goto (tgt := 1105) hx hb (dk_c18 (i := 76) rfl) (by decide) (kk σ2 HB locsB hI2 hPB hSB)
theorem lc_19 (X : LX p s mi meth c b Ln xs w) (hkc : kc ≤ 600000) (hks : ks ≤ 7302250) {Inv : Nat → MH → Prop} {E : Prop} (hst : ST19 E 4096 Inv) {σ : MH} {i : Nat} (hI : Inv i σ) {H : Heap} {locs : List Loc} {ls : Array Slot} (hP : va_P w.1 vwCl (wsO w σ) H) (hS : va_S (fun q => s.heap.size ≤ q) s.heap H locs) (hi : 8 * i + 8 ≤ Ln) (hl : lv_has ls 4 [(0, .ref b), (1, .ref (w.2.2.1 0)), (2, .ref (w.2.2.1 166)), (3, .int (nI (8 * i)))])
    (kk : ∀ (σ1 : MH) (H1 : Heap) (locs1 : List Loc), Inv (i + 1) σ1 → va_P w.1 vwCl (wsO w σ1) H1 → va_S (fun q => s.heap.size ≤ q) s.heap H1 locs1 → W p l e room_1 s mi #[Value.ref b] below meth c H1 locs1 kc ks Q (F0 mi 1105 ls [])) : W p l e room_1 s mi #[Value.ref b] below meth c H locs kc ks Q (F0 mi 825 ls []) := by
  have hx := X.1
  have hb := X.2.1
  have hBn : 8 * i + 8 ≤ 4096 := Nat.le_trans hi X.2.2.2.2.2.2.2.2.2.2.2
  obtain ⟨r, r', σ1, h1, h2, h3, hI2⟩ := hst i σ hBn hI (xs (8 * i + 1)) (xs (8 * i + 2)) (xs (8 * i + 3)) (xs (8 * i + 4))
  refine lv_aload_n hx hb (dk_c19 (i := 0) rfl) rfl (lv_at hl 1 rfl) ?_
  refine lw_arg X hS hl (i := i) (k := 1) (z := 1) (ln := 1) (by decide) (lv_at hl 3 rfl) (by decide) hi (dk_c19 (i := 1) rfl) (dk_c19 (i := 2) rfl) (fun kz => lv_iconst hx hb (dk_c19 (i := 3) rfl) (by decide) kz) (dk_c19 (i := 4) rfl) (dk_c19 (i := 5) rfl) ?_
  refine lw_arg X hS hl (i := i) (k := 2) (z := 2) (ln := 1) (by decide) (lv_at hl 3 rfl) (by decide) hi (dk_c19 (i := 6) rfl) (dk_c19 (i := 7) rfl) (fun kz => lv_iconst hx hb (dk_c19 (i := 8) rfl) (by decide) kz) (dk_c19 (i := 9) rfl) (dk_c19 (i := 10) rfl) ?_
  refine lw_arg X hS hl (i := i) (k := 3) (z := 3) (ln := 1) (by decide) (lv_at hl 3 rfl) (by decide) hi (dk_c19 (i := 11) rfl) (dk_c19 (i := 12) rfl) (fun kz => lv_iconst hx hb (dk_c19 (i := 13) rfl) (by decide) kz) (dk_c19 (i := 14) rfl) (dk_c19 (i := 15) rfl) ?_
  refine lw_arg X hS hl (i := i) (k := 4) (z := 4) (ln := 1) (by decide) (lv_at hl 3 rfl) (by decide) hi (dk_c19 (i := 16) rfl) (dk_c19 (i := 17) rfl) (fun kz => lv_iconst hx hb (dk_c19 (i := 18) rfl) (by decide) kz) (dk_c19 (i := 19) rfl) (dk_c19 (i := 20) rfl) ?_
  refine lw_call X hkc hks nk_Pz_steaming tw1138 tw1139 tw1140 (ci := 10) rfl (a := 0) rfl (as := [.int (xs (8 * i + 1)), .int (xs (8 * i + 2)), .int (xs (8 * i + 3)), .int (xs (8 * i + 4))]) (rest := []) rfl rfl (Nat.le_of_ble_eq_true rfl) (Nat.le_of_ble_eq_true rfl) hP hS hl.1 (dk_c19 (i := 21) rfl) (ev_Pz_steaming _ _ _ _ _ h1) (fun HA locsA hPA hSA => ?_)
  refine lv_pop hx hb (dk_c19 (i := 22) rfl) rfl ?_
  refine lv_aload_n hx hb (dk_c19 (i := 23) rfl) rfl (lv_at hl 2 rfl) ?_
  refine lw_arg X hSA hl (i := i) (k := 1) (z := 1) (ln := 1) (by decide) (lv_at hl 3 rfl) (by decide) hi (dk_c19 (i := 24) rfl) (dk_c19 (i := 25) rfl) (fun kz => lv_iconst hx hb (dk_c19 (i := 26) rfl) (by decide) kz) (dk_c19 (i := 27) rfl) (dk_c19 (i := 28) rfl) ?_
  refine lw_arg X hSA hl (i := i) (k := 2) (z := 2) (ln := 1) (by decide) (lv_at hl 3 rfl) (by decide) hi (dk_c19 (i := 29) rfl) (dk_c19 (i := 30) rfl) (fun kz => lv_iconst hx hb (dk_c19 (i := 31) rfl) (by decide) kz) (dk_c19 (i := 32) rfl) (dk_c19 (i := 33) rfl) ?_
  refine lw_arg X hSA hl (i := i) (k := 3) (z := 3) (ln := 1) (by decide) (lv_at hl 3 rfl) (by decide) hi (dk_c19 (i := 34) rfl) (dk_c19 (i := 35) rfl) (fun kz => lv_iconst hx hb (dk_c19 (i := 36) rfl) (by decide) kz) (dk_c19 (i := 37) rfl) (dk_c19 (i := 38) rfl) ?_
  refine lw_arg X hSA hl (i := i) (k := 4) (z := 4) (ln := 1) (by decide) (lv_at hl 3 rfl) (by decide) hi (dk_c19 (i := 39) rfl) (dk_c19 (i := 40) rfl) (fun kz => lv_iconst hx hb (dk_c19 (i := 41) rfl) (by decide) kz) (dk_c19 (i := 42) rfl) (dk_c19 (i := 43) rfl) ?_
  refine lw_call X hkc hks nk_Md_steaming tw1723 tw1724 tw1725 (ci := 11) rfl (a := 166) rfl (as := [.int (xs (8 * i + 1)), .int (xs (8 * i + 2)), .int (xs (8 * i + 3)), .int (xs (8 * i + 4))]) (rest := []) rfl rfl (Nat.le_of_ble_eq_true rfl) (Nat.le_of_ble_eq_true rfl) hPA hSA hl.1 (dk_c19 (i := 44) rfl) (ev_Md_steaming _ _ _ _ _ h2) (fun HB locsB hPB hSB => ?_)
  refine lv_pop hx hb (dk_c19 (i := 45) rfl) rfl ?_
  exact lv_goto (tgt := 1105) hx hb (dk_c19 (i := 46) rfl) (by decide) (kk σ1 HB locsB hI2 hPB hSB)
theorem lc_20 (X : LX p s mi meth c b Ln xs w) (hkc : kc ≤ 600000) (hks : ks ≤ 7302250) {Inv : Nat → MH → Prop} {E : Prop} (hst : ST20 E 4096 Inv) {σ : MH} {i : Nat} (hI : Inv i σ) {H : Heap} {locs : List Loc} {ls : Array Slot} (hP : va_P w.1 vwCl (wsO w σ) H) (hS : va_S (fun q => s.heap.size ≤ q) s.heap H locs) (hi : 8 * i + 8 ≤ Ln) (hl : lv_has ls 4 [(0, .ref b), (1, .ref (w.2.2.1 0)), (2, .ref (w.2.2.1 166)), (3, .int (nI (8 * i)))])
    (kk : ∀ (σ1 : MH) (H1 : Heap) (locs1 : List Loc), Inv (i + 1) σ1 → va_P w.1 vwCl (wsO w σ1) H1 → va_S (fun q => s.heap.size ≤ q) s.heap H1 locs1 → W p l e room_1 s mi #[Value.ref b] below meth c H1 locs1 kc ks Q (F0 mi 1105 ls [])) : W p l e room_1 s mi #[Value.ref b] below meth c H locs kc ks Q (F0 mi 878 ls []) := by
  have hx := X.1
  have hb := X.2.1
  have hBn : 8 * i + 8 ≤ 4096 := Nat.le_trans hi X.2.2.2.2.2.2.2.2.2.2.2
  obtain ⟨r, r', σ1, σ2, h1, h2, h3, hI2⟩ := hst i σ hBn hI (xs (8 * i + 1)) (xs (8 * i + 2))
  refine lv_aload_n hx hb (dk_c20 (i := 0) rfl) rfl (lv_at hl 1 rfl) ?_
  refine lw_arg X hS hl (i := i) (k := 1) (z := 1) (ln := 1) (by decide) (lv_at hl 3 rfl) (by decide) hi (dk_c20 (i := 1) rfl) (dk_c20 (i := 2) rfl) (fun kz => lv_iconst hx hb (dk_c20 (i := 3) rfl) (by decide) kz) (dk_c20 (i := 4) rfl) (dk_c20 (i := 5) rfl) ?_
  refine lw_arg X hS hl (i := i) (k := 2) (z := 2) (ln := 1) (by decide) (lv_at hl 3 rfl) (by decide) hi (dk_c20 (i := 6) rfl) (dk_c20 (i := 7) rfl) (fun kz => lv_iconst hx hb (dk_c20 (i := 8) rfl) (by decide) kz) (dk_c20 (i := 9) rfl) (dk_c20 (i := 10) rfl) ?_
  refine lw_call X hkc hks nk_Pz_worn tw1147 tw1148 tw1149 (ci := 10) rfl (a := 0) rfl (as := [.int (xs (8 * i + 1)), .int (xs (8 * i + 2))]) (rest := []) rfl rfl (Nat.le_of_ble_eq_true rfl) (Nat.le_of_ble_eq_true rfl) hP hS hl.1 (dk_c20 (i := 11) rfl) (ev_Pz_worn _ _ _ h1) (fun HA locsA hPA hSA => ?_)
  refine lv_pop hx hb (dk_c20 (i := 12) rfl) rfl ?_
  refine lv_aload_n hx hb (dk_c20 (i := 13) rfl) rfl (lv_at hl 2 rfl) ?_
  refine lw_arg X hSA hl (i := i) (k := 1) (z := 1) (ln := 1) (by decide) (lv_at hl 3 rfl) (by decide) hi (dk_c20 (i := 14) rfl) (dk_c20 (i := 15) rfl) (fun kz => lv_iconst hx hb (dk_c20 (i := 16) rfl) (by decide) kz) (dk_c20 (i := 17) rfl) (dk_c20 (i := 18) rfl) ?_
  refine lw_arg X hSA hl (i := i) (k := 2) (z := 2) (ln := 1) (by decide) (lv_at hl 3 rfl) (by decide) hi (dk_c20 (i := 19) rfl) (dk_c20 (i := 20) rfl) (fun kz => lv_iconst hx hb (dk_c20 (i := 21) rfl) (by decide) kz) (dk_c20 (i := 22) rfl) (dk_c20 (i := 23) rfl) ?_
  refine lw_call X hkc hks nk_Md_worn tw1731 tw1732 tw1733 (ci := 11) rfl (a := 166) rfl (as := [.int (xs (8 * i + 1)), .int (xs (8 * i + 2))]) (rest := []) rfl rfl (Nat.le_of_ble_eq_true rfl) (Nat.le_of_ble_eq_true rfl) hPA hSA hl.1 (dk_c20 (i := 24) rfl) (ev_Md_worn _ _ _ h2) (fun HB locsB hPB hSB => ?_)
  refine lv_pop hx hb (dk_c20 (i := 25) rfl) rfl ?_
  exact lv_goto (tgt := 1105) hx hb (dk_c20 (i := 26) rfl) (by decide) (kk σ2 HB locsB hI2 hPB hSB)
theorem lc_21 (X : LX p s mi meth c b Ln xs w) (hkc : kc ≤ 600000) (hks : ks ≤ 7302250) {Inv : Nat → MH → Prop} {E : Prop} (hst : ST21 E 4096 Inv) {σ : MH} {i : Nat} (hI : Inv i σ) {H : Heap} {locs : List Loc} {ls : Array Slot} (hP : va_P w.1 vwCl (wsO w σ) H) (hS : va_S (fun q => s.heap.size ≤ q) s.heap H locs) (hi : 8 * i + 8 ≤ Ln) (hl : lv_has ls 4 [(0, .ref b), (1, .ref (w.2.2.1 0)), (2, .ref (w.2.2.1 166)), (3, .int (nI (8 * i)))])
    (kk : ∀ (σ1 : MH) (H1 : Heap) (locs1 : List Loc), Inv (i + 1) σ1 → va_P w.1 vwCl (wsO w σ1) H1 → va_S (fun q => s.heap.size ≤ q) s.heap H1 locs1 → W p l e room_1 s mi #[Value.ref b] below meth c H1 locs1 kc ks Q (F0 mi 1105 ls [])) : W p l e room_1 s mi #[Value.ref b] below meth c H locs kc ks Q (F0 mi 911 ls []) := by
  have hx := X.1
  have hb := X.2.1
  have hBn : 8 * i + 8 ≤ 4096 := Nat.le_trans hi X.2.2.2.2.2.2.2.2.2.2.2
  obtain ⟨r, r', σ1, σ2, h1, h2, h3, hI2⟩ := hst i σ hBn hI (xs (8 * i + 1)) (xs (8 * i + 2))
  refine lv_aload_n hx hb (dk_c21 (i := 0) rfl) rfl (lv_at hl 1 rfl) ?_
  refine lw_arg X hS hl (i := i) (k := 1) (z := 1) (ln := 1) (by decide) (lv_at hl 3 rfl) (by decide) hi (dk_c21 (i := 1) rfl) (dk_c21 (i := 2) rfl) (fun kz => lv_iconst hx hb (dk_c21 (i := 3) rfl) (by decide) kz) (dk_c21 (i := 4) rfl) (dk_c21 (i := 5) rfl) ?_
  refine lw_arg X hS hl (i := i) (k := 2) (z := 2) (ln := 1) (by decide) (lv_at hl 3 rfl) (by decide) hi (dk_c21 (i := 6) rfl) (dk_c21 (i := 7) rfl) (fun kz => lv_iconst hx hb (dk_c21 (i := 8) rfl) (by decide) kz) (dk_c21 (i := 9) rfl) (dk_c21 (i := 10) rfl) ?_
  refine lw_call X hkc hks nk_Pz_cutter tw1154 tw1155 tw1156 (ci := 10) rfl (a := 0) rfl (as := [.int (xs (8 * i + 1)), .int (xs (8 * i + 2))]) (rest := []) rfl rfl (Nat.le_of_ble_eq_true rfl) (Nat.le_of_ble_eq_true rfl) hP hS hl.1 (dk_c21 (i := 11) rfl) (ev_Pz_cutter _ _ _ h1) (fun HA locsA hPA hSA => ?_)
  refine lv_pop hx hb (dk_c21 (i := 12) rfl) rfl ?_
  refine lv_aload_n hx hb (dk_c21 (i := 13) rfl) rfl (lv_at hl 2 rfl) ?_
  refine lw_arg X hSA hl (i := i) (k := 1) (z := 1) (ln := 1) (by decide) (lv_at hl 3 rfl) (by decide) hi (dk_c21 (i := 14) rfl) (dk_c21 (i := 15) rfl) (fun kz => lv_iconst hx hb (dk_c21 (i := 16) rfl) (by decide) kz) (dk_c21 (i := 17) rfl) (dk_c21 (i := 18) rfl) ?_
  refine lw_arg X hSA hl (i := i) (k := 2) (z := 2) (ln := 1) (by decide) (lv_at hl 3 rfl) (by decide) hi (dk_c21 (i := 19) rfl) (dk_c21 (i := 20) rfl) (fun kz => lv_iconst hx hb (dk_c21 (i := 21) rfl) (by decide) kz) (dk_c21 (i := 22) rfl) (dk_c21 (i := 23) rfl) ?_
  refine lw_call X hkc hks nk_Md_cutter tw1735 tw1736 tw1737 (ci := 11) rfl (a := 166) rfl (as := [.int (xs (8 * i + 1)), .int (xs (8 * i + 2))]) (rest := []) rfl rfl (Nat.le_of_ble_eq_true rfl) (Nat.le_of_ble_eq_true rfl) hPA hSA hl.1 (dk_c21 (i := 24) rfl) (ev_Md_cutter _ _ _ h2) (fun HB locsB hPB hSB => ?_)
  refine lv_pop hx hb (dk_c21 (i := 25) rfl) rfl ?_
  exact lv_goto (tgt := 1105) hx hb (dk_c21 (i := 26) rfl) (by decide) (kk σ2 HB locsB hI2 hPB hSB)
theorem lc_22 (X : LX p s mi meth c b Ln xs w) (hkc : kc ≤ 600000) (hks : ks ≤ 7302250) {Inv : Nat → MH → Prop} {E : Prop} (hst : ST22 E 4096 Inv) {σ : MH} {i : Nat} (hI : Inv i σ) {H : Heap} {locs : List Loc} {ls : Array Slot} (hP : va_P w.1 vwCl (wsO w σ) H) (hS : va_S (fun q => s.heap.size ≤ q) s.heap H locs) (hi : 8 * i + 8 ≤ Ln) (hl : lv_has ls 4 [(0, .ref b), (1, .ref (w.2.2.1 0)), (2, .ref (w.2.2.1 166)), (3, .int (nI (8 * i)))])
    (kk : ∀ (σ1 : MH) (H1 : Heap) (locs1 : List Loc), Inv (i + 1) σ1 → va_P w.1 vwCl (wsO w σ1) H1 → va_S (fun q => s.heap.size ≤ q) s.heap H1 locs1 → W p l e room_1 s mi #[Value.ref b] below meth c H1 locs1 kc ks Q (F0 mi 1105 ls [])) : W p l e room_1 s mi #[Value.ref b] below meth c H locs kc ks Q (F0 mi 944 ls []) := by
  have hx := X.1
  have hb := X.2.1
  have hBn : 8 * i + 8 ≤ 4096 := Nat.le_trans hi X.2.2.2.2.2.2.2.2.2.2.2
  obtain ⟨r, r', h1, h2, h3, hI2⟩ := hst i σ hBn hI (xs (8 * i + 1))
  refine lv_aload_n hx hb (dk_c22 (i := 0) rfl) rfl (lv_at hl 1 rfl) ?_
  refine lw_arg X hS hl (i := i) (k := 1) (z := 1) (ln := 1) (by decide) (lv_at hl 3 rfl) (by decide) hi (dk_c22 (i := 1) rfl) (dk_c22 (i := 2) rfl) (fun kz => lv_iconst hx hb (dk_c22 (i := 3) rfl) (by decide) kz) (dk_c22 (i := 4) rfl) (dk_c22 (i := 5) rfl) ?_
  refine lw_call X hkc hks nk_Pz_copies tw1173 tw1174 tw1175 (ci := 10) rfl (a := 0) rfl (as := [.int (xs (8 * i + 1))]) (rest := []) rfl rfl (Nat.le_of_ble_eq_true rfl) (Nat.le_of_ble_eq_true rfl) hP hS hl.1 (dk_c22 (i := 6) rfl) (ev_Pz_copies _ _ h1) (fun HA locsA hPA hSA => ?_)
  refine lv_pop hx hb (dk_c22 (i := 7) rfl) rfl ?_
  refine lv_aload_n hx hb (dk_c22 (i := 8) rfl) rfl (lv_at hl 2 rfl) ?_
  refine lw_arg X hSA hl (i := i) (k := 1) (z := 1) (ln := 1) (by decide) (lv_at hl 3 rfl) (by decide) hi (dk_c22 (i := 9) rfl) (dk_c22 (i := 10) rfl) (fun kz => lv_iconst hx hb (dk_c22 (i := 11) rfl) (by decide) kz) (dk_c22 (i := 12) rfl) (dk_c22 (i := 13) rfl) ?_
  refine lw_call X hkc hks nk_Md_copies tw1747 tw1748 tw1749 (ci := 11) rfl (a := 166) rfl (as := [.int (xs (8 * i + 1))]) (rest := []) rfl rfl (Nat.le_of_ble_eq_true rfl) (Nat.le_of_ble_eq_true rfl) hPA hSA hl.1 (dk_c22 (i := 14) rfl) (ev_Md_copies _ _ h2) (fun HB locsB hPB hSB => ?_)
  refine lv_pop hx hb (dk_c22 (i := 15) rfl) rfl ?_
  exact lv_goto (tgt := 1105) hx hb (dk_c22 (i := 16) rfl) (by decide) (kk σ HB locsB hI2 hPB hSB)
theorem lc_23 (X : LX p s mi meth c b Ln xs w) (hkc : kc ≤ 600000) (hks : ks ≤ 7302250) {Inv : Nat → MH → Prop} {E : Prop} (hst : ST23 E 4096 Inv) {σ : MH} {i : Nat} (hI : Inv i σ) {H : Heap} {locs : List Loc} {ls : Array Slot} (hP : va_P w.1 vwCl (wsO w σ) H) (hS : va_S (fun q => s.heap.size ≤ q) s.heap H locs) (hi : 8 * i + 8 ≤ Ln) (hl : lv_has ls 4 [(0, .ref b), (1, .ref (w.2.2.1 0)), (2, .ref (w.2.2.1 166)), (3, .int (nI (8 * i)))])
    (kk : ∀ (σ1 : MH) (H1 : Heap) (locs1 : List Loc), Inv (i + 1) σ1 → va_P w.1 vwCl (wsO w σ1) H1 → va_S (fun q => s.heap.size ≤ q) s.heap H1 locs1 → W p l e room_1 s mi #[Value.ref b] below meth c H1 locs1 kc ks Q (F0 mi 1105 ls [])) : W p l e room_1 s mi #[Value.ref b] below meth c H locs kc ks Q (F0 mi 967 ls []) := by
  have hx := X.1
  have hb := X.2.1
  have hBn : 8 * i + 8 ≤ 4096 := Nat.le_trans hi X.2.2.2.2.2.2.2.2.2.2.2
  obtain ⟨r, r', h1, h2, h3, hI2⟩ := hst i σ hBn hI (xs (8 * i + 1)) (xs (8 * i + 2))
  refine lv_aload_n hx hb (dk_c23 (i := 0) rfl) rfl (lv_at hl 1 rfl) ?_
  refine lw_arg X hS hl (i := i) (k := 1) (z := 1) (ln := 1) (by decide) (lv_at hl 3 rfl) (by decide) hi (dk_c23 (i := 1) rfl) (dk_c23 (i := 2) rfl) (fun kz => lv_iconst hx hb (dk_c23 (i := 3) rfl) (by decide) kz) (dk_c23 (i := 4) rfl) (dk_c23 (i := 5) rfl) ?_
  refine lw_arg X hS hl (i := i) (k := 2) (z := 2) (ln := 1) (by decide) (lv_at hl 3 rfl) (by decide) hi (dk_c23 (i := 6) rfl) (dk_c23 (i := 7) rfl) (fun kz => lv_iconst hx hb (dk_c23 (i := 8) rfl) (by decide) kz) (dk_c23 (i := 9) rfl) (dk_c23 (i := 10) rfl) ?_
  refine lw_call X hkc hks nk_Pz_mate tw1177 tw1178 tw1179 (ci := 10) rfl (a := 0) rfl (as := [.int (xs (8 * i + 1)), .int (xs (8 * i + 2))]) (rest := []) rfl rfl (Nat.le_of_ble_eq_true rfl) (Nat.le_of_ble_eq_true rfl) hP hS hl.1 (dk_c23 (i := 11) rfl) (ev_Pz_mate _ _ _ h1) (fun HA locsA hPA hSA => ?_)
  refine lv_pop hx hb (dk_c23 (i := 12) rfl) rfl ?_
  refine lv_aload_n hx hb (dk_c23 (i := 13) rfl) rfl (lv_at hl 2 rfl) ?_
  refine lw_arg X hSA hl (i := i) (k := 1) (z := 1) (ln := 1) (by decide) (lv_at hl 3 rfl) (by decide) hi (dk_c23 (i := 14) rfl) (dk_c23 (i := 15) rfl) (fun kz => lv_iconst hx hb (dk_c23 (i := 16) rfl) (by decide) kz) (dk_c23 (i := 17) rfl) (dk_c23 (i := 18) rfl) ?_
  refine lw_arg X hSA hl (i := i) (k := 2) (z := 2) (ln := 1) (by decide) (lv_at hl 3 rfl) (by decide) hi (dk_c23 (i := 19) rfl) (dk_c23 (i := 20) rfl) (fun kz => lv_iconst hx hb (dk_c23 (i := 21) rfl) (by decide) kz) (dk_c23 (i := 22) rfl) (dk_c23 (i := 23) rfl) ?_
  refine lw_call X hkc hks nk_Md_mate tw1755 tw1756 tw1757 (ci := 11) rfl (a := 166) rfl (as := [.int (xs (8 * i + 1)), .int (xs (8 * i + 2))]) (rest := []) rfl rfl (Nat.le_of_ble_eq_true rfl) (Nat.le_of_ble_eq_true rfl) hPA hSA hl.1 (dk_c23 (i := 24) rfl) (ev_Md_mate _ _ _ h2) (fun HB locsB hPB hSB => ?_)
  refine lv_pop hx hb (dk_c23 (i := 25) rfl) rfl ?_
  exact lv_goto (tgt := 1105) hx hb (dk_c23 (i := 26) rfl) (by decide) (kk σ HB locsB hI2 hPB hSB)
theorem lc_24 (X : LX p s mi meth c b Ln xs w) (hkc : kc ≤ 600000) (hks : ks ≤ 7302250) {Inv : Nat → MH → Prop} {E : Prop} (hst : ST24 E 4096 Inv) {σ : MH} {i : Nat} (hI : Inv i σ) {H : Heap} {locs : List Loc} {ls : Array Slot} (hP : va_P w.1 vwCl (wsO w σ) H) (hS : va_S (fun q => s.heap.size ≤ q) s.heap H locs) (hi : 8 * i + 8 ≤ Ln) (hl : lv_has ls 4 [(0, .ref b), (1, .ref (w.2.2.1 0)), (2, .ref (w.2.2.1 166)), (3, .int (nI (8 * i)))])
    (kk : ∀ (σ1 : MH) (H1 : Heap) (locs1 : List Loc), Inv (i + 1) σ1 → va_P w.1 vwCl (wsO w σ1) H1 → va_S (fun q => s.heap.size ≤ q) s.heap H1 locs1 → W p l e room_1 s mi #[Value.ref b] below meth c H1 locs1 kc ks Q (F0 mi 1105 ls [])) : W p l e room_1 s mi #[Value.ref b] below meth c H locs kc ks Q (F0 mi 1000 ls []) := by
  have hx := X.1
  have hb := X.2.1
  have hBn : 8 * i + 8 ≤ 4096 := Nat.le_trans hi X.2.2.2.2.2.2.2.2.2.2.2
  obtain ⟨r, r', σ1, σ2, h1, h2, h3, hI2⟩ := hst i σ hBn hI (xs (8 * i + 1))
  refine lv_aload_n hx hb (dk_c24 (i := 0) rfl) rfl (lv_at hl 1 rfl) ?_
  refine lw_arg X hS hl (i := i) (k := 1) (z := 1) (ln := 1) (by decide) (lv_at hl 3 rfl) (by decide) hi (dk_c24 (i := 1) rfl) (dk_c24 (i := 2) rfl) (fun kz => lv_iconst hx hb (dk_c24 (i := 3) rfl) (by decide) kz) (dk_c24 (i := 4) rfl) (dk_c24 (i := 5) rfl) ?_
  refine lw_call X hkc hks nk_Pz_seed tw1181 tw1182 tw1183 (ci := 10) rfl (a := 0) rfl (as := [.int (xs (8 * i + 1))]) (rest := []) rfl rfl (Nat.le_of_ble_eq_true rfl) (Nat.le_of_ble_eq_true rfl) hP hS hl.1 (dk_c24 (i := 6) rfl) (ev_Pz_seed _ _ h1) (fun HA locsA hPA hSA => ?_)
  refine lv_pop hx hb (dk_c24 (i := 7) rfl) rfl ?_
  refine lv_aload_n hx hb (dk_c24 (i := 8) rfl) rfl (lv_at hl 2 rfl) ?_
  refine lw_arg X hSA hl (i := i) (k := 1) (z := 1) (ln := 1) (by decide) (lv_at hl 3 rfl) (by decide) hi (dk_c24 (i := 9) rfl) (dk_c24 (i := 10) rfl) (fun kz => lv_iconst hx hb (dk_c24 (i := 11) rfl) (by decide) kz) (dk_c24 (i := 12) rfl) (dk_c24 (i := 13) rfl) ?_
  refine lw_call X hkc hks nk_Md_seed tw1759 tw1760 tw1761 (ci := 11) rfl (a := 166) rfl (as := [.int (xs (8 * i + 1))]) (rest := []) rfl rfl (Nat.le_of_ble_eq_true rfl) (Nat.le_of_ble_eq_true rfl) hPA hSA hl.1 (dk_c24 (i := 14) rfl) (ev_Md_seed _ _ h2) (fun HB locsB hPB hSB => ?_)
  refine lv_pop hx hb (dk_c24 (i := 15) rfl) rfl ?_
  exact lv_goto (tgt := 1105) hx hb (dk_c24 (i := 16) rfl) (by decide) (kk σ2 HB locsB hI2 hPB hSB)
theorem lc_25 (X : LX p s mi meth c b Ln xs w) (hkc : kc ≤ 600000) (hks : ks ≤ 7302250) {Inv : Nat → MH → Prop} {E : Prop} (hst : ST25 E 4096 Inv) {σ : MH} {i : Nat} (hI : Inv i σ) {H : Heap} {locs : List Loc} {ls : Array Slot} (hP : va_P w.1 vwCl (wsO w σ) H) (hS : va_S (fun q => s.heap.size ≤ q) s.heap H locs) (hi : 8 * i + 8 ≤ Ln) (hl : lv_has ls 4 [(0, .ref b), (1, .ref (w.2.2.1 0)), (2, .ref (w.2.2.1 166)), (3, .int (nI (8 * i)))])
    (kk : ∀ (σ1 : MH) (H1 : Heap) (locs1 : List Loc), Inv (i + 1) σ1 → va_P w.1 vwCl (wsO w σ1) H1 → va_S (fun q => s.heap.size ≤ q) s.heap H1 locs1 → W p l e room_1 s mi #[Value.ref b] below meth c H1 locs1 kc ks Q (F0 mi 1105 ls [])) : W p l e room_1 s mi #[Value.ref b] below meth c H locs kc ks Q (F0 mi 1023 ls []) := by
  have hx := X.1
  have hb := X.2.1
  have hBn : 8 * i + 8 ≤ 4096 := Nat.le_trans hi X.2.2.2.2.2.2.2.2.2.2.2
  obtain ⟨r, r', σ1, σ2, h1, h2, h3, hI2⟩ := hst i σ hBn hI 
  refine lv_aload_n hx hb (dk_c25 (i := 0) rfl) rfl (lv_at hl 1 rfl) ?_
  refine lw_call X hkc hks nk_Pz_keep tw1186 tw1187 tw1188 (ci := 10) rfl (a := 0) rfl (as := []) (rest := []) rfl rfl (Nat.le_of_ble_eq_true rfl) (Nat.le_of_ble_eq_true rfl) hP hS hl.1 (dk_c25 (i := 1) rfl) (ev_Pz_keep _ h1) (fun HA locsA hPA hSA => ?_)
  refine lv_pop hx hb (dk_c25 (i := 2) rfl) rfl ?_
  refine lv_aload_n hx hb (dk_c25 (i := 3) rfl) rfl (lv_at hl 2 rfl) ?_
  refine lw_call X hkc hks nk_Md_keep tw1764 tw1765 tw1766 (ci := 11) rfl (a := 166) rfl (as := []) (rest := []) rfl rfl (Nat.le_of_ble_eq_true rfl) (Nat.le_of_ble_eq_true rfl) hPA hSA hl.1 (dk_c25 (i := 4) rfl) (ev_Md_keep _ h2) (fun HB locsB hPB hSB => ?_)
  refine lv_pop hx hb (dk_c25 (i := 5) rfl) rfl ?_
  exact lv_goto (tgt := 1105) hx hb (dk_c25 (i := 6) rfl) (by decide) (kk σ2 HB locsB hI2 hPB hSB)
theorem lc_26 (X : LX p s mi meth c b Ln xs w) (hkc : kc ≤ 600000) (hks : ks ≤ 7302250) {Inv : Nat → MH → Prop} {E : Prop} (hst : ST26 E 4096 Inv) {σ : MH} {i : Nat} (hI : Inv i σ) {H : Heap} {locs : List Loc} {ls : Array Slot} (hP : va_P w.1 vwCl (wsO w σ) H) (hS : va_S (fun q => s.heap.size ≤ q) s.heap H locs) (hi : 8 * i + 8 ≤ Ln) (hl : lv_has ls 4 [(0, .ref b), (1, .ref (w.2.2.1 0)), (2, .ref (w.2.2.1 166)), (3, .int (nI (8 * i)))])
    (kk : ∀ (σ1 : MH) (H1 : Heap) (locs1 : List Loc), Inv (i + 1) σ1 → va_P w.1 vwCl (wsO w σ1) H1 → va_S (fun q => s.heap.size ≤ q) s.heap H1 locs1 → W p l e room_1 s mi #[Value.ref b] below meth c H1 locs1 kc ks Q (F0 mi 1105 ls [])) : W p l e room_1 s mi #[Value.ref b] below meth c H locs kc ks Q (F0 mi 1036 ls []) := by
  have hx := X.1
  have hb := X.2.1
  have hBn : 8 * i + 8 ≤ 4096 := Nat.le_trans hi X.2.2.2.2.2.2.2.2.2.2.2
  obtain ⟨r, r', σ1, σ2, h1, h2, h3, hI2⟩ := hst i σ hBn hI 
  refine lv_aload_n hx hb (dk_c26 (i := 0) rfl) rfl (lv_at hl 1 rfl) ?_
  refine lw_call X hkc hks nk_Pz_undo tw1190 tw1191 tw1192 (ci := 10) rfl (a := 0) rfl (as := []) (rest := []) rfl rfl (Nat.le_of_ble_eq_true rfl) (Nat.le_of_ble_eq_true rfl) hP hS hl.1 (dk_c26 (i := 1) rfl) (ev_Pz_undo _ h1) (fun HA locsA hPA hSA => ?_)
  refine lv_pop hx hb (dk_c26 (i := 2) rfl) rfl ?_
  refine lv_aload_n hx hb (dk_c26 (i := 3) rfl) rfl (lv_at hl 2 rfl) ?_
  refine lw_call X hkc hks nk_Md_undo tw1768 tw1769 tw1770 (ci := 11) rfl (a := 166) rfl (as := []) (rest := []) rfl rfl (Nat.le_of_ble_eq_true rfl) (Nat.le_of_ble_eq_true rfl) hPA hSA hl.1 (dk_c26 (i := 4) rfl) (ev_Md_undo _ h2) (fun HB locsB hPB hSB => ?_)
  refine lv_pop hx hb (dk_c26 (i := 5) rfl) rfl ?_
  exact lv_goto (tgt := 1105) hx hb (dk_c26 (i := 6) rfl) (by decide) (kk σ2 HB locsB hI2 hPB hSB)
theorem lc_27 (X : LX p s mi meth c b Ln xs w) (hkc : kc ≤ 600000) (hks : ks ≤ 7302250) {Inv : Nat → MH → Prop} {E : Prop} (hst : ST27 E 4096 Inv) {σ : MH} {i : Nat} (hI : Inv i σ) {H : Heap} {locs : List Loc} {ls : Array Slot} (hP : va_P w.1 vwCl (wsO w σ) H) (hS : va_S (fun q => s.heap.size ≤ q) s.heap H locs) (hi : 8 * i + 8 ≤ Ln) (hl : lv_has ls 4 [(0, .ref b), (1, .ref (w.2.2.1 0)), (2, .ref (w.2.2.1 166)), (3, .int (nI (8 * i)))])
    (kk : ∀ (σ1 : MH) (H1 : Heap) (locs1 : List Loc), Inv (i + 1) σ1 → va_P w.1 vwCl (wsO w σ1) H1 → va_S (fun q => s.heap.size ≤ q) s.heap H1 locs1 → W p l e room_1 s mi #[Value.ref b] below meth c H1 locs1 kc ks Q (F0 mi 1105 ls [])) : W p l e room_1 s mi #[Value.ref b] below meth c H locs kc ks Q (F0 mi 1049 ls []) := by
  have hx := X.1
  have hb := X.2.1
  have hBn : 8 * i + 8 ≤ 4096 := Nat.le_trans hi X.2.2.2.2.2.2.2.2.2.2.2
  obtain ⟨r, r', σ1, σ2, h1, h2, h3, hI2⟩ := hst i σ hBn hI (xs (8 * i + 1)) (xs (8 * i + 2))
  refine lv_aload_n hx hb (dk_c27 (i := 0) rfl) rfl (lv_at hl 1 rfl) ?_
  refine lw_arg X hS hl (i := i) (k := 1) (z := 1) (ln := 1) (by decide) (lv_at hl 3 rfl) (by decide) hi (dk_c27 (i := 1) rfl) (dk_c27 (i := 2) rfl) (fun kz => lv_iconst hx hb (dk_c27 (i := 3) rfl) (by decide) kz) (dk_c27 (i := 4) rfl) (dk_c27 (i := 5) rfl) ?_
  refine lw_arg X hS hl (i := i) (k := 2) (z := 2) (ln := 1) (by decide) (lv_at hl 3 rfl) (by decide) hi (dk_c27 (i := 6) rfl) (dk_c27 (i := 7) rfl) (fun kz => lv_iconst hx hb (dk_c27 (i := 8) rfl) (by decide) kz) (dk_c27 (i := 9) rfl) (dk_c27 (i := 10) rfl) ?_
  refine lw_call X hkc hks nk_Pz_check tw1194 tw1195 tw1196 (ci := 10) rfl (a := 0) rfl (as := [.int (xs (8 * i + 1)), .int (xs (8 * i + 2))]) (rest := []) rfl rfl (Nat.le_of_ble_eq_true rfl) (Nat.le_of_ble_eq_true rfl) hP hS hl.1 (dk_c27 (i := 11) rfl) (ev_Pz_check _ _ _ h1) (fun HA locsA hPA hSA => ?_)
  refine lv_pop hx hb (dk_c27 (i := 12) rfl) rfl ?_
  refine lv_aload_n hx hb (dk_c27 (i := 13) rfl) rfl (lv_at hl 2 rfl) ?_
  refine lw_arg X hSA hl (i := i) (k := 1) (z := 1) (ln := 1) (by decide) (lv_at hl 3 rfl) (by decide) hi (dk_c27 (i := 14) rfl) (dk_c27 (i := 15) rfl) (fun kz => lv_iconst hx hb (dk_c27 (i := 16) rfl) (by decide) kz) (dk_c27 (i := 17) rfl) (dk_c27 (i := 18) rfl) ?_
  refine lw_arg X hSA hl (i := i) (k := 2) (z := 2) (ln := 1) (by decide) (lv_at hl 3 rfl) (by decide) hi (dk_c27 (i := 19) rfl) (dk_c27 (i := 20) rfl) (fun kz => lv_iconst hx hb (dk_c27 (i := 21) rfl) (by decide) kz) (dk_c27 (i := 22) rfl) (dk_c27 (i := 23) rfl) ?_
  refine lw_call X hkc hks nk_Md_check tw1772 tw1773 tw1774 (ci := 11) rfl (a := 166) rfl (as := [.int (xs (8 * i + 1)), .int (xs (8 * i + 2))]) (rest := []) rfl rfl (Nat.le_of_ble_eq_true rfl) (Nat.le_of_ble_eq_true rfl) hPA hSA hl.1 (dk_c27 (i := 24) rfl) (ev_Md_check _ _ _ h2) (fun HB locsB hPB hSB => ?_)
  refine lv_pop hx hb (dk_c27 (i := 25) rfl) rfl ?_
  exact lv_goto (tgt := 1105) hx hb (dk_c27 (i := 26) rfl) (by decide) (kk σ2 HB locsB hI2 hPB hSB)
theorem lc_28 (X : LX p s mi meth c b Ln xs w) (hkc : kc ≤ 600000) (hks : ks ≤ 7302250) {Inv : Nat → MH → Prop} {E : Prop} (hE : E) (hst : ST28 E 4096 Inv) {σ : MH} {i : Nat} (hI : Inv i σ) {H : Heap} {locs : List Loc} {ls : Array Slot} (hP : va_P w.1 vwCl (wsO w σ) H) (hS : va_S (fun q => s.heap.size ≤ q) s.heap H locs) (hi : 8 * i + 8 ≤ Ln) (hl : lv_has ls 4 [(0, .ref b), (1, .ref (w.2.2.1 0)), (2, .ref (w.2.2.1 166)), (3, .int (nI (8 * i)))])
    (kk : ∀ (σ1 : MH) (H1 : Heap) (locs1 : List Loc), Inv (i + 1) σ1 → va_P w.1 vwCl (wsO w σ1) H1 → va_S (fun q => s.heap.size ≤ q) s.heap H1 locs1 → W p l e room_1 s mi #[Value.ref b] below meth c H1 locs1 kc ks Q (F0 mi 1105 ls [])) : W p l e room_1 s mi #[Value.ref b] below meth c H locs kc ks Q (F0 mi 1082 ls []) := by
  have hx := X.1
  have hb := X.2.1
  have hBn : 8 * i + 8 ≤ 4096 := Nat.le_trans hi X.2.2.2.2.2.2.2.2.2.2.2
  obtain ⟨r, r', h1, h2, h3, hI2⟩ := hst i σ hBn hI (xs (8 * i + 1))
  obtain rfl := h3 hE
  refine lv_aload_n hx hb (dk_c28 (i := 0) rfl) rfl (lv_at hl 1 rfl) ?_
  refine lw_arg X hS hl (i := i) (k := 1) (z := 1) (ln := 1) (by decide) (lv_at hl 3 rfl) (by decide) hi (dk_c28 (i := 1) rfl) (dk_c28 (i := 2) rfl) (fun kz => lv_iconst hx hb (dk_c28 (i := 3) rfl) (by decide) kz) (dk_c28 (i := 4) rfl) (dk_c28 (i := 5) rfl) ?_
  refine lw_call X hkc hks nk_Pz_count tw1198 tw1199 tw1200 (ci := 10) rfl (a := 0) rfl (as := [.int (xs (8 * i + 1))]) (rest := []) rfl rfl (Nat.le_of_ble_eq_true rfl) (Nat.le_of_ble_eq_true rfl) hP hS hl.1 (dk_c28 (i := 6) rfl) (ev_Pz_count _ _ h1) (fun HA locsA hPA hSA => ?_)
  refine lv_aload_n hx hb (dk_c28 (i := 7) rfl) rfl (lv_at hl 2 rfl) ?_
  refine lw_arg X hSA hl (i := i) (k := 1) (z := 1) (ln := 1) (by decide) (lv_at hl 3 rfl) (by decide) hi (dk_c28 (i := 8) rfl) (dk_c28 (i := 9) rfl) (fun kz => lv_iconst hx hb (dk_c28 (i := 10) rfl) (by decide) kz) (dk_c28 (i := 11) rfl) (dk_c28 (i := 12) rfl) ?_
  refine lw_call X hkc hks nk_Md_count tw1776 tw1777 tw1778 (ci := 11) rfl (a := 166) rfl (as := [.int (xs (8 * i + 1))]) (rest := [.int r]) rfl rfl (Nat.le_of_ble_eq_true rfl) (Nat.le_of_ble_eq_true rfl) hPA hSA hl.1 (dk_c28 (i := 13) rfl) (ev_Md_count _ _ h2) (fun HB locsB hPB hSB => ?_)
  exact lv_icmp_eq hx hb (dk_c28 (i := 14) rfl) (by decide) (fun _ => kk σ HB locsB hI2 hPB hSB) (fun q => absurd rfl q)
theorem law_end (X : LX p s mi meth c b Ln xs w) (hr : meth.sig.returnType = ret) (hlocks : meth.locks = false) (hkc : kc ≤ 600000) (hks : ks ≤ 7302250) {H : Heap} {locs : List Loc} {ls : Array Slot} {i : Nat} (hlt : ¬ 8 * i + 8 ≤ Ln) (hi : 8 * i ≤ Ln + 8) (hS : va_S (fun q => s.heap.size ≤ q) s.heap H locs) (hl : lv_has ls 4 [(0, .ref b), (1, .ref (w.2.2.1 0)), (2, .ref (w.2.2.1 166)), (3, .int (nI (8 * i)))]) : W p l e room_1 s mi #[Value.ref b] below meth c H locs kc ks (lw_Z below #[Value.ref b] s) (F0 mi 18 ls []) := by
  obtain ⟨hx, hb, hml, hown, hts, hWS, hWT, had, hA, hX, hbl, hLn⟩ := id X
  refine lv_iload_n hx hb (dk_h (i := 10) rfl) rfl (lv_at hl 3 rfl) ?_
  refine lv_aload_n hx hb (dk_h (i := 11) rfl) rfl (lv_at hl 0 rfl) ?_
  refine va_slen hx hb hX hbl (fun h => Nat.not_le.mpr hbl h) hS (dk_h (i := 12) rfl) ?_
  refine lv_bipush (v := 8) hx hb (dk_h (i := 13) rfl) (by decide) ?_
  refine lv_isub hx hb (dk_h (i := 14) rfl) ?_
  refine lv_icmp_gt hx hb (dk_h (i := 15) rfl) (tgt := 1111) (by decide) (fun _ => ?_) (fun q => absurd ?_ q)
  · refine va_forget hS.2.2 ?_
    refine W.widen hkc hks ?_
    refine lv_iconst (v := 1) hx hb (dk_e (i := 2) rfl) (by decide) ?_
    exact lw_ret hx hb hr hlocks (dk_e (i := 3) rfl)
  · rw [Int32.lt_iff_toInt_lt]
    have h1 : (nI (8 * i)).toInt = ((8 * i : Nat) : Int) := nI_toInt (by omega)
    have h2 : (Int32.ofNat Ln - 8).toInt = (Ln : Int) - 8 := by
      exact pk_sub_toInt (a := Ln) (b := 8) (by omega) (by omega)
    rw [h1, h2]
    omega
theorem law_head (X : LX p s mi meth c b Ln xs w) {H : Heap} {locs : List Loc} {ls : Array Slot} {i : Nat} (hS : va_S (fun q => s.heap.size ≤ q) s.heap H locs) (hl : lv_has ls 4 [(0, .ref b), (1, .ref (w.2.2.1 0)), (2, .ref (w.2.2.1 166)), (3, .int (nI (8 * i)))]) (hlt : 8 * i + 8 ≤ Ln) (kk : W p l e room_1 s mi #[Value.ref b] below meth c H locs kc ks Q (F0 mi 33 ls [.int (xs (8 * i) &&& 31)])) : W p l e room_1 s mi #[Value.ref b] below meth c H locs kc ks Q (F0 mi 18 ls []) := by
  obtain ⟨hx, hb, hml, hown, hts, hWS, hWT, had, hA, hX, hbl, hLn⟩ := id X
  refine lv_iload_n hx hb (dk_h (i := 10) rfl) rfl (lv_at hl 3 rfl) ?_
  refine lv_aload_n hx hb (dk_h (i := 11) rfl) rfl (lv_at hl 0 rfl) ?_
  refine va_slen hx hb hX hbl (fun h => Nat.not_le.mpr hbl h) hS (dk_h (i := 12) rfl) ?_
  refine lv_bipush (v := 8) hx hb (dk_h (i := 13) rfl) (by decide) ?_
  refine lv_isub hx hb (dk_h (i := 14) rfl) ?_
  refine lv_icmp_gt hx hb (dk_h (i := 15) rfl) (tgt := 1111) (by decide) (fun q => absurd q ?_) (fun _ => ?_)
  · rw [Int32.lt_iff_toInt_lt]
    have h1 : (nI (8 * i)).toInt = ((8 * i : Nat) : Int) := nI_toInt (by omega)
    have h2 : (Int32.ofNat Ln - 8).toInt = (Ln : Int) - 8 := by
      exact pk_sub_toInt (a := Ln) (b := 8) (by omega) (by omega)
    rw [h1, h2]
    omega
  · refine lv_aload_n hx hb (dk_h (i := 16) rfl) rfl (lv_at hl 0 rfl) ?_
    refine lv_iload_n hx hb (dk_h (i := 17) rfl) rfl (lv_at hl 3 rfl) ?_
    refine va_sld hx hb hX hbl (fun h => Nat.not_le.mpr hbl h) hS (vp_in_nI (by omega) (by omega)) (dk_h (i := 18) rfl) ?_
    rw [nI_clamp (by omega)]
    refine lv_bipush (v := 31) hx hb (dk_h (i := 19) rfl) (by decide) ?_
    exact lv_iand hx hb (dk_h (i := 20) rfl) kk
theorem law_back (X : LX p s mi meth c b Ln xs w) {H : Heap} {locs : List Loc} {ls : Array Slot} {i : Nat} (hl : lv_has ls 4 [(0, .ref b), (1, .ref (w.2.2.1 0)), (2, .ref (w.2.2.1 166)), (3, .int (nI (8 * i)))]) (kk : ∀ ls2 : Array Slot, lv_has ls2 4 [(0, .ref b), (1, .ref (w.2.2.1 0)), (2, .ref (w.2.2.1 166)), (3, .int (nI (8 * (i + 1))))] → W p l e room_1 s mi #[Value.ref b] below meth c H locs kc ks Q (F0 mi 18 ls2 [])) : W p l e room_1 s mi #[Value.ref b] below meth c H locs kc ks Q (F0 mi 1105 ls []) := by
  refine lv_iinc (v := nI (8 * (i + 1))) (lv' := [(3, .int (nI (8 * (i + 1)))), (0, .ref b), (1, .ref (w.2.2.1 0)), (2, .ref (w.2.2.1 166))]) X.1 X.2.1 (dk_e (i := 0) rfl) hl (k := 3) rfl ?_ (by decide) rfl (fun ls2 hl2 => ?_)
  · show nI (8 * i) + nI 8 = _
    rw [nI_add]
    rfl
  · refine lv_goto (tgt := 18) X.1 X.2.1 (dk_e (i := 1) rfl) (by decide) ?_
    exact kk ls2 (lv_sub hl2 [1, 2, 3, 0] rfl)
set_option maxHeartbeats 2000000 in
theorem law_loop (X : LX p s mi meth c b Ln xs w) (hr : meth.sig.returnType = ret) (hlocks : meth.locks = false) (hkc : kc ≤ 600000) (hks : ks ≤ 7302250) {Inv : Nat → MH → Prop} {E : Nat → Prop} (hE : EC E) (hst : STEP E 4096 Inv) : ∀ (n i : Nat) (σ : MH) (H : Heap) (locs : List Loc) (ls : Array Slot), Ln < 8 * i + n → 8 * i ≤ Ln + 8 → Inv i σ → va_P w.1 vwCl (wsO w σ) H → va_S (fun q => s.heap.size ≤ q) s.heap H locs → lv_has ls 4 [(0, .ref b), (1, .ref (w.2.2.1 0)), (2, .ref (w.2.2.1 166)), (3, .int (nI (8 * i)))] → W p l e room_1 s mi #[Value.ref b] below meth c H locs kc ks (lw_Z below #[Value.ref b] s) (F0 mi 18 ls []) := by
  intro n
  induction n with
  | zero =>
    intro i σ H locs ls hn hi hI hP hS hl
    have hlt : ¬ 8 * i + 8 ≤ Ln := by omega
    exact law_end X hr hlocks hkc hks hlt hi hS hl
  | succ n ih =>
    intro i σ H locs ls hn hi hI hP hS hl
    by_cases hlt : 8 * i + 8 ≤ Ln
    · refine law_head X hS hl hlt ?_
      have hBn : 8 * i + 8 ≤ 4096 := Nat.le_trans hlt X.2.2.2.2.2.2.2.2.2.2.2
      have kk : ∀ (σ1 : MH) (H1 : Heap) (locs1 : List Loc), Inv (i + 1) σ1 → va_P w.1 vwCl (wsO w σ1) H1 → va_S (fun q => s.heap.size ≤ q) s.heap H1 locs1 → W p l e room_1 s mi #[Value.ref b] below meth c H1 locs1 kc ks (lw_Z below #[Value.ref b] s) (F0 mi 1105 ls []) := by
        intro σ1 H1 locs1 hI1 hP1 hS1
        refine law_back X hl ?_
        intro ls2 hl2
        exact ih (i + 1) σ1 H1 locs1 ls2 (by omega) (by omega) hI1 hP1 hS1 hl2
      generalize xs (8 * i) &&& 31 = y
      have hsw := fun (lo : Int) (hi : Int) => tsw_all y lo hi
      by_cases h1 : y.toInt < 0
      · exact lv_tableOut X.1 X.2.1 dk_sw (Or.inl h1) (by decide) (kk σ H locs (hst.1 i σ hBn hI) hP hS)
      by_cases h2 : 28 < y.toInt
      · exact lv_tableOut X.1 X.2.1 dk_sw (Or.inr h2) (by decide) (kk σ H locs (hst.1 i σ hBn hI) hP hS)
      have q := tsw_all y 0 28 [0, 1, 2, 3, 4, 5, 6, 7, 8, 9, 10, 11, 12, 13, 14, 15, 16, 17, 18, 19, 20, 21, 22, 23, 24, 25, 26, 27, 28] (by decide) h1 h2
      simp only [List.mem_cons, List.not_mem_nil, or_false] at q
      rcases q with q | q | q | q | q | q | q | q | q | q | q | q | q | q | q | q | q | q | q | q | q | q | q | q | q | q | q | q | q
      · exact lv_tableIn X.1 X.2.1 dk_sw (tsw_in q 0 28 rfl).1 (tsw_in q 0 28 rfl).2 (by rw [q]; rfl) (tgt := 164) (by decide) (lc_0 X hkc hks (hst.2.1) hI hP hS hlt hl kk)
      · exact lv_tableIn X.1 X.2.1 dk_sw (tsw_in q 0 28 rfl).1 (tsw_in q 0 28 rfl).2 (by rw [q]; rfl) (tgt := 207) (by decide) (lc_1 X hkc hks (hst.2.2.1) hI hP hS hlt hl kk)
      · exact lv_tableIn X.1 X.2.1 dk_sw (tsw_in q 0 28 rfl).1 (tsw_in q 0 28 rfl).2 (by rw [q]; rfl) (tgt := 240) (by decide) (lc_2 X hkc hks (hst.2.2.2.1) hI hP hS hlt hl kk)
      · exact lv_tableIn X.1 X.2.1 dk_sw (tsw_in q 0 28 rfl).1 (tsw_in q 0 28 rfl).2 (by rw [q]; rfl) (tgt := 263) (by decide) (lc_3 X hkc hks (hst.2.2.2.2.1) hI hP hS hlt hl kk)
      · exact lv_tableIn X.1 X.2.1 dk_sw (tsw_in q 0 28 rfl).1 (tsw_in q 0 28 rfl).2 (by rw [q]; rfl) (tgt := 296) (by decide) (lc_4 X hkc hks (hst.2.2.2.2.2.1) hI hP hS hlt hl kk)
      · exact lv_tableIn X.1 X.2.1 dk_sw (tsw_in q 0 28 rfl).1 (tsw_in q 0 28 rfl).2 (by rw [q]; rfl) (tgt := 359) (by decide) (lc_5 X hkc hks (hst.2.2.2.2.2.2.1) hI hP hS hlt hl kk)
      · exact lv_tableIn X.1 X.2.1 dk_sw (tsw_in q 0 28 rfl).1 (tsw_in q 0 28 rfl).2 (by rw [q]; rfl) (tgt := 382) (by decide) (lc_6 X hkc hks (hst.2.2.2.2.2.2.2.1) hI hP hS hlt hl kk)
      · exact lv_tableIn X.1 X.2.1 dk_sw (tsw_in q 0 28 rfl).1 (tsw_in q 0 28 rfl).2 (by rw [q]; rfl) (tgt := 415) (by decide) (lc_7 X hkc hks (hst.2.2.2.2.2.2.2.2.1) hI hP hS hlt hl kk)
      · exact lv_tableIn X.1 X.2.1 dk_sw (tsw_in q 0 28 rfl).1 (tsw_in q 0 28 rfl).2 (by rw [q]; rfl) (tgt := 448) (by decide) (lc_8 X hkc hks (hst.2.2.2.2.2.2.2.2.2.1) hI hP hS hlt hl kk)
      · exact lv_tableIn X.1 X.2.1 dk_sw (tsw_in q 0 28 rfl).1 (tsw_in q 0 28 rfl).2 (by rw [q]; rfl) (tgt := 471) (by decide) (lc_9 X hkc hks (hst.2.2.2.2.2.2.2.2.2.2.1) hI hP hS hlt hl kk)
      · exact lv_tableIn X.1 X.2.1 dk_sw (tsw_in q 0 28 rfl).1 (tsw_in q 0 28 rfl).2 (by rw [q]; rfl) (tgt := 504) (by decide) (lc_10 X hkc hks (hst.2.2.2.2.2.2.2.2.2.2.2.1) hI hP hS hlt hl kk)
      · exact lv_tableIn X.1 X.2.1 dk_sw (tsw_in q 0 28 rfl).1 (tsw_in q 0 28 rfl).2 (by rw [q]; rfl) (tgt := 537) (by decide) (lc_11 X hkc hks (hst.2.2.2.2.2.2.2.2.2.2.2.2.1) hI hP hS hlt hl kk)
      · exact lv_tableIn X.1 X.2.1 dk_sw (tsw_in q 0 28 rfl).1 (tsw_in q 0 28 rfl).2 (by rw [q]; rfl) (tgt := 570) (by decide) (lc_12 X hkc hks (hst.2.2.2.2.2.2.2.2.2.2.2.2.2.1) hI hP hS hlt hl kk)
      · exact lv_tableIn X.1 X.2.1 dk_sw (tsw_in q 0 28 rfl).1 (tsw_in q 0 28 rfl).2 (by rw [q]; rfl) (tgt := 613) (by decide) (lc_13 X hkc hks (hst.2.2.2.2.2.2.2.2.2.2.2.2.2.2.1) hI hP hS hlt hl kk)
      · exact lv_tableIn X.1 X.2.1 dk_sw (tsw_in q 0 28 rfl).1 (tsw_in q 0 28 rfl).2 (by rw [q]; rfl) (tgt := 636) (by decide) (lc_14 X hkc hks (hst.2.2.2.2.2.2.2.2.2.2.2.2.2.2.2.1) hI hP hS hlt hl kk)
      · exact lv_tableIn X.1 X.2.1 dk_sw (tsw_in q 0 28 rfl).1 (tsw_in q 0 28 rfl).2 (by rw [q]; rfl) (tgt := 659) (by decide) (lc_15 X hkc hks (hst.2.2.2.2.2.2.2.2.2.2.2.2.2.2.2.2.1) hI hP hS hlt hl kk)
      · exact lv_tableIn X.1 X.2.1 dk_sw (tsw_in q 0 28 rfl).1 (tsw_in q 0 28 rfl).2 (by rw [q]; rfl) (tgt := 682) (by decide) (lc_16 X hkc hks (hst.2.2.2.2.2.2.2.2.2.2.2.2.2.2.2.2.2.1) hI hP hS hlt hl kk)
      · exact lv_tableIn X.1 X.2.1 dk_sw (tsw_in q 0 28 rfl).1 (tsw_in q 0 28 rfl).2 (by rw [q]; rfl) (tgt := 705) (by decide) (lc_17 X hkc hks (hst.2.2.2.2.2.2.2.2.2.2.2.2.2.2.2.2.2.2.1) hI hP hS hlt hl kk)
      · exact lv_tableIn X.1 X.2.1 dk_sw (tsw_in q 0 28 rfl).1 (tsw_in q 0 28 rfl).2 (by rw [q]; rfl) (tgt := 738) (by decide) (lc_18 X hkc hks (hst.2.2.2.2.2.2.2.2.2.2.2.2.2.2.2.2.2.2.2.1) hI hP hS hlt hl kk)
      · exact lv_tableIn X.1 X.2.1 dk_sw (tsw_in q 0 28 rfl).1 (tsw_in q 0 28 rfl).2 (by rw [q]; rfl) (tgt := 825) (by decide) (lc_19 X hkc hks (hst.2.2.2.2.2.2.2.2.2.2.2.2.2.2.2.2.2.2.2.2.1) hI hP hS hlt hl kk)
      · exact lv_tableIn X.1 X.2.1 dk_sw (tsw_in q 0 28 rfl).1 (tsw_in q 0 28 rfl).2 (by rw [q]; rfl) (tgt := 878) (by decide) (lc_20 X hkc hks (hst.2.2.2.2.2.2.2.2.2.2.2.2.2.2.2.2.2.2.2.2.2.1) hI hP hS hlt hl kk)
      · exact lv_tableIn X.1 X.2.1 dk_sw (tsw_in q 0 28 rfl).1 (tsw_in q 0 28 rfl).2 (by rw [q]; rfl) (tgt := 911) (by decide) (lc_21 X hkc hks (hst.2.2.2.2.2.2.2.2.2.2.2.2.2.2.2.2.2.2.2.2.2.2.1) hI hP hS hlt hl kk)
      · exact lv_tableIn X.1 X.2.1 dk_sw (tsw_in q 0 28 rfl).1 (tsw_in q 0 28 rfl).2 (by rw [q]; rfl) (tgt := 944) (by decide) (lc_22 X hkc hks (hst.2.2.2.2.2.2.2.2.2.2.2.2.2.2.2.2.2.2.2.2.2.2.2.1) hI hP hS hlt hl kk)
      · exact lv_tableIn X.1 X.2.1 dk_sw (tsw_in q 0 28 rfl).1 (tsw_in q 0 28 rfl).2 (by rw [q]; rfl) (tgt := 967) (by decide) (lc_23 X hkc hks (hst.2.2.2.2.2.2.2.2.2.2.2.2.2.2.2.2.2.2.2.2.2.2.2.2.1) hI hP hS hlt hl kk)
      · exact lv_tableIn X.1 X.2.1 dk_sw (tsw_in q 0 28 rfl).1 (tsw_in q 0 28 rfl).2 (by rw [q]; rfl) (tgt := 1000) (by decide) (lc_24 X hkc hks (hst.2.2.2.2.2.2.2.2.2.2.2.2.2.2.2.2.2.2.2.2.2.2.2.2.2.1) hI hP hS hlt hl kk)
      · exact lv_tableIn X.1 X.2.1 dk_sw (tsw_in q 0 28 rfl).1 (tsw_in q 0 28 rfl).2 (by rw [q]; rfl) (tgt := 1023) (by decide) (lc_25 X hkc hks (hst.2.2.2.2.2.2.2.2.2.2.2.2.2.2.2.2.2.2.2.2.2.2.2.2.2.2.1) hI hP hS hlt hl kk)
      · exact lv_tableIn X.1 X.2.1 dk_sw (tsw_in q 0 28 rfl).1 (tsw_in q 0 28 rfl).2 (by rw [q]; rfl) (tgt := 1036) (by decide) (lc_26 X hkc hks (hst.2.2.2.2.2.2.2.2.2.2.2.2.2.2.2.2.2.2.2.2.2.2.2.2.2.2.2.1) hI hP hS hlt hl kk)
      · exact lv_tableIn X.1 X.2.1 dk_sw (tsw_in q 0 28 rfl).1 (tsw_in q 0 28 rfl).2 (by rw [q]; rfl) (tgt := 1049) (by decide) (lc_27 X hkc hks (hst.2.2.2.2.2.2.2.2.2.2.2.2.2.2.2.2.2.2.2.2.2.2.2.2.2.2.2.2.1) hI hP hS hlt hl kk)
      · exact lv_tableIn X.1 X.2.1 dk_sw (tsw_in q 0 28 rfl).1 (tsw_in q 0 28 rfl).2 (by rw [q]; rfl) (tgt := 1082) (by decide) (lc_28 X hkc hks (hE) (hst.2.2.2.2.2.2.2.2.2.2.2.2.2.2.2.2.2.2.2.2.2.2.2.2.2.2.2.2.2) hI hP hS hlt hl kk)
    · exact law_end X hr hlocks hkc hks hlt hi hS hl
end LAW
