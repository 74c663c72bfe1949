def mv_cl_0 : mv_Cd := [(0, .new 7, 3, 11), (3, .dup, 1, 0), (4, .invokespecial 9, 3, 109), (7, .astore_n 1, 1, 0), (8, .new 10, 3, 12), (11, .dup, 1, 0), (12, .invokespecial 12, 3, 176), (15, .astore_n 2, 1, 0), (16, .iconst 0, 1, 0), (17, .istore_n 3, 1, 0), (18, .iload_n 3, 1, 0), (19, .aload_n 0, 1, 0), (20, .arraylength, 1, 0), (21, .bipush 9, 2, 0), (23, .isub, 1, 0), (24, .if_icmp .gt 1437, 3, 0), (27, .aload_n 0, 1, 0), (28, .iload_n 3, 1, 0), (29, .iaload, 1, 0), (30, .bipush 31, 2, 0), (32, .iand, 1, 0), (33, .tableswitch 1422 0 29 #[135, 198, 221, 234, 257, 280, 395, 428, 477, 536, 569, 602, 671, 694, 717, 750, 793, 836, 889, 932, 976, 1009, 1062, 1125, 1194, 1217, 1260, 1303, 1356, 1399], 135, 0), (168, .aload_n 1, 1, 0), (169, .aload_n 0, 1, 0), (170, .iload_n 3, 1, 0), (171, .iconst 1, 1, 0), (172, .iadd, 1, 0), (173, .iaload, 1, 0), (174, .aload_n 0, 1, 0), (175, .iload_n 3, 1, 0)]
set_option maxRecDepth 100000 in
theorem mv_cld_0 : mv_cl_0.all (mv_dK code) = true := by decide +kernel
set_option maxRecDepth 100000 in
theorem mv_cle_0 : mv_cl_0.all (mv_eK 13 false) = true := by decide +kernel
def mv_cl_1 : mv_Cd := [(176, .iconst 2, 1, 0), (177, .iadd, 1, 0), (178, .iaload, 1, 0), (179, .aload_n 0, 1, 0), (180, .iload_n 3, 1, 0), (181, .iconst 3, 1, 0), (182, .iadd, 1, 0), (183, .iaload, 1, 0), (184, .aload_n 0, 1, 0), (185, .iload_n 3, 1, 0), (186, .iconst 4, 1, 0), (187, .iadd, 1, 0), (188, .iaload, 1, 0), (189, .aload_n 0, 1, 0), (190, .iload_n 3, 1, 0), (191, .iconst 5, 1, 0), (192, .iadd, 1, 0), (193, .iaload, 1, 0), (194, .invokevirtual 13, 3, 110), (197, .aload_n 2, 1, 0), (198, .aload_n 0, 1, 0), (199, .iload_n 3, 1, 0), (200, .iconst 1, 1, 0), (201, .iadd, 1, 0), (202, .iaload, 1, 0), (203, .aload_n 0, 1, 0), (204, .iload_n 3, 1, 0), (205, .iconst 2, 1, 0), (206, .iadd, 1, 0), (207, .iaload, 1, 0)]
set_option maxRecDepth 100000 in
theorem mv_cld_1 : mv_cl_1.all (mv_dK code) = true := by decide +kernel
set_option maxRecDepth 100000 in
theorem mv_cle_1 : mv_cl_1.all (mv_eK 13 false) = true := by decide +kernel
def mv_cl_2 : mv_Cd := [(208, .aload_n 0, 1, 0), (209, .iload_n 3, 1, 0), (210, .iconst 3, 1, 0), (211, .iadd, 1, 0), (212, .iaload, 1, 0), (213, .aload_n 0, 1, 0), (214, .iload_n 3, 1, 0), (215, .iconst 4, 1, 0), (216, .iadd, 1, 0), (217, .iaload, 1, 0), (218, .aload_n 0, 1, 0), (219, .iload_n 3, 1, 0), (220, .iconst 5, 1, 0), (221, .iadd, 1, 0), (222, .iaload, 1, 0), (223, .invokevirtual 17, 3, 254), (226, .if_icmp .eq 1229, 3, 0), (229, .iconst 0, 1, 0), (230, .ireturn, 1, 0), (231, .aload_n 1, 1, 0), (232, .aload_n 0, 1, 0), (233, .iload_n 3, 1, 0), (234, .iconst 1, 1, 0), (235, .iadd, 1, 0), (236, .iaload, 1, 0), (237, .invokevirtual 18, 3, 112), (240, .aload_n 2, 1, 0), (241, .aload_n 0, 1, 0), (242, .iload_n 3, 1, 0), (243, .iconst 1, 1, 0)]
set_option maxRecDepth 100000 in
theorem mv_cld_2 : mv_cl_2.all (mv_dK code) = true := by decide +kernel
set_option maxRecDepth 100000 in
theorem mv_cle_2 : mv_cl_2.all (mv_eK 13 false) = true := by decide +kernel
def mv_cl_3 : mv_Cd := [(244, .iadd, 1, 0), (245, .iaload, 1, 0), (246, .invokevirtual 22, 3, 255), (249, .if_icmp .eq 1206, 3, 0), (252, .iconst 0, 1, 0), (253, .ireturn, 1, 0), (254, .aload_n 1, 1, 0), (255, .invokevirtual 23, 3, 113), (258, .aload_n 2, 1, 0), (259, .invokevirtual 27, 3, 166), (262, .if_icmp .eq 1193, 3, 0), (265, .iconst 0, 1, 0), (266, .ireturn, 1, 0), (267, .aload_n 1, 1, 0), (268, .aload_n 0, 1, 0), (269, .iload_n 3, 1, 0), (270, .iconst 1, 1, 0), (271, .iadd, 1, 0), (272, .iaload, 1, 0), (273, .invokevirtual 28, 3, 114), (276, .aload_n 2, 1, 0), (277, .aload_n 0, 1, 0), (278, .iload_n 3, 1, 0), (279, .iconst 1, 1, 0), (280, .iadd, 1, 0), (281, .iaload, 1, 0), (282, .invokevirtual 31, 3, 178), (285, .if_icmp .eq 1170, 3, 0), (288, .iconst 0, 1, 0), (289, .ireturn, 1, 0)]
set_option maxRecDepth 100000 in
theorem mv_cld_3 : mv_cl_3.all (mv_dK code) = true := by decide +kernel
set_option maxRecDepth 100000 in
theorem mv_cle_3 : mv_cl_3.all (mv_eK 13 false) = true := by decide +kernel
def mv_cl_4 : mv_Cd := [(290, .aload_n 1, 1, 0), (291, .aload_n 0, 1, 0), (292, .iload_n 3, 1, 0), (293, .iconst 1, 1, 0), (294, .iadd, 1, 0), (295, .iaload, 1, 0), (296, .invokevirtual 32, 3, 116), (299, .aload_n 2, 1, 0), (300, .aload_n 0, 1, 0), (301, .iload_n 3, 1, 0), (302, .iconst 1, 1, 0), (303, .iadd, 1, 0), (304, .iaload, 1, 0), (305, .invokevirtual 35, 3, 170), (308, .if_icmp .eq 1147, 3, 0), (311, .iconst 0, 1, 0), (312, .ireturn, 1, 0), (313, .aload_n 1, 1, 0), (314, .aload_n 0, 1, 0), (315, .iload_n 3, 1, 0), (316, .iconst 1, 1, 0), (317, .iadd, 1, 0), (318, .iaload, 1, 0), (319, .aload_n 0, 1, 0), (320, .iload_n 3, 1, 0), (321, .iconst 2, 1, 0), (322, .iadd, 1, 0), (323, .iaload, 1, 0), (324, .aload_n 0, 1, 0), (325, .iload_n 3, 1, 0)]
set_option maxRecDepth 100000 in
theorem mv_cld_4 : mv_cl_4.all (mv_dK code) = true := by decide +kernel
set_option maxRecDepth 100000 in
theorem mv_cle_4 : mv_cl_4.all (mv_eK 13 false) = true := by decide +kernel
def mv_cl_5 : mv_Cd := [(326, .iconst 3, 1, 0), (327, .iadd, 1, 0), (328, .iaload, 1, 0), (329, .aload_n 0, 1, 0), (330, .iload_n 3, 1, 0), (331, .iconst 4, 1, 0), (332, .iadd, 1, 0), (333, .iaload, 1, 0), (334, .aload_n 0, 1, 0), (335, .iload_n 3, 1, 0), (336, .iconst 5, 1, 0), (337, .iadd, 1, 0), (338, .iaload, 1, 0), (339, .aload_n 0, 1, 0), (340, .iload_n 3, 1, 0), (341, .bipush 6, 2, 0), (343, .iadd, 1, 0), (344, .iaload, 1, 0), (345, .aload_n 0, 1, 0), (346, .iload_n 3, 1, 0), (347, .bipush 7, 2, 0), (349, .iadd, 1, 0), (350, .iaload, 1, 0), (351, .aload_n 0, 1, 0), (352, .iload_n 3, 1, 0), (353, .bipush 8, 2, 0), (355, .iadd, 1, 0), (356, .iaload, 1, 0), (357, .ifCond .eq 7, 3, 0), (360, .iconst 1, 1, 0)]
set_option maxRecDepth 100000 in
theorem mv_cld_5 : mv_cl_5.all (mv_dK code) = true := by decide +kernel
set_option maxRecDepth 100000 in
theorem mv_cle_5 : mv_cl_5.all (mv_eK 13 false) = true := by decide +kernel
def mv_cl_6 : mv_Cd := [(361, .goto 4, 3, 0), (364, .iconst 0, 1, 0), (365, .invokevirtual 36, 3, 117), (368, .aload_n 2, 1, 0), (369, .aload_n 0, 1, 0), (370, .iload_n 3, 1, 0), (371, .iconst 1, 1, 0), (372, .iadd, 1, 0), (373, .iaload, 1, 0), (374, .aload_n 0, 1, 0), (375, .iload_n 3, 1, 0), (376, .iconst 2, 1, 0), (377, .iadd, 1, 0), (378, .iaload, 1, 0), (379, .aload_n 0, 1, 0), (380, .iload_n 3, 1, 0), (381, .iconst 3, 1, 0), (382, .iadd, 1, 0), (383, .iaload, 1, 0), (384, .aload_n 0, 1, 0), (385, .iload_n 3, 1, 0), (386, .iconst 4, 1, 0), (387, .iadd, 1, 0), (388, .iaload, 1, 0), (389, .aload_n 0, 1, 0), (390, .iload_n 3, 1, 0), (391, .iconst 5, 1, 0), (392, .iadd, 1, 0), (393, .iaload, 1, 0), (394, .aload_n 0, 1, 0)]
set_option maxRecDepth 100000 in
theorem mv_cld_6 : mv_cl_6.all (mv_dK code) = true := by decide +kernel
set_option maxRecDepth 100000 in
theorem mv_cle_6 : mv_cl_6.all (mv_eK 13 false) = true := by decide +kernel
def mv_cl_7 : mv_Cd := [(395, .iload_n 3, 1, 0), (396, .bipush 6, 2, 0), (398, .iadd, 1, 0), (399, .iaload, 1, 0), (400, .aload_n 0, 1, 0), (401, .iload_n 3, 1, 0), (402, .bipush 7, 2, 0), (404, .iadd, 1, 0), (405, .iaload, 1, 0), (406, .aload_n 0, 1, 0), (407, .iload_n 3, 1, 0), (408, .bipush 8, 2, 0), (410, .iadd, 1, 0), (411, .iaload, 1, 0), (412, .ifCond .eq 7, 3, 0), (415, .iconst 1, 1, 0), (416, .goto 4, 3, 0), (419, .iconst 0, 1, 0), (420, .invokevirtual 40, 3, 197), (423, .if_icmp .eq 1032, 3, 0), (426, .iconst 0, 1, 0), (427, .ireturn, 1, 0), (428, .aload_n 1, 1, 0), (429, .aload_n 0, 1, 0), (430, .iload_n 3, 1, 0), (431, .iconst 1, 1, 0), (432, .iadd, 1, 0), (433, .iaload, 1, 0), (434, .aload_n 0, 1, 0), (435, .iload_n 3, 1, 0)]
set_option maxRecDepth 100000 in
theorem mv_cld_7 : mv_cl_7.all (mv_dK code) = true := by decide +kernel
set_option maxRecDepth 100000 in
theorem mv_cle_7 : mv_cl_7.all (mv_eK 13 false) = true := by decide +kernel
def mv_cl_8 : mv_Cd := [(436, .iconst 2, 1, 0), (437, .iadd, 1, 0), (438, .iaload, 1, 0), (439, .invokevirtual 41, 3, 118), (442, .aload_n 2, 1, 0), (443, .aload_n 0, 1, 0), (444, .iload_n 3, 1, 0), (445, .iconst 1, 1, 0), (446, .iadd, 1, 0), (447, .iaload, 1, 0), (448, .aload_n 0, 1, 0), (449, .iload_n 3, 1, 0), (450, .iconst 2, 1, 0), (451, .iadd, 1, 0), (452, .iaload, 1, 0), (453, .invokevirtual 45, 3, 174), (456, .if_icmp .eq 999, 3, 0), (459, .iconst 0, 1, 0), (460, .ireturn, 1, 0), (461, .aload_n 1, 1, 0), (462, .aload_n 0, 1, 0), (463, .iload_n 3, 1, 0), (464, .iconst 1, 1, 0), (465, .iadd, 1, 0), (466, .iaload, 1, 0), (467, .aload_n 0, 1, 0), (468, .iload_n 3, 1, 0), (469, .iconst 2, 1, 0), (470, .iadd, 1, 0), (471, .iaload, 1, 0)]
set_option maxRecDepth 100000 in
theorem mv_cld_8 : mv_cl_8.all (mv_dK code) = true := by decide +kernel
set_option maxRecDepth 100000 in
theorem mv_cle_8 : mv_cl_8.all (mv_eK 13 false) = true := by decide +kernel
def mv_cl_9 : mv_Cd := [(472, .ifCond .eq 7, 3, 0), (475, .iconst 1, 1, 0), (476, .goto 4, 3, 0), (479, .iconst 0, 1, 0), (480, .invokevirtual 46, 3, 119), (483, .aload_n 2, 1, 0), (484, .aload_n 0, 1, 0), (485, .iload_n 3, 1, 0), (486, .iconst 1, 1, 0), (487, .iadd, 1, 0), (488, .iaload, 1, 0), (489, .aload_n 0, 1, 0), (490, .iload_n 3, 1, 0), (491, .iconst 2, 1, 0), (492, .iadd, 1, 0), (493, .iaload, 1, 0), (494, .ifCond .eq 7, 3, 0), (497, .iconst 1, 1, 0), (498, .goto 4, 3, 0), (501, .iconst 0, 1, 0), (502, .invokevirtual 50, 3, 202), (505, .if_icmp .eq 950, 3, 0), (508, .iconst 0, 1, 0), (509, .ireturn, 1, 0), (510, .aload_n 1, 1, 0), (511, .aload_n 0, 1, 0), (512, .iload_n 3, 1, 0), (513, .iconst 1, 1, 0), (514, .iadd, 1, 0), (515, .iaload, 1, 0)]
set_option maxRecDepth 100000 in
theorem mv_cld_9 : mv_cl_9.all (mv_dK code) = true := by decide +kernel
set_option maxRecDepth 100000 in
theorem mv_cle_9 : mv_cl_9.all (mv_eK 13 false) = true := by decide +kernel
def mv_cl_10 : mv_Cd := [(516, .aload_n 0, 1, 0), (517, .iload_n 3, 1, 0), (518, .iconst 2, 1, 0), (519, .iadd, 1, 0), (520, .iaload, 1, 0), (521, .aload_n 0, 1, 0), (522, .iload_n 3, 1, 0), (523, .iconst 3, 1, 0), (524, .iadd, 1, 0), (525, .iaload, 1, 0), (526, .ifCond .eq 7, 3, 0), (529, .iconst 1, 1, 0), (530, .goto 4, 3, 0), (533, .iconst 0, 1, 0), (534, .invokevirtual 51, 3, 120), (537, .aload_n 2, 1, 0), (538, .aload_n 0, 1, 0), (539, .iload_n 3, 1, 0), (540, .iconst 1, 1, 0), (541, .iadd, 1, 0), (542, .iaload, 1, 0), (543, .aload_n 0, 1, 0), (544, .iload_n 3, 1, 0), (545, .iconst 2, 1, 0), (546, .iadd, 1, 0), (547, .iaload, 1, 0), (548, .aload_n 0, 1, 0), (549, .iload_n 3, 1, 0), (550, .iconst 3, 1, 0), (551, .iadd, 1, 0)]
set_option maxRecDepth 100000 in
theorem mv_cld_10 : mv_cl_10.all (mv_dK code) = true := by decide +kernel
set_option maxRecDepth 100000 in
theorem mv_cle_10 : mv_cl_10.all (mv_eK 13 false) = true := by decide +kernel
def mv_cl_11 : mv_Cd := [(552, .iaload, 1, 0), (553, .ifCond .eq 7, 3, 0), (556, .iconst 1, 1, 0), (557, .goto 4, 3, 0), (560, .iconst 0, 1, 0), (561, .invokevirtual 55, 3, 204), (564, .if_icmp .eq 891, 3, 0), (567, .iconst 0, 1, 0), (568, .ireturn, 1, 0), (569, .aload_n 1, 1, 0), (570, .aload_n 0, 1, 0), (571, .iload_n 3, 1, 0), (572, .iconst 1, 1, 0), (573, .iadd, 1, 0), (574, .iaload, 1, 0), (575, .aload_n 0, 1, 0), (576, .iload_n 3, 1, 0), (577, .iconst 2, 1, 0), (578, .iadd, 1, 0), (579, .iaload, 1, 0), (580, .invokevirtual 56, 3, 121), (583, .aload_n 2, 1, 0), (584, .aload_n 0, 1, 0), (585, .iload_n 3, 1, 0), (586, .iconst 1, 1, 0), (587, .iadd, 1, 0), (588, .iaload, 1, 0), (589, .aload_n 0, 1, 0), (590, .iload_n 3, 1, 0), (591, .iconst 2, 1, 0)]
set_option maxRecDepth 100000 in
theorem mv_cld_11 : mv_cl_11.all (mv_dK code) = true := by decide +kernel
set_option maxRecDepth 100000 in
theorem mv_cle_11 : mv_cl_11.all (mv_eK 13 false) = true := by decide +kernel
def mv_cl_12 : mv_Cd := [(592, .iadd, 1, 0), (593, .iaload, 1, 0), (594, .invokevirtual 59, 3, 211), (597, .if_icmp .eq 858, 3, 0), (600, .iconst 0, 1, 0), (601, .ireturn, 1, 0), (602, .aload_n 1, 1, 0), (603, .aload_n 0, 1, 0), (604, .iload_n 3, 1, 0), (605, .iconst 1, 1, 0), (606, .iadd, 1, 0), (607, .iaload, 1, 0), (608, .aload_n 0, 1, 0), (609, .iload_n 3, 1, 0), (610, .iconst 2, 1, 0), (611, .iadd, 1, 0), (612, .iaload, 1, 0), (613, .invokevirtual 60, 3, 122), (616, .aload_n 2, 1, 0), (617, .aload_n 0, 1, 0), (618, .iload_n 3, 1, 0), (619, .iconst 1, 1, 0), (620, .iadd, 1, 0), (621, .iaload, 1, 0), (622, .aload_n 0, 1, 0), (623, .iload_n 3, 1, 0), (624, .iconst 2, 1, 0), (625, .iadd, 1, 0), (626, .iaload, 1, 0), (627, .invokevirtual 63, 3, 214)]
set_option maxRecDepth 100000 in
theorem mv_cld_12 : mv_cl_12.all (mv_dK code) = true := by decide +kernel
set_option maxRecDepth 100000 in
theorem mv_cle_12 : mv_cl_12.all (mv_eK 13 false) = true := by decide +kernel
def mv_cl_13 : mv_Cd := [(630, .if_icmp .eq 825, 3, 0), (633, .iconst 0, 1, 0), (634, .ireturn, 1, 0), (635, .aload_n 1, 1, 0), (636, .aload_n 0, 1, 0), (637, .iload_n 3, 1, 0), (638, .iconst 1, 1, 0), (639, .iadd, 1, 0), (640, .iaload, 1, 0), (641, .aload_n 0, 1, 0), (642, .iload_n 3, 1, 0), (643, .iconst 2, 1, 0), (644, .iadd, 1, 0), (645, .iaload, 1, 0), (646, .aload_n 0, 1, 0), (647, .iload_n 3, 1, 0), (648, .iconst 3, 1, 0), (649, .iadd, 1, 0), (650, .iaload, 1, 0), (651, .ifCond .eq 7, 3, 0), (654, .iconst 1, 1, 0), (655, .goto 4, 3, 0), (658, .iconst 0, 1, 0), (659, .aload_n 0, 1, 0), (660, .iload_n 3, 1, 0), (661, .iconst 4, 1, 0), (662, .iadd, 1, 0), (663, .iaload, 1, 0), (664, .invokevirtual 64, 3, 123), (667, .aload_n 2, 1, 0)]
set_option maxRecDepth 100000 in
theorem mv_cld_13 : mv_cl_13.all (mv_dK code) = true := by decide +kernel
set_option maxRecDepth 100000 in
theorem mv_cle_13 : mv_cl_13.all (mv_eK 13 false) = true := by decide +kernel
def mv_cl_14 : mv_Cd := [(668, .aload_n 0, 1, 0), (669, .iload_n 3, 1, 0), (670, .iconst 1, 1, 0), (671, .iadd, 1, 0), (672, .iaload, 1, 0), (673, .aload_n 0, 1, 0), (674, .iload_n 3, 1, 0), (675, .iconst 2, 1, 0), (676, .iadd, 1, 0), (677, .iaload, 1, 0), (678, .aload_n 0, 1, 0), (679, .iload_n 3, 1, 0), (680, .iconst 3, 1, 0), (681, .iadd, 1, 0), (682, .iaload, 1, 0), (683, .ifCond .eq 7, 3, 0), (686, .iconst 1, 1, 0), (687, .goto 4, 3, 0), (690, .iconst 0, 1, 0), (691, .aload_n 0, 1, 0), (692, .iload_n 3, 1, 0), (693, .iconst 4, 1, 0), (694, .iadd, 1, 0), (695, .iaload, 1, 0), (696, .invokevirtual 68, 3, 215), (699, .if_icmp .eq 756, 3, 0), (702, .iconst 0, 1, 0), (703, .ireturn, 1, 0), (704, .aload_n 1, 1, 0), (705, .aload_n 0, 1, 0)]
set_option maxRecDepth 100000 in
theorem mv_cld_14 : mv_cl_14.all (mv_dK code) = true := by decide +kernel
set_option maxRecDepth 100000 in
theorem mv_cle_14 : mv_cl_14.all (mv_eK 13 false) = true := by decide +kernel
def mv_cl_15 : mv_Cd := [(706, .iload_n 3, 1, 0), (707, .iconst 1, 1, 0), (708, .iadd, 1, 0), (709, .iaload, 1, 0), (710, .invokevirtual 69, 3, 124), (713, .aload_n 2, 1, 0), (714, .aload_n 0, 1, 0), (715, .iload_n 3, 1, 0), (716, .iconst 1, 1, 0), (717, .iadd, 1, 0), (718, .iaload, 1, 0), (719, .invokevirtual 73, 3, 216), (722, .if_icmp .eq 733, 3, 0), (725, .iconst 0, 1, 0), (726, .ireturn, 1, 0), (727, .aload_n 1, 1, 0), (728, .aload_n 0, 1, 0), (729, .iload_n 3, 1, 0), (730, .iconst 1, 1, 0), (731, .iadd, 1, 0), (732, .iaload, 1, 0), (733, .invokevirtual 74, 3, 125), (736, .aload_n 2, 1, 0), (737, .aload_n 0, 1, 0), (738, .iload_n 3, 1, 0), (739, .iconst 1, 1, 0), (740, .iadd, 1, 0), (741, .iaload, 1, 0), (742, .invokevirtual 77, 3, 217), (745, .if_icmp .eq 710, 3, 0)]
set_option maxRecDepth 100000 in
theorem mv_cld_15 : mv_cl_15.all (mv_dK code) = true := by decide +kernel
set_option maxRecDepth 100000 in
theorem mv_cle_15 : mv_cl_15.all (mv_eK 13 false) = true := by decide +kernel
def mv_cl_16 : mv_Cd := [(748, .iconst 0, 1, 0), (749, .ireturn, 1, 0), (750, .aload_n 1, 1, 0), (751, .aload_n 0, 1, 0), (752, .iload_n 3, 1, 0), (753, .iconst 1, 1, 0), (754, .iadd, 1, 0), (755, .iaload, 1, 0), (756, .aload_n 0, 1, 0), (757, .iload_n 3, 1, 0), (758, .iconst 2, 1, 0), (759, .iadd, 1, 0), (760, .iaload, 1, 0), (761, .invokevirtual 78, 3, 126), (764, .aload_n 2, 1, 0), (765, .aload_n 0, 1, 0), (766, .iload_n 3, 1, 0), (767, .iconst 1, 1, 0), (768, .iadd, 1, 0), (769, .iaload, 1, 0), (770, .aload_n 0, 1, 0), (771, .iload_n 3, 1, 0), (772, .iconst 2, 1, 0), (773, .iadd, 1, 0), (774, .iaload, 1, 0), (775, .invokevirtual 81, 3, 220), (778, .if_icmp .eq 677, 3, 0), (781, .iconst 0, 1, 0), (782, .ireturn, 1, 0), (783, .aload_n 1, 1, 0)]
set_option maxRecDepth 100000 in
theorem mv_cld_16 : mv_cl_16.all (mv_dK code) = true := by decide +kernel
set_option maxRecDepth 100000 in
theorem mv_cle_16 : mv_cl_16.all (mv_eK 13 false) = true := by decide +kernel
def mv_cl_17 : mv_Cd := [(784, .aload_n 0, 1, 0), (785, .iload_n 3, 1, 0), (786, .iconst 1, 1, 0), (787, .iadd, 1, 0), (788, .iaload, 1, 0), (789, .aload_n 0, 1, 0), (790, .iload_n 3, 1, 0), (791, .iconst 2, 1, 0), (792, .iadd, 1, 0), (793, .iaload, 1, 0), (794, .aload_n 0, 1, 0), (795, .iload_n 3, 1, 0), (796, .iconst 3, 1, 0), (797, .iadd, 1, 0), (798, .iaload, 1, 0), (799, .invokevirtual 82, 3, 127), (802, .aload_n 2, 1, 0), (803, .aload_n 0, 1, 0), (804, .iload_n 3, 1, 0), (805, .iconst 1, 1, 0), (806, .iadd, 1, 0), (807, .iaload, 1, 0), (808, .aload_n 0, 1, 0), (809, .iload_n 3, 1, 0), (810, .iconst 2, 1, 0), (811, .iadd, 1, 0), (812, .iaload, 1, 0), (813, .aload_n 0, 1, 0), (814, .iload_n 3, 1, 0), (815, .iconst 3, 1, 0)]
set_option maxRecDepth 100000 in
theorem mv_cld_17 : mv_cl_17.all (mv_dK code) = true := by decide +kernel
set_option maxRecDepth 100000 in
theorem mv_cle_17 : mv_cl_17.all (mv_eK 13 false) = true := by decide +kernel
def mv_cl_18 : mv_Cd := [(816, .iadd, 1, 0), (817, .iaload, 1, 0), (818, .invokevirtual 86, 3, 228), (821, .if_icmp .eq 634, 3, 0), (824, .iconst 0, 1, 0), (825, .ireturn, 1, 0), (826, .aload_n 1, 1, 0), (827, .aload_n 0, 1, 0), (828, .iload_n 3, 1, 0), (829, .iconst 1, 1, 0), (830, .iadd, 1, 0), (831, .iaload, 1, 0), (832, .aload_n 0, 1, 0), (833, .iload_n 3, 1, 0), (834, .iconst 2, 1, 0), (835, .iadd, 1, 0), (836, .iaload, 1, 0), (837, .aload_n 0, 1, 0), (838, .iload_n 3, 1, 0), (839, .iconst 3, 1, 0), (840, .iadd, 1, 0), (841, .iaload, 1, 0), (842, .invokevirtual 87, 3, 128), (845, .aload_n 2, 1, 0), (846, .aload_n 0, 1, 0), (847, .iload_n 3, 1, 0), (848, .iconst 1, 1, 0), (849, .iadd, 1, 0), (850, .iaload, 1, 0), (851, .aload_n 0, 1, 0)]
set_option maxRecDepth 100000 in
theorem mv_cld_18 : mv_cl_18.all (mv_dK code) = true := by decide +kernel
set_option maxRecDepth 100000 in
theorem mv_cle_18 : mv_cl_18.all (mv_eK 13 false) = true := by decide +kernel
def mv_cl_19 : mv_Cd := [(852, .iload_n 3, 1, 0), (853, .iconst 2, 1, 0), (854, .iadd, 1, 0), (855, .iaload, 1, 0), (856, .aload_n 0, 1, 0), (857, .iload_n 3, 1, 0), (858, .iconst 3, 1, 0), (859, .iadd, 1, 0), (860, .iaload, 1, 0), (861, .invokevirtual 90, 3, 229), (864, .if_icmp .eq 591, 3, 0), (867, .iconst 0, 1, 0), (868, .ireturn, 1, 0), (869, .aload_n 1, 1, 0), (870, .aload_n 0, 1, 0), (871, .iload_n 3, 1, 0), (872, .iconst 1, 1, 0), (873, .iadd, 1, 0), (874, .iaload, 1, 0), (875, .aload_n 0, 1, 0), (876, .iload_n 3, 1, 0), (877, .iconst 2, 1, 0), (878, .iadd, 1, 0), (879, .iaload, 1, 0), (880, .aload_n 0, 1, 0), (881, .iload_n 3, 1, 0), (882, .iconst 3, 1, 0), (883, .iadd, 1, 0), (884, .iaload, 1, 0), (885, .aload_n 0, 1, 0)]
set_option maxRecDepth 100000 in
theorem mv_cld_19 : mv_cl_19.all (mv_dK code) = true := by decide +kernel
set_option maxRecDepth 100000 in
theorem mv_cle_19 : mv_cl_19.all (mv_eK 13 false) = true := by decide +kernel
def mv_cl_20 : mv_Cd := [(886, .iload_n 3, 1, 0), (887, .iconst 4, 1, 0), (888, .iadd, 1, 0), (889, .iaload, 1, 0), (890, .invokevirtual 91, 3, 129), (893, .aload_n 2, 1, 0), (894, .aload_n 0, 1, 0), (895, .iload_n 3, 1, 0), (896, .iconst 1, 1, 0), (897, .iadd, 1, 0), (898, .iaload, 1, 0), (899, .aload_n 0, 1, 0), (900, .iload_n 3, 1, 0), (901, .iconst 2, 1, 0), (902, .iadd, 1, 0), (903, .iaload, 1, 0), (904, .aload_n 0, 1, 0), (905, .iload_n 3, 1, 0), (906, .iconst 3, 1, 0), (907, .iadd, 1, 0), (908, .iaload, 1, 0), (909, .aload_n 0, 1, 0), (910, .iload_n 3, 1, 0), (911, .iconst 4, 1, 0), (912, .iadd, 1, 0), (913, .iaload, 1, 0), (914, .invokevirtual 95, 3, 231), (917, .if_icmp .eq 538, 3, 0), (920, .iconst 0, 1, 0), (921, .ireturn, 1, 0)]
set_option maxRecDepth 100000 in
theorem mv_cld_20 : mv_cl_20.all (mv_dK code) = true := by decide +kernel
set_option maxRecDepth 100000 in
theorem mv_cle_20 : mv_cl_20.all (mv_eK 13 false) = true := by decide +kernel
def mv_cl_21 : mv_Cd := [(922, .aload_n 1, 1, 0), (923, .aload_n 0, 1, 0), (924, .iload_n 3, 1, 0), (925, .iconst 1, 1, 0), (926, .iadd, 1, 0), (927, .iaload, 1, 0), (928, .aload_n 0, 1, 0), (929, .iload_n 3, 1, 0), (930, .iconst 2, 1, 0), (931, .iadd, 1, 0), (932, .iaload, 1, 0), (933, .aload_n 0, 1, 0), (934, .iload_n 3, 1, 0), (935, .iconst 3, 1, 0), (936, .iadd, 1, 0), (937, .iaload, 1, 0), (938, .invokevirtual 96, 3, 130), (941, .aload_n 2, 1, 0), (942, .aload_n 0, 1, 0), (943, .iload_n 3, 1, 0), (944, .iconst 1, 1, 0), (945, .iadd, 1, 0), (946, .iaload, 1, 0), (947, .aload_n 0, 1, 0), (948, .iload_n 3, 1, 0), (949, .iconst 2, 1, 0), (950, .iadd, 1, 0), (951, .iaload, 1, 0), (952, .aload_n 0, 1, 0), (953, .iload_n 3, 1, 0)]
set_option maxRecDepth 100000 in
theorem mv_cld_21 : mv_cl_21.all (mv_dK code) = true := by decide +kernel
set_option maxRecDepth 100000 in
theorem mv_cle_21 : mv_cl_21.all (mv_eK 13 false) = true := by decide +kernel
def mv_cl_22 : mv_Cd := [(954, .iconst 3, 1, 0), (955, .iadd, 1, 0), (956, .iaload, 1, 0), (957, .invokevirtual 99, 3, 230), (960, .if_icmp .eq 495, 3, 0), (963, .iconst 0, 1, 0), (964, .ireturn, 1, 0), (965, .aload_n 1, 1, 0), (966, .aload_n 0, 1, 0), (967, .iload_n 3, 1, 0), (968, .iconst 1, 1, 0), (969, .iadd, 1, 0), (970, .iaload, 1, 0), (971, .aload_n 0, 1, 0), (972, .iload_n 3, 1, 0), (973, .iconst 2, 1, 0), (974, .iadd, 1, 0), (975, .iaload, 1, 0), (976, .aload_n 0, 1, 0), (977, .iload_n 3, 1, 0), (978, .iconst 3, 1, 0), (979, .iadd, 1, 0), (980, .iaload, 1, 0), (981, .invokevirtual 100, 3, 131), (984, .aload_n 2, 1, 0), (985, .aload_n 0, 1, 0), (986, .iload_n 3, 1, 0), (987, .iconst 1, 1, 0), (988, .iadd, 1, 0), (989, .iaload, 1, 0)]
set_option maxRecDepth 100000 in
theorem mv_cld_22 : mv_cl_22.all (mv_dK code) = true := by decide +kernel
set_option maxRecDepth 100000 in
theorem mv_cle_22 : mv_cl_22.all (mv_eK 13 false) = true := by decide +kernel
def mv_cl_23 : mv_Cd := [(990, .aload_n 0, 1, 0), (991, .iload_n 3, 1, 0), (992, .iconst 2, 1, 0), (993, .iadd, 1, 0), (994, .iaload, 1, 0), (995, .aload_n 0, 1, 0), (996, .iload_n 3, 1, 0), (997, .iconst 3, 1, 0), (998, .iadd, 1, 0), (999, .iaload, 1, 0), (1000, .invokevirtual 104, 3, 232), (1003, .lcmp, 1, 0), (1004, .ifCond .eq 451, 3, 0), (1007, .iconst 0, 1, 0), (1008, .ireturn, 1, 0), (1009, .aload_n 1, 1, 0), (1010, .aload_n 0, 1, 0), (1011, .iload_n 3, 1, 0), (1012, .iconst 1, 1, 0), (1013, .iadd, 1, 0), (1014, .iaload, 1, 0), (1015, .aload_n 0, 1, 0), (1016, .iload_n 3, 1, 0), (1017, .iconst 2, 1, 0), (1018, .iadd, 1, 0), (1019, .iaload, 1, 0), (1020, .invokevirtual 105, 3, 132), (1023, .aload_n 2, 1, 0), (1024, .aload_n 0, 1, 0), (1025, .iload_n 3, 1, 0)]
set_option maxRecDepth 100000 in
theorem mv_cld_23 : mv_cl_23.all (mv_dK code) = true := by decide +kernel
set_option maxRecDepth 100000 in
theorem mv_cle_23 : mv_cl_23.all (mv_eK 13 false) = true := by decide +kernel
def mv_cl_24 : mv_Cd := [(1026, .iconst 1, 1, 0), (1027, .iadd, 1, 0), (1028, .iaload, 1, 0), (1029, .aload_n 0, 1, 0), (1030, .iload_n 3, 1, 0), (1031, .iconst 2, 1, 0), (1032, .iadd, 1, 0), (1033, .iaload, 1, 0), (1034, .invokevirtual 109, 3, 233), (1037, .if_icmp .eq 418, 3, 0), (1040, .iconst 0, 1, 0), (1041, .ireturn, 1, 0), (1042, .aload_n 1, 1, 0), (1043, .aload_n 0, 1, 0), (1044, .iload_n 3, 1, 0), (1045, .iconst 1, 1, 0), (1046, .iadd, 1, 0), (1047, .iaload, 1, 0), (1048, .aload_n 0, 1, 0), (1049, .iload_n 3, 1, 0), (1050, .iconst 2, 1, 0), (1051, .iadd, 1, 0), (1052, .iaload, 1, 0), (1053, .aload_n 0, 1, 0), (1054, .iload_n 3, 1, 0), (1055, .iconst 3, 1, 0), (1056, .iadd, 1, 0), (1057, .iaload, 1, 0), (1058, .aload_n 0, 1, 0), (1059, .iload_n 3, 1, 0)]
set_option maxRecDepth 100000 in
theorem mv_cld_24 : mv_cl_24.all (mv_dK code) = true := by decide +kernel
set_option maxRecDepth 100000 in
theorem mv_cle_24 : mv_cl_24.all (mv_eK 13 false) = true := by decide +kernel
def mv_cl_25 : mv_Cd := [(1060, .iconst 4, 1, 0), (1061, .iadd, 1, 0), (1062, .iaload, 1, 0), (1063, .invokevirtual 110, 3, 133), (1066, .aload_n 2, 1, 0), (1067, .aload_n 0, 1, 0), (1068, .iload_n 3, 1, 0), (1069, .iconst 1, 1, 0), (1070, .iadd, 1, 0), (1071, .iaload, 1, 0), (1072, .aload_n 0, 1, 0), (1073, .iload_n 3, 1, 0), (1074, .iconst 2, 1, 0), (1075, .iadd, 1, 0), (1076, .iaload, 1, 0), (1077, .aload_n 0, 1, 0), (1078, .iload_n 3, 1, 0), (1079, .iconst 3, 1, 0), (1080, .iadd, 1, 0), (1081, .iaload, 1, 0), (1082, .aload_n 0, 1, 0), (1083, .iload_n 3, 1, 0), (1084, .iconst 4, 1, 0), (1085, .iadd, 1, 0), (1086, .iaload, 1, 0), (1087, .invokevirtual 113, 3, 240), (1090, .if_icmp .eq 365, 3, 0), (1093, .iconst 0, 1, 0), (1094, .ireturn, 1, 0), (1095, .aload_n 1, 1, 0)]
set_option maxRecDepth 100000 in
theorem mv_cld_25 : mv_cl_25.all (mv_dK code) = true := by decide +kernel
set_option maxRecDepth 100000 in
theorem mv_cle_25 : mv_cl_25.all (mv_eK 13 false) = true := by decide +kernel
def mv_cl_26 : mv_Cd := [(1096, .aload_n 0, 1, 0), (1097, .iload_n 3, 1, 0), (1098, .iconst 1, 1, 0), (1099, .iadd, 1, 0), (1100, .iaload, 1, 0), (1101, .aload_n 0, 1, 0), (1102, .iload_n 3, 1, 0), (1103, .iconst 2, 1, 0), (1104, .iadd, 1, 0), (1105, .iaload, 1, 0), (1106, .aload_n 0, 1, 0), (1107, .iload_n 3, 1, 0), (1108, .iconst 3, 1, 0), (1109, .iadd, 1, 0), (1110, .iaload, 1, 0), (1111, .aload_n 0, 1, 0), (1112, .iload_n 3, 1, 0), (1113, .iconst 4, 1, 0), (1114, .iadd, 1, 0), (1115, .iaload, 1, 0), (1116, .aload_n 0, 1, 0), (1117, .iload_n 3, 1, 0), (1118, .iconst 5, 1, 0), (1119, .iadd, 1, 0), (1120, .iaload, 1, 0), (1121, .invokevirtual 114, 3, 134), (1124, .aload_n 2, 1, 0), (1125, .aload_n 0, 1, 0), (1126, .iload_n 3, 1, 0), (1127, .iconst 1, 1, 0)]
set_option maxRecDepth 100000 in
theorem mv_cld_26 : mv_cl_26.all (mv_dK code) = true := by decide +kernel
set_option maxRecDepth 100000 in
theorem mv_cle_26 : mv_cl_26.all (mv_eK 13 false) = true := by decide +kernel
def mv_cl_27 : mv_Cd := [(1128, .iadd, 1, 0), (1129, .iaload, 1, 0), (1130, .aload_n 0, 1, 0), (1131, .iload_n 3, 1, 0), (1132, .iconst 2, 1, 0), (1133, .iadd, 1, 0), (1134, .iaload, 1, 0), (1135, .aload_n 0, 1, 0), (1136, .iload_n 3, 1, 0), (1137, .iconst 3, 1, 0), (1138, .iadd, 1, 0), (1139, .iaload, 1, 0), (1140, .aload_n 0, 1, 0), (1141, .iload_n 3, 1, 0), (1142, .iconst 4, 1, 0), (1143, .iadd, 1, 0), (1144, .iaload, 1, 0), (1145, .aload_n 0, 1, 0), (1146, .iload_n 3, 1, 0), (1147, .iconst 5, 1, 0), (1148, .iadd, 1, 0), (1149, .iaload, 1, 0), (1150, .invokevirtual 117, 3, 241), (1153, .if_icmp .eq 302, 3, 0), (1156, .iconst 0, 1, 0), (1157, .ireturn, 1, 0), (1158, .aload_n 1, 1, 0), (1159, .aload_n 0, 1, 0), (1160, .iload_n 3, 1, 0), (1161, .iconst 1, 1, 0)]
set_option maxRecDepth 100000 in
theorem mv_cld_27 : mv_cl_27.all (mv_dK code) = true := by decide +kernel
set_option maxRecDepth 100000 in
theorem mv_cle_27 : mv_cl_27.all (mv_eK 13 false) = true := by decide +kernel
def mv_cl_28 : mv_Cd := [(1162, .iadd, 1, 0), (1163, .iaload, 1, 0), (1164, .aload_n 0, 1, 0), (1165, .iload_n 3, 1, 0), (1166, .iconst 2, 1, 0), (1167, .iadd, 1, 0), (1168, .iaload, 1, 0), (1169, .aload_n 0, 1, 0), (1170, .iload_n 3, 1, 0), (1171, .iconst 3, 1, 0), (1172, .iadd, 1, 0), (1173, .iaload, 1, 0), (1174, .ifCond .eq 7, 3, 0), (1177, .iconst 1, 1, 0), (1178, .goto 4, 3, 0), (1181, .iconst 0, 1, 0), (1182, .aload_n 0, 1, 0), (1183, .iload_n 3, 1, 0), (1184, .iconst 4, 1, 0), (1185, .iadd, 1, 0), (1186, .iaload, 1, 0), (1187, .invokevirtual 118, 3, 135), (1190, .aload_n 2, 1, 0), (1191, .aload_n 0, 1, 0), (1192, .iload_n 3, 1, 0), (1193, .iconst 1, 1, 0), (1194, .iadd, 1, 0), (1195, .iaload, 1, 0), (1196, .aload_n 0, 1, 0), (1197, .iload_n 3, 1, 0)]
set_option maxRecDepth 100000 in
theorem mv_cld_28 : mv_cl_28.all (mv_dK code) = true := by decide +kernel
set_option maxRecDepth 100000 in
theorem mv_cle_28 : mv_cl_28.all (mv_eK 13 false) = true := by decide +kernel
def mv_cl_29 : mv_Cd := [(1198, .iconst 2, 1, 0), (1199, .iadd, 1, 0), (1200, .iaload, 1, 0), (1201, .aload_n 0, 1, 0), (1202, .iload_n 3, 1, 0), (1203, .iconst 3, 1, 0), (1204, .iadd, 1, 0), (1205, .iaload, 1, 0), (1206, .ifCond .eq 7, 3, 0), (1209, .iconst 1, 1, 0), (1210, .goto 4, 3, 0), (1213, .iconst 0, 1, 0), (1214, .aload_n 0, 1, 0), (1215, .iload_n 3, 1, 0), (1216, .iconst 4, 1, 0), (1217, .iadd, 1, 0), (1218, .iaload, 1, 0), (1219, .invokevirtual 121, 3, 242), (1222, .if_icmp .eq 233, 3, 0), (1225, .iconst 0, 1, 0), (1226, .ireturn, 1, 0), (1227, .aload_n 1, 1, 0), (1228, .aload_n 0, 1, 0), (1229, .iload_n 3, 1, 0), (1230, .iconst 1, 1, 0), (1231, .iadd, 1, 0), (1232, .iaload, 1, 0), (1233, .invokevirtual 122, 3, 136), (1236, .aload_n 2, 1, 0), (1237, .aload_n 0, 1, 0)]
set_option maxRecDepth 100000 in
theorem mv_cld_29 : mv_cl_29.all (mv_dK code) = true := by decide +kernel
set_option maxRecDepth 100000 in
theorem mv_cle_29 : mv_cl_29.all (mv_eK 13 false) = true := by decide +kernel
def mv_cl_30 : mv_Cd := [(1238, .iload_n 3, 1, 0), (1239, .iconst 1, 1, 0), (1240, .iadd, 1, 0), (1241, .iaload, 1, 0), (1242, .invokevirtual 125, 3, 243), (1245, .if_icmp .eq 210, 3, 0), (1248, .iconst 0, 1, 0), (1249, .ireturn, 1, 0), (1250, .aload_n 1, 1, 0), (1251, .aload_n 0, 1, 0), (1252, .iload_n 3, 1, 0), (1253, .iconst 1, 1, 0), (1254, .iadd, 1, 0), (1255, .iaload, 1, 0), (1256, .aload_n 0, 1, 0), (1257, .iload_n 3, 1, 0), (1258, .iconst 2, 1, 0), (1259, .iadd, 1, 0), (1260, .iaload, 1, 0), (1261, .aload_n 0, 1, 0), (1262, .iload_n 3, 1, 0), (1263, .iconst 3, 1, 0), (1264, .iadd, 1, 0), (1265, .iaload, 1, 0), (1266, .invokevirtual 126, 3, 137), (1269, .aload_n 2, 1, 0), (1270, .aload_n 0, 1, 0), (1271, .iload_n 3, 1, 0), (1272, .iconst 1, 1, 0), (1273, .iadd, 1, 0)]
set_option maxRecDepth 100000 in
theorem mv_cld_30 : mv_cl_30.all (mv_dK code) = true := by decide +kernel
set_option maxRecDepth 100000 in
theorem mv_cle_30 : mv_cl_30.all (mv_eK 13 false) = true := by decide +kernel
def mv_cl_31 : mv_Cd := [(1274, .iaload, 1, 0), (1275, .aload_n 0, 1, 0), (1276, .iload_n 3, 1, 0), (1277, .iconst 2, 1, 0), (1278, .iadd, 1, 0), (1279, .iaload, 1, 0), (1280, .aload_n 0, 1, 0), (1281, .iload_n 3, 1, 0), (1282, .iconst 3, 1, 0), (1283, .iadd, 1, 0), (1284, .iaload, 1, 0), (1285, .invokevirtual 129, 3, 247), (1288, .if_icmp .eq 167, 3, 0), (1291, .iconst 0, 1, 0), (1292, .ireturn, 1, 0), (1293, .aload_n 1, 1, 0), (1294, .aload_n 0, 1, 0), (1295, .iload_n 3, 1, 0), (1296, .iconst 1, 1, 0), (1297, .iadd, 1, 0), (1298, .iaload, 1, 0), (1299, .aload_n 0, 1, 0), (1300, .iload_n 3, 1, 0), (1301, .iconst 2, 1, 0), (1302, .iadd, 1, 0), (1303, .iaload, 1, 0), (1304, .aload_n 0, 1, 0), (1305, .iload_n 3, 1, 0), (1306, .iconst 3, 1, 0), (1307, .iadd, 1, 0)]
set_option maxRecDepth 100000 in
theorem mv_cld_31 : mv_cl_31.all (mv_dK code) = true := by decide +kernel
set_option maxRecDepth 100000 in
theorem mv_cle_31 : mv_cl_31.all (mv_eK 13 false) = true := by decide +kernel
def mv_cl_32 : mv_Cd := [(1308, .iaload, 1, 0), (1309, .invokevirtual 130, 3, 138), (1312, .aload_n 2, 1, 0), (1313, .aload_n 0, 1, 0), (1314, .iload_n 3, 1, 0), (1315, .iconst 1, 1, 0), (1316, .iadd, 1, 0), (1317, .iaload, 1, 0), (1318, .aload_n 0, 1, 0), (1319, .iload_n 3, 1, 0), (1320, .iconst 2, 1, 0), (1321, .iadd, 1, 0), (1322, .iaload, 1, 0), (1323, .aload_n 0, 1, 0), (1324, .iload_n 3, 1, 0), (1325, .iconst 3, 1, 0), (1326, .iadd, 1, 0), (1327, .iaload, 1, 0), (1328, .invokevirtual 133, 3, 248), (1331, .if_icmp .eq 124, 3, 0), (1334, .iconst 0, 1, 0), (1335, .ireturn, 1, 0), (1336, .aload_n 1, 1, 0), (1337, .aload_n 0, 1, 0), (1338, .iload_n 3, 1, 0), (1339, .iconst 1, 1, 0), (1340, .iadd, 1, 0), (1341, .iaload, 1, 0), (1342, .aload_n 0, 1, 0), (1343, .iload_n 3, 1, 0)]
set_option maxRecDepth 100000 in
theorem mv_cld_32 : mv_cl_32.all (mv_dK code) = true := by decide +kernel
set_option maxRecDepth 100000 in
theorem mv_cle_32 : mv_cl_32.all (mv_eK 13 false) = true := by decide +kernel
def mv_cl_33 : mv_Cd := [(1344, .iconst 2, 1, 0), (1345, .iadd, 1, 0), (1346, .iaload, 1, 0), (1347, .aload_n 0, 1, 0), (1348, .iload_n 3, 1, 0), (1349, .iconst 3, 1, 0), (1350, .iadd, 1, 0), (1351, .iaload, 1, 0), (1352, .aload_n 0, 1, 0), (1353, .iload_n 3, 1, 0), (1354, .iconst 4, 1, 0), (1355, .iadd, 1, 0), (1356, .iaload, 1, 0), (1357, .invokevirtual 134, 3, 139), (1360, .aload_n 2, 1, 0), (1361, .aload_n 0, 1, 0), (1362, .iload_n 3, 1, 0), (1363, .iconst 1, 1, 0), (1364, .iadd, 1, 0), (1365, .iaload, 1, 0), (1366, .aload_n 0, 1, 0), (1367, .iload_n 3, 1, 0), (1368, .iconst 2, 1, 0), (1369, .iadd, 1, 0), (1370, .iaload, 1, 0), (1371, .aload_n 0, 1, 0), (1372, .iload_n 3, 1, 0), (1373, .iconst 3, 1, 0), (1374, .iadd, 1, 0), (1375, .iaload, 1, 0)]
set_option maxRecDepth 100000 in
theorem mv_cld_33 : mv_cl_33.all (mv_dK code) = true := by decide +kernel
set_option maxRecDepth 100000 in
theorem mv_cle_33 : mv_cl_33.all (mv_eK 13 false) = true := by decide +kernel
def mv_cl_34 : mv_Cd := [(1376, .aload_n 0, 1, 0), (1377, .iload_n 3, 1, 0), (1378, .iconst 4, 1, 0), (1379, .iadd, 1, 0), (1380, .iaload, 1, 0), (1381, .invokevirtual 137, 3, 250), (1384, .if_icmp .eq 71, 3, 0), (1387, .iconst 0, 1, 0), (1388, .ireturn, 1, 0), (1389, .aload_n 1, 1, 0), (1390, .aload_n 0, 1, 0), (1391, .iload_n 3, 1, 0), (1392, .iconst 1, 1, 0), (1393, .iadd, 1, 0), (1394, .iaload, 1, 0), (1395, .aload_n 0, 1, 0), (1396, .iload_n 3, 1, 0), (1397, .iconst 2, 1, 0), (1398, .iadd, 1, 0), (1399, .iaload, 1, 0), (1400, .aload_n 0, 1, 0), (1401, .iload_n 3, 1, 0), (1402, .iconst 3, 1, 0), (1403, .iadd, 1, 0), (1404, .iaload, 1, 0), (1405, .invokevirtual 138, 3, 140), (1408, .aload_n 2, 1, 0), (1409, .aload_n 0, 1, 0), (1410, .iload_n 3, 1, 0), (1411, .iconst 1, 1, 0)]
set_option maxRecDepth 100000 in
theorem mv_cld_34 : mv_cl_34.all (mv_dK code) = true := by decide +kernel
set_option maxRecDepth 100000 in
theorem mv_cle_34 : mv_cl_34.all (mv_eK 13 false) = true := by decide +kernel
def mv_cl_35 : mv_Cd := [(1412, .iadd, 1, 0), (1413, .iaload, 1, 0), (1414, .aload_n 0, 1, 0), (1415, .iload_n 3, 1, 0), (1416, .iconst 2, 1, 0), (1417, .iadd, 1, 0), (1418, .iaload, 1, 0), (1419, .aload_n 0, 1, 0), (1420, .iload_n 3, 1, 0), (1421, .iconst 3, 1, 0), (1422, .iadd, 1, 0), (1423, .iaload, 1, 0), (1424, .invokevirtual 141, 3, 252), (1427, .if_icmp .eq 28, 3, 0), (1430, .iconst 0, 1, 0), (1431, .ireturn, 1, 0), (1432, .aload_n 1, 1, 0), (1433, .aload_n 0, 1, 0), (1434, .iload_n 3, 1, 0), (1435, .iconst 1, 1, 0), (1436, .iadd, 1, 0), (1437, .iaload, 1, 0), (1438, .invokevirtual 142, 3, 141), (1441, .aload_n 2, 1, 0), (1442, .aload_n 0, 1, 0), (1443, .iload_n 3, 1, 0), (1444, .iconst 1, 1, 0), (1445, .iadd, 1, 0), (1446, .iaload, 1, 0), (1447, .invokevirtual 145, 3, 253)]
set_option maxRecDepth 100000 in
theorem mv_cld_35 : mv_cl_35.all (mv_dK code) = true := by decide +kernel
set_option maxRecDepth 100000 in
theorem mv_cle_35 : mv_cl_35.all (mv_eK 13 false) = true := by decide +kernel
def mv_cl_36 : mv_Cd := [(1450, .if_icmp .eq 5, 3, 0), (1453, .iconst 0, 1, 0), (1454, .ireturn, 1, 0), (1455, .iinc 3 9, 3, 0), (1458, .goto (-1440), 3, 0), (1461, .iconst 1, 1, 0), (1462, .ireturn, 1, 0)]
set_option maxRecDepth 100000 in
theorem mv_cld_36 : mv_cl_36.all (mv_dK code) = true := by decide +kernel
set_option maxRecDepth 100000 in
theorem mv_cle_36 : mv_cl_36.all (mv_eK 13 false) = true := by decide +kernel
set_option maxRecDepth 100000 in
theorem mv_cl_app : mv_c256 = mv_cl_0 ++ (mv_cl_1 ++ (mv_cl_2 ++ (mv_cl_3 ++ (mv_cl_4 ++ (mv_cl_5 ++ (mv_cl_6 ++ (mv_cl_7 ++ (mv_cl_8 ++ (mv_cl_9 ++ (mv_cl_10 ++ (mv_cl_11 ++ (mv_cl_12 ++ (mv_cl_13 ++ (mv_cl_14 ++ (mv_cl_15 ++ (mv_cl_16 ++ (mv_cl_17 ++ (mv_cl_18 ++ (mv_cl_19 ++ (mv_cl_20 ++ (mv_cl_21 ++ (mv_cl_22 ++ (mv_cl_23 ++ (mv_cl_24 ++ (mv_cl_25 ++ (mv_cl_26 ++ (mv_cl_27 ++ (mv_cl_28 ++ (mv_cl_29 ++ (mv_cl_30 ++ (mv_cl_31 ++ (mv_cl_32 ++ (mv_cl_33 ++ (mv_cl_34 ++ (mv_cl_35 ++ (mv_cl_36)))))))))))))))))))))))))))))))))))) := rfl
theorem mv_law_d : mv_c256.all (mv_dK code) = true := by
  rw [mv_cl_app]
  exact mv_all_app mv_cld_0 (mv_all_app mv_cld_1 (mv_all_app mv_cld_2 (mv_all_app mv_cld_3 (mv_all_app mv_cld_4 (mv_all_app mv_cld_5 (mv_all_app mv_cld_6 (mv_all_app mv_cld_7 (mv_all_app mv_cld_8 (mv_all_app mv_cld_9 (mv_all_app mv_cld_10 (mv_all_app mv_cld_11 (mv_all_app mv_cld_12 (mv_all_app mv_cld_13 (mv_all_app mv_cld_14 (mv_all_app mv_cld_15 (mv_all_app mv_cld_16 (mv_all_app mv_cld_17 (mv_all_app mv_cld_18 (mv_all_app mv_cld_19 (mv_all_app mv_cld_20 (mv_all_app mv_cld_21 (mv_all_app mv_cld_22 (mv_all_app mv_cld_23 (mv_all_app mv_cld_24 (mv_all_app mv_cld_25 (mv_all_app mv_cld_26 (mv_all_app mv_cld_27 (mv_all_app mv_cld_28 (mv_all_app mv_cld_29 (mv_all_app mv_cld_30 (mv_all_app mv_cld_31 (mv_all_app mv_cld_32 (mv_all_app mv_cld_33 (mv_all_app mv_cld_34 (mv_all_app mv_cld_35 (mv_cld_36))))))))))))))))))))))))))))))))))))
theorem mv_law_e : mv_c256.all (mv_eK 13 false) = true := by
  rw [mv_cl_app]
  exact mv_all_app mv_cle_0 (mv_all_app mv_cle_1 (mv_all_app mv_cle_2 (mv_all_app mv_cle_3 (mv_all_app mv_cle_4 (mv_all_app mv_cle_5 (mv_all_app mv_cle_6 (mv_all_app mv_cle_7 (mv_all_app mv_cle_8 (mv_all_app mv_cle_9 (mv_all_app mv_cle_10 (mv_all_app mv_cle_11 (mv_all_app mv_cle_12 (mv_all_app mv_cle_13 (mv_all_app mv_cle_14 (mv_all_app mv_cle_15 (mv_all_app mv_cle_16 (mv_all_app mv_cle_17 (mv_all_app mv_cle_18 (mv_all_app mv_cle_19 (mv_all_app mv_cle_20 (mv_all_app mv_cle_21 (mv_all_app mv_cle_22 (mv_all_app mv_cle_23 (mv_all_app mv_cle_24 (mv_all_app mv_cle_25 (mv_all_app mv_cle_26 (mv_all_app mv_cle_27 (mv_all_app mv_cle_28 (mv_all_app mv_cle_29 (mv_all_app mv_cle_30 (mv_all_app mv_cle_31 (mv_all_app mv_cle_32 (mv_all_app mv_cle_33 (mv_all_app mv_cle_34 (mv_all_app mv_cle_35 (mv_cle_36))))))))))))))))))))))))))))))))))))
theorem mv_d256 : mv_mK (mv_m256, mv_c256) := ⟨mv_law_d, mv_law_e, by decide +kernel, by decide +kernel⟩
