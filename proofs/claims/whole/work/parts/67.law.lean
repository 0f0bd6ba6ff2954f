/-! ===== the law: its loop, case by case ===== -/
def rLt : List xRow := [(16, .iconst 0, 1, 0, 0), (17, .istore_n 3, 1, 0, 0), (18, .iload_n 3, 1, 0, 0), (19, .aload_n 0, 1, 0, 0), (20, .arraylength, 1, 0, 0), (21, .bipush 6, 2, 0, 0), (23, .isub, 1, 0, 0), (24, .if_icmp .gt 1218, 3, 1242, 0), (27, .aload_n 0, 1, 0, 0), (28, .iload_n 3, 1, 0, 0), (29, .iaload, 1, 0, 0), (30, .bipush 63, 2, 0, 0), (32, .iand, 1, 0, 0), (33, .tableswitch 1203 0 33 #[151, 174, 187, 210, 223, 236, 269, 302, 345, 378, 401, 434, 457, 490, 513, 546, 559, 582, 605, 638, 681, 724, 757, 800, 833, 876, 919, 932, 955, 998, 1051, 1094, 1157, 1180], 151, 0, 0), (1236, .iinc 3 6, 3, 0, 0), (1239, .goto (-1221), 3, 18, 0), (1242, .iconst 1, 1, 0, 0), (1243, .ireturn, 1, 0, 0)]
theorem kLt : xck hL_law rLt = true := by decide +kernel
def rLc0 : List xRow := [(184, .aload_n 1, 1, 0, 0), (185, .aload_n 0, 1, 0, 0), (186, .iload_n 3, 1, 0, 0), (187, .iconst 1, 1, 0, 0), (188, .iadd, 1, 0, 0), (189, .iaload, 1, 0, 0), (190, .invokevirtual 13, 3, 80, 1), (193, .aload_n 2, 1, 0, 0), (194, .aload_n 0, 1, 0, 0), (195, .iload_n 3, 1, 0, 0), (196, .iconst 1, 1, 0, 0), (197, .iadd, 1, 0, 0), (198, .iaload, 1, 0, 0), (199, .invokevirtual 17, 3, 133, 1), (202, .if_icmp .eq 1034, 3, 1236, 0), (205, .iconst 0, 1, 0, 0), (206, .ireturn, 1, 0, 0)]
theorem kLc0 : xck hL_law rLc0 = true := by decide +kernel
def rLc1 : List xRow := [(207, .aload_n 1, 1, 0, 0), (208, .invokevirtual 18, 3, 81, 0), (211, .aload_n 2, 1, 0, 0), (212, .invokevirtual 22, 3, 134, 0), (215, .if_icmp .eq 1021, 3, 1236, 0), (218, .iconst 0, 1, 0, 0), (219, .ireturn, 1, 0, 0)]
theorem kLc1 : xck hL_law rLc1 = true := by decide +kernel
def rLc2 : List xRow := [(220, .aload_n 1, 1, 0, 0), (221, .aload_n 0, 1, 0, 0), (222, .iload_n 3, 1, 0, 0), (223, .iconst 1, 1, 0, 0), (224, .iadd, 1, 0, 0), (225, .iaload, 1, 0, 0), (226, .invokevirtual 23, 3, 82, 1), (229, .aload_n 2, 1, 0, 0), (230, .aload_n 0, 1, 0, 0), (231, .iload_n 3, 1, 0, 0), (232, .iconst 1, 1, 0, 0), (233, .iadd, 1, 0, 0), (234, .iaload, 1, 0, 0), (235, .invokevirtual 26, 3, 154, 1), (238, .if_icmp .eq 998, 3, 1236, 0), (241, .iconst 0, 1, 0, 0), (242, .ireturn, 1, 0, 0)]
theorem kLc2 : xck hL_law rLc2 = true := by decide +kernel
def rLc3 : List xRow := [(243, .aload_n 1, 1, 0, 0), (244, .invokevirtual 27, 3, 83, 0), (247, .aload_n 2, 1, 0, 0), (248, .invokevirtual 30, 3, 152, 0), (251, .if_icmp .eq 985, 3, 1236, 0), (254, .iconst 0, 1, 0, 0), (255, .ireturn, 1, 0, 0)]
theorem kLc3 : xck hL_law rLc3 = true := by decide +kernel
def rLc4 : List xRow := [(256, .aload_n 1, 1, 0, 0), (257, .invokevirtual 31, 3, 84, 0), (260, .aload_n 2, 1, 0, 0), (261, .invokevirtual 34, 3, 156, 0), (264, .if_icmp .eq 972, 3, 1236, 0), (267, .iconst 0, 1, 0, 0), (268, .ireturn, 1, 0, 0)]
theorem kLc4 : xck hL_law rLc4 = true := by decide +kernel
def rLc5 : List xRow := [(269, .aload_n 1, 1, 0, 0), (270, .aload_n 0, 1, 0, 0), (271, .iload_n 3, 1, 0, 0), (272, .iconst 1, 1, 0, 0), (273, .iadd, 1, 0, 0), (274, .iaload, 1, 0, 0), (275, .aload_n 0, 1, 0, 0), (276, .iload_n 3, 1, 0, 0), (277, .iconst 2, 1, 0, 0), (278, .iadd, 1, 0, 0), (279, .iaload, 1, 0, 0), (280, .invokevirtual 35, 3, 85, 2), (283, .aload_n 2, 1, 0, 0), (284, .aload_n 0, 1, 0, 0), (285, .iload_n 3, 1, 0, 0), (286, .iconst 1, 1, 0, 0), (287, .iadd, 1, 0, 0), (288, .iaload, 1, 0, 0), (289, .aload_n 0, 1, 0, 0), (290, .iload_n 3, 1, 0, 0), (291, .iconst 2, 1, 0, 0), (292, .iadd, 1, 0, 0), (293, .iaload, 1, 0, 0), (294, .invokevirtual 39, 3, 172, 2), (297, .if_icmp .eq 939, 3, 1236, 0), (300, .iconst 0, 1, 0, 0), (301, .ireturn, 1, 0, 0)]
theorem kLc5 : xck hL_law rLc5 = true := by decide +kernel
def rLc6 : List xRow := [(302, .aload_n 1, 1, 0, 0), (303, .aload_n 0, 1, 0, 0), (304, .iload_n 3, 1, 0, 0), (305, .iconst 1, 1, 0, 0), (306, .iadd, 1, 0, 0), (307, .iaload, 1, 0, 0), (308, .aload_n 0, 1, 0, 0), (309, .iload_n 3, 1, 0, 0), (310, .iconst 2, 1, 0, 0), (311, .iadd, 1, 0, 0), (312, .iaload, 1, 0, 0), (313, .invokevirtual 40, 3, 86, 2), (316, .aload_n 2, 1, 0, 0), (317, .aload_n 0, 1, 0, 0), (318, .iload_n 3, 1, 0, 0), (319, .iconst 1, 1, 0, 0), (320, .iadd, 1, 0, 0), (321, .iaload, 1, 0, 0), (322, .aload_n 0, 1, 0, 0), (323, .iload_n 3, 1, 0, 0), (324, .iconst 2, 1, 0, 0), (325, .iadd, 1, 0, 0), (326, .iaload, 1, 0, 0), (327, .invokevirtual 43, 3, 173, 2), (330, .if_icmp .eq 906, 3, 1236, 0), (333, .iconst 0, 1, 0, 0), (334, .ireturn, 1, 0, 0)]
theorem kLc6 : xck hL_law rLc6 = true := by decide +kernel
def rLc7 : List xRow := [(335, .aload_n 1, 1, 0, 0), (336, .aload_n 0, 1, 0, 0), (337, .iload_n 3, 1, 0, 0), (338, .iconst 1, 1, 0, 0), (339, .iadd, 1, 0, 0), (340, .iaload, 1, 0, 0), (341, .aload_n 0, 1, 0, 0), (342, .iload_n 3, 1, 0, 0), (343, .iconst 2, 1, 0, 0), (344, .iadd, 1, 0, 0), (345, .iaload, 1, 0, 0), (346, .aload_n 0, 1, 0, 0), (347, .iload_n 3, 1, 0, 0), (348, .iconst 3, 1, 0, 0), (349, .iadd, 1, 0, 0), (350, .iaload, 1, 0, 0), (351, .invokevirtual 44, 3, 87, 3), (354, .aload_n 2, 1, 0, 0), (355, .aload_n 0, 1, 0, 0), (356, .iload_n 3, 1, 0, 0), (357, .iconst 1, 1, 0, 0), (358, .iadd, 1, 0, 0), (359, .iaload, 1, 0, 0), (360, .aload_n 0, 1, 0, 0), (361, .iload_n 3, 1, 0, 0), (362, .iconst 2, 1, 0, 0), (363, .iadd, 1, 0, 0), (364, .iaload, 1, 0, 0), (365, .aload_n 0, 1, 0, 0), (366, .iload_n 3, 1, 0, 0), (367, .iconst 3, 1, 0, 0), (368, .iadd, 1, 0, 0), (369, .iaload, 1, 0, 0), (370, .invokevirtual 48, 3, 184, 3), (373, .if_icmp .eq 863, 3, 1236, 0), (376, .iconst 0, 1, 0, 0), (377, .ireturn, 1, 0, 0)]
theorem kLc7 : xck hL_law rLc7 = true := by decide +kernel
def rLc8 : List xRow := [(378, .aload_n 1, 1, 0, 0), (379, .aload_n 0, 1, 0, 0), (380, .iload_n 3, 1, 0, 0), (381, .iconst 1, 1, 0, 0), (382, .iadd, 1, 0, 0), (383, .iaload, 1, 0, 0), (384, .aload_n 0, 1, 0, 0), (385, .iload_n 3, 1, 0, 0), (386, .iconst 2, 1, 0, 0), (387, .iadd, 1, 0, 0), (388, .iaload, 1, 0, 0), (389, .invokevirtual 49, 3, 88, 2), (392, .aload_n 2, 1, 0, 0), (393, .aload_n 0, 1, 0, 0), (394, .iload_n 3, 1, 0, 0), (395, .iconst 1, 1, 0, 0), (396, .iadd, 1, 0, 0), (397, .iaload, 1, 0, 0), (398, .aload_n 0, 1, 0, 0), (399, .iload_n 3, 1, 0, 0), (400, .iconst 2, 1, 0, 0), (401, .iadd, 1, 0, 0), (402, .iaload, 1, 0, 0), (403, .invokevirtual 52, 3, 174, 2), (406, .if_icmp .eq 830, 3, 1236, 0), (409, .iconst 0, 1, 0, 0), (410, .ireturn, 1, 0, 0)]
theorem kLc8 : xck hL_law rLc8 = true := by decide +kernel
def rLc9 : List xRow := [(411, .aload_n 1, 1, 0, 0), (412, .aload_n 0, 1, 0, 0), (413, .iload_n 3, 1, 0, 0), (414, .iconst 1, 1, 0, 0), (415, .iadd, 1, 0, 0), (416, .iaload, 1, 0, 0), (417, .invokevirtual 53, 3, 89, 1), (420, .aload_n 2, 1, 0, 0), (421, .aload_n 0, 1, 0, 0), (422, .iload_n 3, 1, 0, 0), (423, .iconst 1, 1, 0, 0), (424, .iadd, 1, 0, 0), (425, .iaload, 1, 0, 0), (426, .invokevirtual 56, 3, 186, 1), (429, .if_icmp .eq 807, 3, 1236, 0), (432, .iconst 0, 1, 0, 0), (433, .ireturn, 1, 0, 0)]
theorem kLc9 : xck hL_law rLc9 = true := by decide +kernel
def rLc10 : List xRow := [(434, .aload_n 1, 1, 0, 0), (435, .aload_n 0, 1, 0, 0), (436, .iload_n 3, 1, 0, 0), (437, .iconst 1, 1, 0, 0), (438, .iadd, 1, 0, 0), (439, .iaload, 1, 0, 0), (440, .aload_n 0, 1, 0, 0), (441, .iload_n 3, 1, 0, 0), (442, .iconst 2, 1, 0, 0), (443, .iadd, 1, 0, 0), (444, .iaload, 1, 0, 0), (445, .invokevirtual 57, 3, 90, 2), (448, .aload_n 2, 1, 0, 0), (449, .aload_n 0, 1, 0, 0), (450, .iload_n 3, 1, 0, 0), (451, .iconst 1, 1, 0, 0), (452, .iadd, 1, 0, 0), (453, .iaload, 1, 0, 0), (454, .aload_n 0, 1, 0, 0), (455, .iload_n 3, 1, 0, 0), (456, .iconst 2, 1, 0, 0), (457, .iadd, 1, 0, 0), (458, .iaload, 1, 0, 0), (459, .invokevirtual 60, 3, 187, 2), (462, .if_icmp .eq 774, 3, 1236, 0), (465, .iconst 0, 1, 0, 0), (466, .ireturn, 1, 0, 0)]
theorem kLc10 : xck hL_law rLc10 = true := by decide +kernel
def rLc11 : List xRow := [(467, .aload_n 1, 1, 0, 0), (468, .aload_n 0, 1, 0, 0), (469, .iload_n 3, 1, 0, 0), (470, .iconst 1, 1, 0, 0), (471, .iadd, 1, 0, 0), (472, .iaload, 1, 0, 0), (473, .invokevirtual 61, 3, 91, 1), (476, .aload_n 2, 1, 0, 0), (477, .aload_n 0, 1, 0, 0), (478, .iload_n 3, 1, 0, 0), (479, .iconst 1, 1, 0, 0), (480, .iadd, 1, 0, 0), (481, .iaload, 1, 0, 0), (482, .invokevirtual 64, 3, 188, 1), (485, .if_icmp .eq 751, 3, 1236, 0), (488, .iconst 0, 1, 0, 0), (489, .ireturn, 1, 0, 0)]
theorem kLc11 : xck hL_law rLc11 = true := by decide +kernel
def rLc12 : List xRow := [(490, .aload_n 1, 1, 0, 0), (491, .aload_n 0, 1, 0, 0), (492, .iload_n 3, 1, 0, 0), (493, .iconst 1, 1, 0, 0), (494, .iadd, 1, 0, 0), (495, .iaload, 1, 0, 0), (496, .aload_n 0, 1, 0, 0), (497, .iload_n 3, 1, 0, 0), (498, .iconst 2, 1, 0, 0), (499, .iadd, 1, 0, 0), (500, .iaload, 1, 0, 0), (501, .invokevirtual 65, 3, 92, 2), (504, .aload_n 2, 1, 0, 0), (505, .aload_n 0, 1, 0, 0), (506, .iload_n 3, 1, 0, 0), (507, .iconst 1, 1, 0, 0), (508, .iadd, 1, 0, 0), (509, .iaload, 1, 0, 0), (510, .aload_n 0, 1, 0, 0), (511, .iload_n 3, 1, 0, 0), (512, .iconst 2, 1, 0, 0), (513, .iadd, 1, 0, 0), (514, .iaload, 1, 0, 0), (515, .invokevirtual 68, 3, 189, 2), (518, .if_icmp .eq 718, 3, 1236, 0), (521, .iconst 0, 1, 0, 0), (522, .ireturn, 1, 0, 0)]
theorem kLc12 : xck hL_law rLc12 = true := by decide +kernel
def rLc13 : List xRow := [(523, .aload_n 1, 1, 0, 0), (524, .aload_n 0, 1, 0, 0), (525, .iload_n 3, 1, 0, 0), (526, .iconst 1, 1, 0, 0), (527, .iadd, 1, 0, 0), (528, .iaload, 1, 0, 0), (529, .invokevirtual 69, 3, 93, 1), (532, .aload_n 2, 1, 0, 0), (533, .aload_n 0, 1, 0, 0), (534, .iload_n 3, 1, 0, 0), (535, .iconst 1, 1, 0, 0), (536, .iadd, 1, 0, 0), (537, .iaload, 1, 0, 0), (538, .invokevirtual 72, 3, 190, 1), (541, .if_icmp .eq 695, 3, 1236, 0), (544, .iconst 0, 1, 0, 0), (545, .ireturn, 1, 0, 0)]
theorem kLc13 : xck hL_law rLc13 = true := by decide +kernel
def rLc14 : List xRow := [(546, .aload_n 1, 1, 0, 0), (547, .aload_n 0, 1, 0, 0), (548, .iload_n 3, 1, 0, 0), (549, .iconst 1, 1, 0, 0), (550, .iadd, 1, 0, 0), (551, .iaload, 1, 0, 0), (552, .aload_n 0, 1, 0, 0), (553, .iload_n 3, 1, 0, 0), (554, .iconst 2, 1, 0, 0), (555, .iadd, 1, 0, 0), (556, .iaload, 1, 0, 0), (557, .invokevirtual 73, 3, 94, 2), (560, .aload_n 2, 1, 0, 0), (561, .aload_n 0, 1, 0, 0), (562, .iload_n 3, 1, 0, 0), (563, .iconst 1, 1, 0, 0), (564, .iadd, 1, 0, 0), (565, .iaload, 1, 0, 0), (566, .aload_n 0, 1, 0, 0), (567, .iload_n 3, 1, 0, 0), (568, .iconst 2, 1, 0, 0), (569, .iadd, 1, 0, 0), (570, .iaload, 1, 0, 0), (571, .invokevirtual 76, 3, 192, 2), (574, .if_icmp .eq 662, 3, 1236, 0), (577, .iconst 0, 1, 0, 0), (578, .ireturn, 1, 0, 0)]
theorem kLc14 : xck hL_law rLc14 = true := by decide +kernel
def rLc15 : List xRow := [(579, .aload_n 1, 1, 0, 0), (580, .invokevirtual 77, 3, 95, 0), (583, .aload_n 2, 1, 0, 0), (584, .invokevirtual 80, 3, 193, 0), (587, .if_icmp .eq 649, 3, 1236, 0), (590, .iconst 0, 1, 0, 0), (591, .ireturn, 1, 0, 0)]
theorem kLc15 : xck hL_law rLc15 = true := by decide +kernel
def rLc16 : List xRow := [(592, .aload_n 1, 1, 0, 0), (593, .aload_n 0, 1, 0, 0), (594, .iload_n 3, 1, 0, 0), (595, .iconst 1, 1, 0, 0), (596, .iadd, 1, 0, 0), (597, .iaload, 1, 0, 0), (598, .invokevirtual 81, 3, 96, 1), (601, .aload_n 2, 1, 0, 0), (602, .aload_n 0, 1, 0, 0), (603, .iload_n 3, 1, 0, 0), (604, .iconst 1, 1, 0, 0), (605, .iadd, 1, 0, 0), (606, .iaload, 1, 0, 0), (607, .invokevirtual 84, 3, 194, 1), (610, .if_icmp .eq 626, 3, 1236, 0), (613, .iconst 0, 1, 0, 0), (614, .ireturn, 1, 0, 0)]
theorem kLc16 : xck hL_law rLc16 = true := by decide +kernel
def rLc17 : List xRow := [(615, .aload_n 1, 1, 0, 0), (616, .aload_n 0, 1, 0, 0), (617, .iload_n 3, 1, 0, 0), (618, .iconst 1, 1, 0, 0), (619, .iadd, 1, 0, 0), (620, .iaload, 1, 0, 0), (621, .invokevirtual 85, 3, 97, 1), (624, .aload_n 2, 1, 0, 0), (625, .aload_n 0, 1, 0, 0), (626, .iload_n 3, 1, 0, 0), (627, .iconst 1, 1, 0, 0), (628, .iadd, 1, 0, 0), (629, .iaload, 1, 0, 0), (630, .invokevirtual 88, 3, 195, 1), (633, .if_icmp .eq 603, 3, 1236, 0), (636, .iconst 0, 1, 0, 0), (637, .ireturn, 1, 0, 0)]
theorem kLc17 : xck hL_law rLc17 = true := by decide +kernel
def rLc18 : List xRow := [(638, .aload_n 1, 1, 0, 0), (639, .aload_n 0, 1, 0, 0), (640, .iload_n 3, 1, 0, 0), (641, .iconst 1, 1, 0, 0), (642, .iadd, 1, 0, 0), (643, .iaload, 1, 0, 0), (644, .aload_n 0, 1, 0, 0), (645, .iload_n 3, 1, 0, 0), (646, .iconst 2, 1, 0, 0), (647, .iadd, 1, 0, 0), (648, .iaload, 1, 0, 0), (649, .invokevirtual 89, 3, 98, 2), (652, .aload_n 2, 1, 0, 0), (653, .aload_n 0, 1, 0, 0), (654, .iload_n 3, 1, 0, 0), (655, .iconst 1, 1, 0, 0), (656, .iadd, 1, 0, 0), (657, .iaload, 1, 0, 0), (658, .aload_n 0, 1, 0, 0), (659, .iload_n 3, 1, 0, 0), (660, .iconst 2, 1, 0, 0), (661, .iadd, 1, 0, 0), (662, .iaload, 1, 0, 0), (663, .invokevirtual 92, 3, 197, 2), (666, .if_icmp .eq 570, 3, 1236, 0), (669, .iconst 0, 1, 0, 0), (670, .ireturn, 1, 0, 0)]
theorem kLc18 : xck hL_law rLc18 = true := by decide +kernel
def rLc19 : List xRow := [(671, .aload_n 1, 1, 0, 0), (672, .aload_n 0, 1, 0, 0), (673, .iload_n 3, 1, 0, 0), (674, .iconst 1, 1, 0, 0), (675, .iadd, 1, 0, 0), (676, .iaload, 1, 0, 0), (677, .aload_n 0, 1, 0, 0), (678, .iload_n 3, 1, 0, 0), (679, .iconst 2, 1, 0, 0), (680, .iadd, 1, 0, 0), (681, .iaload, 1, 0, 0), (682, .aload_n 0, 1, 0, 0), (683, .iload_n 3, 1, 0, 0), (684, .iconst 3, 1, 0, 0), (685, .iadd, 1, 0, 0), (686, .iaload, 1, 0, 0), (687, .invokevirtual 93, 3, 99, 3), (690, .aload_n 2, 1, 0, 0), (691, .aload_n 0, 1, 0, 0), (692, .iload_n 3, 1, 0, 0), (693, .iconst 1, 1, 0, 0), (694, .iadd, 1, 0, 0), (695, .iaload, 1, 0, 0), (696, .aload_n 0, 1, 0, 0), (697, .iload_n 3, 1, 0, 0), (698, .iconst 2, 1, 0, 0), (699, .iadd, 1, 0, 0), (700, .iaload, 1, 0, 0), (701, .aload_n 0, 1, 0, 0), (702, .iload_n 3, 1, 0, 0), (703, .iconst 3, 1, 0, 0), (704, .iadd, 1, 0, 0), (705, .iaload, 1, 0, 0), (706, .invokevirtual 96, 3, 198, 3), (709, .if_icmp .eq 527, 3, 1236, 0), (712, .iconst 0, 1, 0, 0), (713, .ireturn, 1, 0, 0)]
theorem kLc19 : xck hL_law rLc19 = true := by decide +kernel
def rLc20 : List xRow := [(714, .aload_n 1, 1, 0, 0), (715, .aload_n 0, 1, 0, 0), (716, .iload_n 3, 1, 0, 0), (717, .iconst 1, 1, 0, 0), (718, .iadd, 1, 0, 0), (719, .iaload, 1, 0, 0), (720, .aload_n 0, 1, 0, 0), (721, .iload_n 3, 1, 0, 0), (722, .iconst 2, 1, 0, 0), (723, .iadd, 1, 0, 0), (724, .iaload, 1, 0, 0), (725, .aload_n 0, 1, 0, 0), (726, .iload_n 3, 1, 0, 0), (727, .iconst 3, 1, 0, 0), (728, .iadd, 1, 0, 0), (729, .iaload, 1, 0, 0), (730, .invokevirtual 97, 3, 100, 3), (733, .aload_n 2, 1, 0, 0), (734, .aload_n 0, 1, 0, 0), (735, .iload_n 3, 1, 0, 0), (736, .iconst 1, 1, 0, 0), (737, .iadd, 1, 0, 0), (738, .iaload, 1, 0, 0), (739, .aload_n 0, 1, 0, 0), (740, .iload_n 3, 1, 0, 0), (741, .iconst 2, 1, 0, 0), (742, .iadd, 1, 0, 0), (743, .iaload, 1, 0, 0), (744, .aload_n 0, 1, 0, 0), (745, .iload_n 3, 1, 0, 0), (746, .iconst 3, 1, 0, 0), (747, .iadd, 1, 0, 0), (748, .iaload, 1, 0, 0), (749, .invokevirtual 100, 3, 200, 3), (752, .if_icmp .eq 484, 3, 1236, 0), (755, .iconst 0, 1, 0, 0), (756, .ireturn, 1, 0, 0)]
theorem kLc20 : xck hL_law rLc20 = true := by decide +kernel
def rLc21 : List xRow := [(757, .aload_n 1, 1, 0, 0), (758, .aload_n 0, 1, 0, 0), (759, .iload_n 3, 1, 0, 0), (760, .iconst 1, 1, 0, 0), (761, .iadd, 1, 0, 0), (762, .iaload, 1, 0, 0), (763, .aload_n 0, 1, 0, 0), (764, .iload_n 3, 1, 0, 0), (765, .iconst 2, 1, 0, 0), (766, .iadd, 1, 0, 0), (767, .iaload, 1, 0, 0), (768, .invokevirtual 101, 3, 101, 2), (771, .aload_n 2, 1, 0, 0), (772, .aload_n 0, 1, 0, 0), (773, .iload_n 3, 1, 0, 0), (774, .iconst 1, 1, 0, 0), (775, .iadd, 1, 0, 0), (776, .iaload, 1, 0, 0), (777, .aload_n 0, 1, 0, 0), (778, .iload_n 3, 1, 0, 0), (779, .iconst 2, 1, 0, 0), (780, .iadd, 1, 0, 0), (781, .iaload, 1, 0, 0), (782, .invokevirtual 104, 3, 203, 2), (785, .if_icmp .eq 451, 3, 1236, 0), (788, .iconst 0, 1, 0, 0), (789, .ireturn, 1, 0, 0)]
theorem kLc21 : xck hL_law rLc21 = true := by decide +kernel
def rLc22 : List xRow := [(790, .aload_n 1, 1, 0, 0), (791, .aload_n 0, 1, 0, 0), (792, .iload_n 3, 1, 0, 0), (793, .iconst 1, 1, 0, 0), (794, .iadd, 1, 0, 0), (795, .iaload, 1, 0, 0), (796, .aload_n 0, 1, 0, 0), (797, .iload_n 3, 1, 0, 0), (798, .iconst 2, 1, 0, 0), (799, .iadd, 1, 0, 0), (800, .iaload, 1, 0, 0), (801, .aload_n 0, 1, 0, 0), (802, .iload_n 3, 1, 0, 0), (803, .iconst 3, 1, 0, 0), (804, .iadd, 1, 0, 0), (805, .iaload, 1, 0, 0), (806, .invokevirtual 105, 3, 102, 3), (809, .aload_n 2, 1, 0, 0), (810, .aload_n 0, 1, 0, 0), (811, .iload_n 3, 1, 0, 0), (812, .iconst 1, 1, 0, 0), (813, .iadd, 1, 0, 0), (814, .iaload, 1, 0, 0), (815, .aload_n 0, 1, 0, 0), (816, .iload_n 3, 1, 0, 0), (817, .iconst 2, 1, 0, 0), (818, .iadd, 1, 0, 0), (819, .iaload, 1, 0, 0), (820, .aload_n 0, 1, 0, 0), (821, .iload_n 3, 1, 0, 0), (822, .iconst 3, 1, 0, 0), (823, .iadd, 1, 0, 0), (824, .iaload, 1, 0, 0), (825, .invokevirtual 108, 3, 204, 3), (828, .if_icmp .eq 408, 3, 1236, 0), (831, .iconst 0, 1, 0, 0), (832, .ireturn, 1, 0, 0)]
theorem kLc22 : xck hL_law rLc22 = true := by decide +kernel
def rLc23 : List xRow := [(833, .aload_n 1, 1, 0, 0), (834, .aload_n 0, 1, 0, 0), (835, .iload_n 3, 1, 0, 0), (836, .iconst 1, 1, 0, 0), (837, .iadd, 1, 0, 0), (838, .iaload, 1, 0, 0), (839, .aload_n 0, 1, 0, 0), (840, .iload_n 3, 1, 0, 0), (841, .iconst 2, 1, 0, 0), (842, .iadd, 1, 0, 0), (843, .iaload, 1, 0, 0), (844, .invokevirtual 109, 3, 103, 2), (847, .aload_n 2, 1, 0, 0), (848, .aload_n 0, 1, 0, 0), (849, .iload_n 3, 1, 0, 0), (850, .iconst 1, 1, 0, 0), (851, .iadd, 1, 0, 0), (852, .iaload, 1, 0, 0), (853, .aload_n 0, 1, 0, 0), (854, .iload_n 3, 1, 0, 0), (855, .iconst 2, 1, 0, 0), (856, .iadd, 1, 0, 0), (857, .iaload, 1, 0, 0), (858, .invokevirtual 112, 3, 205, 2), (861, .if_icmp .eq 375, 3, 1236, 0), (864, .iconst 0, 1, 0, 0), (865, .ireturn, 1, 0, 0)]
theorem kLc23 : xck hL_law rLc23 = true := by decide +kernel
def rLc24 : List xRow := [(866, .aload_n 1, 1, 0, 0), (867, .aload_n 0, 1, 0, 0), (868, .iload_n 3, 1, 0, 0), (869, .iconst 1, 1, 0, 0), (870, .iadd, 1, 0, 0), (871, .iaload, 1, 0, 0), (872, .aload_n 0, 1, 0, 0), (873, .iload_n 3, 1, 0, 0), (874, .iconst 2, 1, 0, 0), (875, .iadd, 1, 0, 0), (876, .iaload, 1, 0, 0), (877, .aload_n 0, 1, 0, 0), (878, .iload_n 3, 1, 0, 0), (879, .iconst 3, 1, 0, 0), (880, .iadd, 1, 0, 0), (881, .iaload, 1, 0, 0), (882, .invokevirtual 113, 3, 104, 3), (885, .aload_n 2, 1, 0, 0), (886, .aload_n 0, 1, 0, 0), (887, .iload_n 3, 1, 0, 0), (888, .iconst 1, 1, 0, 0), (889, .iadd, 1, 0, 0), (890, .iaload, 1, 0, 0), (891, .aload_n 0, 1, 0, 0), (892, .iload_n 3, 1, 0, 0), (893, .iconst 2, 1, 0, 0), (894, .iadd, 1, 0, 0), (895, .iaload, 1, 0, 0), (896, .aload_n 0, 1, 0, 0), (897, .iload_n 3, 1, 0, 0), (898, .iconst 3, 1, 0, 0), (899, .iadd, 1, 0, 0), (900, .iaload, 1, 0, 0), (901, .invokevirtual 116, 3, 206, 3), (904, .if_icmp .eq 332, 3, 1236, 0), (907, .iconst 0, 1, 0, 0), (908, .ireturn, 1, 0, 0)]
theorem kLc24 : xck hL_law rLc24 = true := by decide +kernel
def rLc25 : List xRow := [(909, .aload_n 1, 1, 0, 0), (910, .aload_n 0, 1, 0, 0), (911, .iload_n 3, 1, 0, 0), (912, .iconst 1, 1, 0, 0), (913, .iadd, 1, 0, 0), (914, .iaload, 1, 0, 0), (915, .aload_n 0, 1, 0, 0), (916, .iload_n 3, 1, 0, 0), (917, .iconst 2, 1, 0, 0), (918, .iadd, 1, 0, 0), (919, .iaload, 1, 0, 0), (920, .aload_n 0, 1, 0, 0), (921, .iload_n 3, 1, 0, 0), (922, .iconst 3, 1, 0, 0), (923, .iadd, 1, 0, 0), (924, .iaload, 1, 0, 0), (925, .invokevirtual 117, 3, 105, 3), (928, .aload_n 2, 1, 0, 0), (929, .aload_n 0, 1, 0, 0), (930, .iload_n 3, 1, 0, 0), (931, .iconst 1, 1, 0, 0), (932, .iadd, 1, 0, 0), (933, .iaload, 1, 0, 0), (934, .aload_n 0, 1, 0, 0), (935, .iload_n 3, 1, 0, 0), (936, .iconst 2, 1, 0, 0), (937, .iadd, 1, 0, 0), (938, .iaload, 1, 0, 0), (939, .aload_n 0, 1, 0, 0), (940, .iload_n 3, 1, 0, 0), (941, .iconst 3, 1, 0, 0), (942, .iadd, 1, 0, 0), (943, .iaload, 1, 0, 0), (944, .invokevirtual 120, 3, 207, 3), (947, .if_icmp .eq 289, 3, 1236, 0), (950, .iconst 0, 1, 0, 0), (951, .ireturn, 1, 0, 0)]
theorem kLc25 : xck hL_law rLc25 = true := by decide +kernel
def rLc26 : List xRow := [(952, .aload_n 1, 1, 0, 0), (953, .invokevirtual 121, 3, 106, 0), (956, .aload_n 2, 1, 0, 0), (957, .invokevirtual 124, 3, 208, 0), (960, .if_icmp .eq 276, 3, 1236, 0), (963, .iconst 0, 1, 0, 0), (964, .ireturn, 1, 0, 0)]
theorem kLc26 : xck hL_law rLc26 = true := by decide +kernel
def rLc27 : List xRow := [(965, .aload_n 1, 1, 0, 0), (966, .aload_n 0, 1, 0, 0), (967, .iload_n 3, 1, 0, 0), (968, .iconst 1, 1, 0, 0), (969, .iadd, 1, 0, 0), (970, .iaload, 1, 0, 0), (971, .invokevirtual 125, 3, 107, 1), (974, .aload_n 2, 1, 0, 0), (975, .aload_n 0, 1, 0, 0), (976, .iload_n 3, 1, 0, 0), (977, .iconst 1, 1, 0, 0), (978, .iadd, 1, 0, 0), (979, .iaload, 1, 0, 0), (980, .invokevirtual 128, 3, 209, 1), (983, .if_icmp .eq 253, 3, 1236, 0), (986, .iconst 0, 1, 0, 0), (987, .ireturn, 1, 0, 0)]
theorem kLc27 : xck hL_law rLc27 = true := by decide +kernel
def rLc28 : List xRow := [(988, .aload_n 1, 1, 0, 0), (989, .aload_n 0, 1, 0, 0), (990, .iload_n 3, 1, 0, 0), (991, .iconst 1, 1, 0, 0), (992, .iadd, 1, 0, 0), (993, .iaload, 1, 0, 0), (994, .aload_n 0, 1, 0, 0), (995, .iload_n 3, 1, 0, 0), (996, .iconst 2, 1, 0, 0), (997, .iadd, 1, 0, 0), (998, .iaload, 1, 0, 0), (999, .aload_n 0, 1, 0, 0), (1000, .iload_n 3, 1, 0, 0), (1001, .iconst 3, 1, 0, 0), (1002, .iadd, 1, 0, 0), (1003, .iaload, 1, 0, 0), (1004, .invokevirtual 129, 3, 108, 3), (1007, .aload_n 2, 1, 0, 0), (1008, .aload_n 0, 1, 0, 0), (1009, .iload_n 3, 1, 0, 0), (1010, .iconst 1, 1, 0, 0), (1011, .iadd, 1, 0, 0), (1012, .iaload, 1, 0, 0), (1013, .aload_n 0, 1, 0, 0), (1014, .iload_n 3, 1, 0, 0), (1015, .iconst 2, 1, 0, 0), (1016, .iadd, 1, 0, 0), (1017, .iaload, 1, 0, 0), (1018, .aload_n 0, 1, 0, 0), (1019, .iload_n 3, 1, 0, 0), (1020, .iconst 3, 1, 0, 0), (1021, .iadd, 1, 0, 0), (1022, .iaload, 1, 0, 0), (1023, .invokevirtual 132, 3, 211, 3), (1026, .if_icmp .eq 210, 3, 1236, 0), (1029, .iconst 0, 1, 0, 0), (1030, .ireturn, 1, 0, 0)]
theorem kLc28 : xck hL_law rLc28 = true := by decide +kernel
def rLc29 : List xRow := [(1031, .aload_n 1, 1, 0, 0), (1032, .aload_n 0, 1, 0, 0), (1033, .iload_n 3, 1, 0, 0), (1034, .iconst 1, 1, 0, 0), (1035, .iadd, 1, 0, 0), (1036, .iaload, 1, 0, 0), (1037, .aload_n 0, 1, 0, 0), (1038, .iload_n 3, 1, 0, 0), (1039, .iconst 2, 1, 0, 0), (1040, .iadd, 1, 0, 0), (1041, .iaload, 1, 0, 0), (1042, .aload_n 0, 1, 0, 0), (1043, .iload_n 3, 1, 0, 0), (1044, .iconst 3, 1, 0, 0), (1045, .iadd, 1, 0, 0), (1046, .iaload, 1, 0, 0), (1047, .aload_n 0, 1, 0, 0), (1048, .iload_n 3, 1, 0, 0), (1049, .iconst 4, 1, 0, 0), (1050, .iadd, 1, 0, 0), (1051, .iaload, 1, 0, 0), (1052, .invokevirtual 133, 3, 109, 4), (1055, .aload_n 2, 1, 0, 0), (1056, .aload_n 0, 1, 0, 0), (1057, .iload_n 3, 1, 0, 0), (1058, .iconst 1, 1, 0, 0), (1059, .iadd, 1, 0, 0), (1060, .iaload, 1, 0, 0), (1061, .aload_n 0, 1, 0, 0), (1062, .iload_n 3, 1, 0, 0), (1063, .iconst 2, 1, 0, 0), (1064, .iadd, 1, 0, 0), (1065, .iaload, 1, 0, 0), (1066, .aload_n 0, 1, 0, 0), (1067, .iload_n 3, 1, 0, 0), (1068, .iconst 3, 1, 0, 0), (1069, .iadd, 1, 0, 0), (1070, .iaload, 1, 0, 0), (1071, .aload_n 0, 1, 0, 0), (1072, .iload_n 3, 1, 0, 0), (1073, .iconst 4, 1, 0, 0), (1074, .iadd, 1, 0, 0), (1075, .iaload, 1, 0, 0), (1076, .invokevirtual 137, 3, 213, 4), (1079, .if_icmp .eq 157, 3, 1236, 0), (1082, .iconst 0, 1, 0, 0), (1083, .ireturn, 1, 0, 0)]
theorem kLc29 : xck hL_law rLc29 = true := by decide +kernel
def rLc30 : List xRow := [(1084, .aload_n 1, 1, 0, 0), (1085, .aload_n 0, 1, 0, 0), (1086, .iload_n 3, 1, 0, 0), (1087, .iconst 1, 1, 0, 0), (1088, .iadd, 1, 0, 0), (1089, .iaload, 1, 0, 0), (1090, .aload_n 0, 1, 0, 0), (1091, .iload_n 3, 1, 0, 0), (1092, .iconst 2, 1, 0, 0), (1093, .iadd, 1, 0, 0), (1094, .iaload, 1, 0, 0), (1095, .aload_n 0, 1, 0, 0), (1096, .iload_n 3, 1, 0, 0), (1097, .iconst 3, 1, 0, 0), (1098, .iadd, 1, 0, 0), (1099, .iaload, 1, 0, 0), (1100, .invokevirtual 138, 3, 110, 3), (1103, .aload_n 2, 1, 0, 0), (1104, .aload_n 0, 1, 0, 0), (1105, .iload_n 3, 1, 0, 0), (1106, .iconst 1, 1, 0, 0), (1107, .iadd, 1, 0, 0), (1108, .iaload, 1, 0, 0), (1109, .aload_n 0, 1, 0, 0), (1110, .iload_n 3, 1, 0, 0), (1111, .iconst 2, 1, 0, 0), (1112, .iadd, 1, 0, 0), (1113, .iaload, 1, 0, 0), (1114, .aload_n 0, 1, 0, 0), (1115, .iload_n 3, 1, 0, 0), (1116, .iconst 3, 1, 0, 0), (1117, .iadd, 1, 0, 0), (1118, .iaload, 1, 0, 0), (1119, .invokevirtual 141, 3, 214, 3), (1122, .if_icmp .eq 114, 3, 1236, 0), (1125, .iconst 0, 1, 0, 0), (1126, .ireturn, 1, 0, 0)]
theorem kLc30 : xck hL_law rLc30 = true := by decide +kernel
def rLc31 : List xRow := [(1127, .aload_n 1, 1, 0, 0), (1128, .aload_n 0, 1, 0, 0), (1129, .iload_n 3, 1, 0, 0), (1130, .iconst 1, 1, 0, 0), (1131, .iadd, 1, 0, 0), (1132, .iaload, 1, 0, 0), (1133, .aload_n 0, 1, 0, 0), (1134, .iload_n 3, 1, 0, 0), (1135, .iconst 2, 1, 0, 0), (1136, .iadd, 1, 0, 0), (1137, .iaload, 1, 0, 0), (1138, .aload_n 0, 1, 0, 0), (1139, .iload_n 3, 1, 0, 0), (1140, .iconst 3, 1, 0, 0), (1141, .iadd, 1, 0, 0), (1142, .iaload, 1, 0, 0), (1143, .aload_n 0, 1, 0, 0), (1144, .iload_n 3, 1, 0, 0), (1145, .iconst 4, 1, 0, 0), (1146, .iadd, 1, 0, 0), (1147, .iaload, 1, 0, 0), (1148, .aload_n 0, 1, 0, 0), (1149, .iload_n 3, 1, 0, 0), (1150, .iconst 5, 1, 0, 0), (1151, .iadd, 1, 0, 0), (1152, .iaload, 1, 0, 0), (1153, .invokevirtual 142, 3, 111, 5), (1156, .aload_n 2, 1, 0, 0), (1157, .aload_n 0, 1, 0, 0), (1158, .iload_n 3, 1, 0, 0), (1159, .iconst 1, 1, 0, 0), (1160, .iadd, 1, 0, 0), (1161, .iaload, 1, 0, 0), (1162, .aload_n 0, 1, 0, 0), (1163, .iload_n 3, 1, 0, 0), (1164, .iconst 2, 1, 0, 0), (1165, .iadd, 1, 0, 0), (1166, .iaload, 1, 0, 0), (1167, .aload_n 0, 1, 0, 0), (1168, .iload_n 3, 1, 0, 0), (1169, .iconst 3, 1, 0, 0), (1170, .iadd, 1, 0, 0), (1171, .iaload, 1, 0, 0), (1172, .aload_n 0, 1, 0, 0), (1173, .iload_n 3, 1, 0, 0), (1174, .iconst 4, 1, 0, 0), (1175, .iadd, 1, 0, 0), (1176, .iaload, 1, 0, 0), (1177, .aload_n 0, 1, 0, 0), (1178, .iload_n 3, 1, 0, 0), (1179, .iconst 5, 1, 0, 0), (1180, .iadd, 1, 0, 0), (1181, .iaload, 1, 0, 0), (1182, .invokevirtual 146, 3, 216, 5), (1185, .if_icmp .eq 51, 3, 1236, 0), (1188, .iconst 0, 1, 0, 0), (1189, .ireturn, 1, 0, 0)]
theorem kLc31 : xck hL_law rLc31 = true := by decide +kernel
def rLc32 : List xRow := [(1190, .aload_n 1, 1, 0, 0), (1191, .aload_n 0, 1, 0, 0), (1192, .iload_n 3, 1, 0, 0), (1193, .iconst 1, 1, 0, 0), (1194, .iadd, 1, 0, 0), (1195, .iaload, 1, 0, 0), (1196, .invokevirtual 147, 3, 112, 1), (1199, .aload_n 2, 1, 0, 0), (1200, .aload_n 0, 1, 0, 0), (1201, .iload_n 3, 1, 0, 0), (1202, .iconst 1, 1, 0, 0), (1203, .iadd, 1, 0, 0), (1204, .iaload, 1, 0, 0), (1205, .invokevirtual 150, 3, 217, 1), (1208, .if_icmp .eq 28, 3, 1236, 0), (1211, .iconst 0, 1, 0, 0), (1212, .ireturn, 1, 0, 0)]
theorem kLc32 : xck hL_law rLc32 = true := by decide +kernel
def rLc33 : List xRow := [(1213, .aload_n 1, 1, 0, 0), (1214, .aload_n 0, 1, 0, 0), (1215, .iload_n 3, 1, 0, 0), (1216, .iconst 1, 1, 0, 0), (1217, .iadd, 1, 0, 0), (1218, .iaload, 1, 0, 0), (1219, .invokevirtual 151, 3, 113, 1), (1222, .aload_n 2, 1, 0, 0), (1223, .aload_n 0, 1, 0, 0), (1224, .iload_n 3, 1, 0, 0), (1225, .iconst 1, 1, 0, 0), (1226, .iadd, 1, 0, 0), (1227, .iaload, 1, 0, 0), (1228, .invokevirtual 154, 3, 221, 1), (1231, .if_icmp .eq 5, 3, 1236, 0), (1234, .iconst 0, 1, 0, 0), (1235, .ireturn, 1, 0, 0)]
theorem kLc33 : xck hL_law rLc33 = true := by decide +kernel
/-- what holds between two calls -/
def lI (D : xM) (G : gS) : Prop := RelC D G ∧ RelM D G ∧ gok G ∧ G.told.E = 0 ∧ (G.tg = [] ∨ tgV (tgY G.tg))
theorem x_rows {Γ : xG} {n : Nat} {h : xHd} {rows rows2 : List xRow} {pc : Nat} {lv : List (Option xV)} {st : List xV} {D : xM} {post : Option Int32 → xM → Prop} (hk : xck h rows2 = true) (kk : xW Γ n h rows2 pc lv st D post) : xW Γ n h rows pc lv st D post := by
  intro p e R s m args below meth c H locs cells slots Q ls C hH hS hl hst hret
  obtain ⟨c1, c2, c3, c4, c5, c6, c7, c8, -, c10⟩ := C
  exact kk p e R s m args below meth c H locs cells slots Q ls ⟨c1, c2, c3, c4, c5, c6, c7, c8, hk, c10⟩ hH hS hl hst hret
def lwv (Γ : xG) (i : Nat) (k : Int) : Int32 := Γ.s.2.2 (nI i + xnum k).toNatClampNeg
theorem t_write {G : gS} {x0 : Int32} : (aWrite G x0).2.told = G.told ∧ (aWrite G x0).2.tg = G.tg := by
  unfold aWrite
  repeat' split
  all_goals first | exact ⟨rfl, rfl⟩ | (unfold rSpl; repeat' split) <;> exact ⟨rfl, rfl⟩
theorem t_erase {G : gS} : (aErase G).2.told = G.told ∧ (aErase G).2.tg = G.tg := by
  unfold aErase
  repeat' split
  all_goals first | exact ⟨rfl, rfl⟩ | (unfold rSpl; repeat' split) <;> exact ⟨rfl, rfl⟩
theorem t_evening {G : gS} {x0 : Int32} : (aEvening G x0).2.told = G.told ∧ (aEvening G x0).2.tg = G.tg := by
  unfold aEvening
  repeat' split
  all_goals first | exact ⟨rfl, rfl⟩ | (unfold rSpl; repeat' split) <;> exact ⟨rfl, rfl⟩
theorem t_teach {G : gS} {x0 x1 : Int32} : (aTeach G x0 x1).2.told = G.told ∧ (aTeach G x0 x1).2.tg = G.tg := by
  unfold aTeach
  repeat' split
  all_goals first | exact ⟨rfl, rfl⟩ | (unfold rSpl; repeat' split) <;> exact ⟨rfl, rfl⟩
theorem t_moult {G : gS} {x0 : Int32} : (aMoult G x0).2.told = G.told ∧ (aMoult G x0).2.tg = G.tg := by
  unfold aMoult
  repeat' split
  all_goals first | exact ⟨rfl, rfl⟩ | (unfold rSpl; repeat' split) <;> exact ⟨rfl, rfl⟩
theorem t_perch {G : gS} {x0 x1 : Int32} : (aPerch G x0 x1).2.told = G.told ∧ (aPerch G x0 x1).2.tg = G.tg := by
  unfold aPerch
  repeat' split
  all_goals first | exact ⟨rfl, rfl⟩ | (unfold rSpl; repeat' split) <;> exact ⟨rfl, rfl⟩
theorem t_cover {G : gS} {x0 : Int32} : (aCover G x0).2.told = G.told ∧ (aCover G x0).2.tg = G.tg := by
  unfold aCover
  repeat' split
  all_goals first | exact ⟨rfl, rfl⟩ | (unfold rSpl; repeat' split) <;> exact ⟨rfl, rfl⟩
theorem t_sit {G : gS} {x0 x1 : Int32} : (aSit G x0 x1).2.told = G.told ∧ (aSit G x0 x1).2.tg = G.tg := by
  unfold aSit
  repeat' split
  all_goals first | exact ⟨rfl, rfl⟩ | (unfold rSpl; repeat' split) <;> exact ⟨rfl, rfl⟩
theorem t_undo {G : gS} : (aUndo G).2.told = G.told ∧ (aUndo G).2.tg = G.tg := by
  unfold aUndo
  repeat' split
  all_goals first | exact ⟨rfl, rfl⟩ | (unfold rSpl; repeat' split) <;> exact ⟨rfl, rfl⟩
theorem t_keep {G : gS} {x0 : Int32} : (aKeep G x0).2.told = G.told ∧ (aKeep G x0).2.tg = G.tg := by
  unfold aKeep
  repeat' split
  all_goals first | exact ⟨rfl, rfl⟩ | (unfold rSpl; repeat' split) <;> exact ⟨rfl, rfl⟩
theorem t_back {G : gS} {x0 : Int32} : (aBack G x0).2.told = G.told ∧ (aBack G x0).2.tg = G.tg := by
  unfold aBack
  repeat' split
  all_goals first | exact ⟨rfl, rfl⟩ | (unfold rSpl; repeat' split) <;> exact ⟨rfl, rfl⟩
theorem t_seen {G : gS} {x0 x1 x2 : Int32} : (aSeen G x0 x1 x2).2.told = G.told ∧ (aSeen G x0 x1 x2).2.tg = G.tg := by
  unfold aSeen
  repeat' split
  all_goals first | exact ⟨rfl, rfl⟩ | (unfold rSpl; repeat' split) <;> exact ⟨rfl, rfl⟩
theorem t_forget {G : gS} : (aForget G).2.told = G.told ∧ (aForget G).2.tg = G.tg := by
  unfold aForget
  repeat' split
  all_goals first | exact ⟨rfl, rfl⟩ | (unfold rSpl; repeat' split) <;> exact ⟨rfl, rfl⟩
theorem t_reel {G : gS} {x0 x1 x2 : Int32} : (aReel G x0 x1 x2).2.told = G.told ∧ (aReel G x0 x1 x2).2.tg = G.tg := by
  unfold aReel
  repeat' split
  all_goals first | exact ⟨rfl, rfl⟩ | (unfold rSpl; repeat' split) <;> exact ⟨rfl, rfl⟩
theorem t_record {G : gS} {x0 x1 x2 x3 : Int32} : (aRecord G x0 x1 x2 x3).2.told = G.told ∧ (aRecord G x0 x1 x2 x3).2.tg = G.tg := by
  unfold aRecord
  repeat' split
  all_goals first | exact ⟨rfl, rfl⟩ | (unfold rSpl; repeat' split) <;> exact ⟨rfl, rfl⟩
theorem t_splice {G : gS} {x0 x1 x2 x3 x4 : Int32} : (aSplice G x0 x1 x2 x3 x4).2.told = G.told ∧ (aSplice G x0 x1 x2 x3 x4).2.tg = G.tg := by
  unfold aSplice
  repeat' split
  all_goals first | exact ⟨rfl, rfl⟩ | (unfold rSpl; repeat' split) <;> exact ⟨rfl, rfl⟩
theorem t_drop {G : gS} {x0 : Int32} : (aDrop G x0).2.told = G.told ∧ (aDrop G x0).2.tg = G.tg := by
  unfold aDrop
  repeat' split
  all_goals first | exact ⟨rfl, rfl⟩ | (unfold rSpl; repeat' split) <;> exact ⟨rfl, rfl⟩
section LW
variable {Γ : xG} {D : xM} {post : Option Int32 → xM → Prop} {G : gS} {i : Nat}
theorem law_write (hI : lI D G) (hi : i + 6 ≤ Γ.s.2.1) (hL : Γ.s.2.1 ≤ 384) (kk : ∀ D' G', lI D' G' → xW Γ 40 hL_law rLt 1236 [some (xR 8 0 0), some (xR 0 8 0), some (xR 0 9 111), some (xI (nI i))] [] D' post) : xW Γ 40 hL_law rLc0 184 [some (xR 8 0 0), some (xR 0 8 0), some (xR 0 9 111), some (xI (nI i))] [] D post := by
  obtain ⟨h1, h2, h3, h4, h5⟩ := hI
  refine x_xld rfl rfl (pk_in (i + 1) Γ.s.2.1 (by omega) (nI_add i 1) (by omega)) ?_
  refine x_call [xI (lwv Γ i 1)] rfl rfl rfl rfl rfl rfl rfl (a_write h1 h3 (fun D1 c1 c2 => ?_))
  refine x_xld rfl rfl (pk_in (i + 1) Γ.s.2.1 (by omega) (nI_add i 1) (by omega)) ?_
  refine x_call [xI (lwv Γ i 1)] rfl rfl rfl rfl rfl rfl rfl (am_write (RelM_far h2 h3 c2) h3 (fun D2 c3 c4 => ?_))
  have t := t_write (G := G) (x0 := lwv Γ i 1)
  exact xi_eq rfl rfl (fun _ => x_rows kLt (kk D2 _ ⟨RelC_far c1 c4, c3, g_write h3, by rw [t.1]; exact h4, by rw [t.2]; exact h5⟩)) (fun q => absurd rfl q)
theorem law_erase (hI : lI D G) (hi : i + 6 ≤ Γ.s.2.1) (hL : Γ.s.2.1 ≤ 384) (kk : ∀ D' G', lI D' G' → xW Γ 40 hL_law rLt 1236 [some (xR 8 0 0), some (xR 0 8 0), some (xR 0 9 111), some (xI (nI i))] [] D' post) : xW Γ 40 hL_law rLc1 207 [some (xR 8 0 0), some (xR 0 8 0), some (xR 0 9 111), some (xI (nI i))] [] D post := by
  obtain ⟨h1, h2, h3, h4, h5⟩ := hI
  refine x_call [] rfl rfl rfl rfl rfl rfl rfl (a_erase h1 h3 (fun D1 c1 c2 => ?_))
  refine x_call [] rfl rfl rfl rfl rfl rfl rfl (am_erase (RelM_far h2 h3 c2) h3 (fun D2 c3 c4 => ?_))
  have t := t_erase (G := G) 
  exact xi_eq rfl rfl (fun _ => x_rows kLt (kk D2 _ ⟨RelC_far c1 c4, c3, g_erase h3, by rw [t.1]; exact h4, by rw [t.2]; exact h5⟩)) (fun q => absurd rfl q)
theorem law_fault (hI : lI D G) (hi : i + 6 ≤ Γ.s.2.1) (hL : Γ.s.2.1 ≤ 384) (kk : ∀ D' G', lI D' G' → xW Γ 40 hL_law rLt 1236 [some (xR 8 0 0), some (xR 0 8 0), some (xR 0 9 111), some (xI (nI i))] [] D' post) : xW Γ 40 hL_law rLc2 220 [some (xR 8 0 0), some (xR 0 8 0), some (xR 0 9 111), some (xI (nI i))] [] D post := by
  obtain ⟨h1, h2, h3, h4, h5⟩ := hI
  refine x_xld rfl rfl (pk_in (i + 1) Γ.s.2.1 (by omega) (nI_add i 1) (by omega)) ?_
  refine x_call [xI (lwv Γ i 1)] rfl rfl rfl rfl rfl rfl rfl (a_fault h1 h3 h4 (fun D1 c1 c2 => ?_))
  refine x_xld rfl rfl (pk_in (i + 1) Γ.s.2.1 (by omega) (nI_add i 1) (by omega)) ?_
  refine x_call [xI (lwv Γ i 1)] rfl rfl rfl rfl rfl rfl rfl (am_fault (RelM_far h2 h3 c2) h3 h4 (fun D2 c3 c4 => ?_))
  exact xi_eq rfl rfl (fun _ => x_rows kLt (kk D2 G ⟨RelC_far c1 c4, c3, h3, h4, h5⟩)) (fun q => absurd rfl q)
theorem law_harbour (hI : lI D G) (hi : i + 6 ≤ Γ.s.2.1) (hL : Γ.s.2.1 ≤ 384) (kk : ∀ D' G', lI D' G' → xW Γ 40 hL_law rLt 1236 [some (xR 8 0 0), some (xR 0 8 0), some (xR 0 9 111), some (xI (nI i))] [] D' post) : xW Γ 40 hL_law rLc3 243 [some (xR 8 0 0), some (xR 0 8 0), some (xR 0 9 111), some (xI (nI i))] [] D post := by
  obtain ⟨h1, h2, h3, h4, h5⟩ := hI
  refine x_call [] rfl rfl rfl rfl rfl rfl rfl (a_harbour h1 h3 h4 (fun D1 c1 c2 => ?_))
  refine x_call [] rfl rfl rfl rfl rfl rfl rfl (am_harbour (RelM_far h2 h3 c2) h3 h4 (fun D2 c3 c4 => ?_))
  obtain ⟨g1, g2, g3⟩ := g_harbour h3 h4
  exact xi_eq rfl rfl (fun _ => x_rows kLt (kk D2 _ ⟨RelC_far c1 c4, c3, g1, g2, by rw [g3]; exact h5⟩)) (fun q => absurd rfl q)
theorem law_tongue (hI : lI D G) (hi : i + 6 ≤ Γ.s.2.1) (hL : Γ.s.2.1 ≤ 384) (kk : ∀ D' G', lI D' G' → xW Γ 40 hL_law rLt 1236 [some (xR 8 0 0), some (xR 0 8 0), some (xR 0 9 111), some (xI (nI i))] [] D' post) : xW Γ 40 hL_law rLc4 256 [some (xR 8 0 0), some (xR 0 8 0), some (xR 0 9 111), some (xI (nI i))] [] D post := by
  obtain ⟨h1, h2, h3, h4, h5⟩ := hI
  refine x_call [] rfl rfl rfl rfl rfl rfl rfl (a_tongue h1 h3 (fun D1 c1 c2 => ?_))
  refine x_call [] rfl rfl rfl rfl rfl rfl rfl (am_tongue (RelM_far h2 h3 c2) h3 (fun D2 c3 c4 => ?_))
  obtain ⟨g1, g2, g3⟩ := g_tongue h3 h5
  exact xi_eq rfl rfl (fun _ => x_rows kLt (kk D2 _ ⟨RelC_far c1 c4, c3, g1, by rw [g2]; exact h4, g3⟩)) (fun q => absurd rfl q)
theorem law_bird (hI : lI D G) (hi : i + 6 ≤ Γ.s.2.1) (hL : Γ.s.2.1 ≤ 384) (kk : ∀ D' G', lI D' G' → xW Γ 40 hL_law rLt 1236 [some (xR 8 0 0), some (xR 0 8 0), some (xR 0 9 111), some (xI (nI i))] [] D' post) : xW Γ 40 hL_law rLc5 269 [some (xR 8 0 0), some (xR 0 8 0), some (xR 0 9 111), some (xI (nI i))] [] D post := by
  obtain ⟨h1, h2, h3, h4, h5⟩ := hI
  refine x_xld rfl rfl (pk_in (i + 1) Γ.s.2.1 (by omega) (nI_add i 1) (by omega)) ?_
  refine x_xld rfl rfl (pk_in (i + 2) Γ.s.2.1 (by omega) (nI_add i 2) (by omega)) ?_
  refine x_call [xI (lwv Γ i 1), xI (lwv Γ i 2)] rfl rfl rfl rfl rfl rfl rfl (a_bird h1 h3 ?_)
  refine x_xld rfl rfl (pk_in (i + 1) Γ.s.2.1 (by omega) (nI_add i 1) (by omega)) ?_
  refine x_xld rfl rfl (pk_in (i + 2) Γ.s.2.1 (by omega) (nI_add i 2) (by omega)) ?_
  refine x_call [xI (lwv Γ i 1), xI (lwv Γ i 2)] rfl rfl rfl rfl rfl rfl rfl (am_bird h2 h3 ?_)
  exact xi_eq rfl rfl (fun _ => x_rows kLt (kk D G ⟨h1, h2, h3, h4, h5⟩)) (fun q => absurd rfl q)
theorem law_man (hI : lI D G) (hi : i + 6 ≤ Γ.s.2.1) (hL : Γ.s.2.1 ≤ 384) (kk : ∀ D' G', lI D' G' → xW Γ 40 hL_law rLt 1236 [some (xR 8 0 0), some (xR 0 8 0), some (xR 0 9 111), some (xI (nI i))] [] D' post) : xW Γ 40 hL_law rLc6 302 [some (xR 8 0 0), some (xR 0 8 0), some (xR 0 9 111), some (xI (nI i))] [] D post := by
  obtain ⟨h1, h2, h3, h4, h5⟩ := hI
  refine x_xld rfl rfl (pk_in (i + 1) Γ.s.2.1 (by omega) (nI_add i 1) (by omega)) ?_
  refine x_xld rfl rfl (pk_in (i + 2) Γ.s.2.1 (by omega) (nI_add i 2) (by omega)) ?_
  refine x_call [xI (lwv Γ i 1), xI (lwv Γ i 2)] rfl rfl rfl rfl rfl rfl rfl (a_man h1 h3 ?_)
  refine x_xld rfl rfl (pk_in (i + 1) Γ.s.2.1 (by omega) (nI_add i 1) (by omega)) ?_
  refine x_xld rfl rfl (pk_in (i + 2) Γ.s.2.1 (by omega) (nI_add i 2) (by omega)) ?_
  refine x_call [xI (lwv Γ i 1), xI (lwv Γ i 2)] rfl rfl rfl rfl rfl rfl rfl (am_man h2 h3 ?_)
  exact xi_eq rfl rfl (fun _ => x_rows kLt (kk D G ⟨h1, h2, h3, h4, h5⟩)) (fun q => absurd rfl q)
theorem law_known (hI : lI D G) (hi : i + 6 ≤ Γ.s.2.1) (hL : Γ.s.2.1 ≤ 384) (kk : ∀ D' G', lI D' G' → xW Γ 40 hL_law rLt 1236 [some (xR 8 0 0), some (xR 0 8 0), some (xR 0 9 111), some (xI (nI i))] [] D' post) : xW Γ 40 hL_law rLc7 335 [some (xR 8 0 0), some (xR 0 8 0), some (xR 0 9 111), some (xI (nI i))] [] D post := by
  obtain ⟨h1, h2, h3, h4, h5⟩ := hI
  refine x_xld rfl rfl (pk_in (i + 1) Γ.s.2.1 (by omega) (nI_add i 1) (by omega)) ?_
  refine x_xld rfl rfl (pk_in (i + 2) Γ.s.2.1 (by omega) (nI_add i 2) (by omega)) ?_
  refine x_xld rfl rfl (pk_in (i + 3) Γ.s.2.1 (by omega) (nI_add i 3) (by omega)) ?_
  refine x_call [xI (lwv Γ i 1), xI (lwv Γ i 2), xI (lwv Γ i 3)] rfl rfl rfl rfl rfl rfl rfl (a_known h1 h3 (fun D1 c1 c2 => ?_))
  refine x_xld rfl rfl (pk_in (i + 1) Γ.s.2.1 (by omega) (nI_add i 1) (by omega)) ?_
  refine x_xld rfl rfl (pk_in (i + 2) Γ.s.2.1 (by omega) (nI_add i 2) (by omega)) ?_
  refine x_xld rfl rfl (pk_in (i + 3) Γ.s.2.1 (by omega) (nI_add i 3) (by omega)) ?_
  refine x_call [xI (lwv Γ i 1), xI (lwv Γ i 2), xI (lwv Γ i 3)] rfl rfl rfl rfl rfl rfl rfl (am_known (RelM_far h2 h3 c2) h3 (fun D2 c3 c4 => ?_))
  exact xi_eq rfl rfl (fun _ => x_rows kLt (kk D2 G ⟨RelC_far c1 c4, c3, h3, h4, h5⟩)) (fun q => absurd rfl q)
theorem law_as (hI : lI D G) (hi : i + 6 ≤ Γ.s.2.1) (hL : Γ.s.2.1 ≤ 384) (kk : ∀ D' G', lI D' G' → xW Γ 40 hL_law rLt 1236 [some (xR 8 0 0), some (xR 0 8 0), some (xR 0 9 111), some (xI (nI i))] [] D' post) : xW Γ 40 hL_law rLc8 378 [some (xR 8 0 0), some (xR 0 8 0), some (xR 0 9 111), some (xI (nI i))] [] D post := by
  obtain ⟨h1, h2, h3, h4, h5⟩ := hI
  refine x_xld rfl rfl (pk_in (i + 1) Γ.s.2.1 (by omega) (nI_add i 1) (by omega)) ?_
  refine x_xld rfl rfl (pk_in (i + 2) Γ.s.2.1 (by omega) (nI_add i 2) (by omega)) ?_
  refine x_call [xI (lwv Γ i 1), xI (lwv Γ i 2)] rfl rfl rfl rfl rfl rfl rfl (a_as h1 h3 ?_)
  refine x_xld rfl rfl (pk_in (i + 1) Γ.s.2.1 (by omega) (nI_add i 1) (by omega)) ?_
  refine x_xld rfl rfl (pk_in (i + 2) Γ.s.2.1 (by omega) (nI_add i 2) (by omega)) ?_
  refine x_call [xI (lwv Γ i 1), xI (lwv Γ i 2)] rfl rfl rfl rfl rfl rfl rfl (am_as h2 h3 ?_)
  exact xi_eq rfl rfl (fun _ => x_rows kLt (kk D G ⟨h1, h2, h3, h4, h5⟩)) (fun q => absurd rfl q)
theorem law_evening (hI : lI D G) (hi : i + 6 ≤ Γ.s.2.1) (hL : Γ.s.2.1 ≤ 384) (kk : ∀ D' G', lI D' G' → xW Γ 40 hL_law rLt 1236 [some (xR 8 0 0), some (xR 0 8 0), some (xR 0 9 111), some (xI (nI i))] [] D' post) : xW Γ 40 hL_law rLc9 411 [some (xR 8 0 0), some (xR 0 8 0), some (xR 0 9 111), some (xI (nI i))] [] D post := by
  obtain ⟨h1, h2, h3, h4, h5⟩ := hI
  refine x_xld rfl rfl (pk_in (i + 1) Γ.s.2.1 (by omega) (nI_add i 1) (by omega)) ?_
  refine x_call [xI (lwv Γ i 1)] rfl rfl rfl rfl rfl rfl rfl (a_evening h1 h3 (fun D1 c1 c2 => ?_))
  refine x_xld rfl rfl (pk_in (i + 1) Γ.s.2.1 (by omega) (nI_add i 1) (by omega)) ?_
  refine x_call [xI (lwv Γ i 1)] rfl rfl rfl rfl rfl rfl rfl (am_evening (RelM_far h2 h3 c2) h3 (fun D2 c3 c4 => ?_))
  have t := t_evening (G := G) (x0 := lwv Γ i 1)
  exact xi_eq rfl rfl (fun _ => x_rows kLt (kk D2 _ ⟨RelC_far c1 c4, c3, g_evening h3, by rw [t.1]; exact h4, by rw [t.2]; exact h5⟩)) (fun q => absurd rfl q)
theorem law_teach (hI : lI D G) (hi : i + 6 ≤ Γ.s.2.1) (hL : Γ.s.2.1 ≤ 384) (kk : ∀ D' G', lI D' G' → xW Γ 40 hL_law rLt 1236 [some (xR 8 0 0), some (xR 0 8 0), some (xR 0 9 111), some (xI (nI i))] [] D' post) : xW Γ 40 hL_law rLc10 434 [some (xR 8 0 0), some (xR 0 8 0), some (xR 0 9 111), some (xI (nI i))] [] D post := by
  obtain ⟨h1, h2, h3, h4, h5⟩ := hI
  refine x_xld rfl rfl (pk_in (i + 1) Γ.s.2.1 (by omega) (nI_add i 1) (by omega)) ?_
  refine x_xld rfl rfl (pk_in (i + 2) Γ.s.2.1 (by omega) (nI_add i 2) (by omega)) ?_
  refine x_call [xI (lwv Γ i 1), xI (lwv Γ i 2)] rfl rfl rfl rfl rfl rfl rfl (a_teach h1 h3 (fun D1 c1 c2 => ?_))
  refine x_xld rfl rfl (pk_in (i + 1) Γ.s.2.1 (by omega) (nI_add i 1) (by omega)) ?_
  refine x_xld rfl rfl (pk_in (i + 2) Γ.s.2.1 (by omega) (nI_add i 2) (by omega)) ?_
  refine x_call [xI (lwv Γ i 1), xI (lwv Γ i 2)] rfl rfl rfl rfl rfl rfl rfl (am_teach (RelM_far h2 h3 c2) h3 (fun D2 c3 c4 => ?_))
  have t := t_teach (G := G) (x0 := lwv Γ i 1) (x1 := lwv Γ i 2)
  exact xi_eq rfl rfl (fun _ => x_rows kLt (kk D2 _ ⟨RelC_far c1 c4, c3, g_teach h3, by rw [t.1]; exact h4, by rw [t.2]; exact h5⟩)) (fun q => absurd rfl q)
theorem law_moult (hI : lI D G) (hi : i + 6 ≤ Γ.s.2.1) (hL : Γ.s.2.1 ≤ 384) (kk : ∀ D' G', lI D' G' → xW Γ 40 hL_law rLt 1236 [some (xR 8 0 0), some (xR 0 8 0), some (xR 0 9 111), some (xI (nI i))] [] D' post) : xW Γ 40 hL_law rLc11 467 [some (xR 8 0 0), some (xR 0 8 0), some (xR 0 9 111), some (xI (nI i))] [] D post := by
  obtain ⟨h1, h2, h3, h4, h5⟩ := hI
  refine x_xld rfl rfl (pk_in (i + 1) Γ.s.2.1 (by omega) (nI_add i 1) (by omega)) ?_
  refine x_call [xI (lwv Γ i 1)] rfl rfl rfl rfl rfl rfl rfl (a_moult h1 h3 (fun D1 c1 c2 => ?_))
  refine x_xld rfl rfl (pk_in (i + 1) Γ.s.2.1 (by omega) (nI_add i 1) (by omega)) ?_
  refine x_call [xI (lwv Γ i 1)] rfl rfl rfl rfl rfl rfl rfl (am_moult (RelM_far h2 h3 c2) h3 (fun D2 c3 c4 => ?_))
  have t := t_moult (G := G) (x0 := lwv Γ i 1)
  exact xi_eq rfl rfl (fun _ => x_rows kLt (kk D2 _ ⟨RelC_far c1 c4, c3, g_moult h3, by rw [t.1]; exact h4, by rw [t.2]; exact h5⟩)) (fun q => absurd rfl q)
theorem law_perch (hI : lI D G) (hi : i + 6 ≤ Γ.s.2.1) (hL : Γ.s.2.1 ≤ 384) (kk : ∀ D' G', lI D' G' → xW Γ 40 hL_law rLt 1236 [some (xR 8 0 0), some (xR 0 8 0), some (xR 0 9 111), some (xI (nI i))] [] D' post) : xW Γ 40 hL_law rLc12 490 [some (xR 8 0 0), some (xR 0 8 0), some (xR 0 9 111), some (xI (nI i))] [] D post := by
  obtain ⟨h1, h2, h3, h4, h5⟩ := hI
  refine x_xld rfl rfl (pk_in (i + 1) Γ.s.2.1 (by omega) (nI_add i 1) (by omega)) ?_
  refine x_xld rfl rfl (pk_in (i + 2) Γ.s.2.1 (by omega) (nI_add i 2) (by omega)) ?_
  refine x_call [xI (lwv Γ i 1), xI (lwv Γ i 2)] rfl rfl rfl rfl rfl rfl rfl (a_perch h1 h3 (fun D1 c1 c2 => ?_))
  refine x_xld rfl rfl (pk_in (i + 1) Γ.s.2.1 (by omega) (nI_add i 1) (by omega)) ?_
  refine x_xld rfl rfl (pk_in (i + 2) Γ.s.2.1 (by omega) (nI_add i 2) (by omega)) ?_
  refine x_call [xI (lwv Γ i 1), xI (lwv Γ i 2)] rfl rfl rfl rfl rfl rfl rfl (am_perch (RelM_far h2 h3 c2) h3 (fun D2 c3 c4 => ?_))
  have t := t_perch (G := G) (x0 := lwv Γ i 1) (x1 := lwv Γ i 2)
  exact xi_eq rfl rfl (fun _ => x_rows kLt (kk D2 _ ⟨RelC_far c1 c4, c3, g_perch h3, by rw [t.1]; exact h4, by rw [t.2]; exact h5⟩)) (fun q => absurd rfl q)
theorem law_cover (hI : lI D G) (hi : i + 6 ≤ Γ.s.2.1) (hL : Γ.s.2.1 ≤ 384) (kk : ∀ D' G', lI D' G' → xW Γ 40 hL_law rLt 1236 [some (xR 8 0 0), some (xR 0 8 0), some (xR 0 9 111), some (xI (nI i))] [] D' post) : xW Γ 40 hL_law rLc13 523 [some (xR 8 0 0), some (xR 0 8 0), some (xR 0 9 111), some (xI (nI i))] [] D post := by
  obtain ⟨h1, h2, h3, h4, h5⟩ := hI
  refine x_xld rfl rfl (pk_in (i + 1) Γ.s.2.1 (by omega) (nI_add i 1) (by omega)) ?_
  refine x_call [xI (lwv Γ i 1)] rfl rfl rfl rfl rfl rfl rfl (a_cover h1 h3 (fun D1 c1 c2 => ?_))
  refine x_xld rfl rfl (pk_in (i + 1) Γ.s.2.1 (by omega) (nI_add i 1) (by omega)) ?_
  refine x_call [xI (lwv Γ i 1)] rfl rfl rfl rfl rfl rfl rfl (am_cover (RelM_far h2 h3 c2) h3 (fun D2 c3 c4 => ?_))
  have t := t_cover (G := G) (x0 := lwv Γ i 1)
  exact xi_eq rfl rfl (fun _ => x_rows kLt (kk D2 _ ⟨RelC_far c1 c4, c3, g_cover h3, by rw [t.1]; exact h4, by rw [t.2]; exact h5⟩)) (fun q => absurd rfl q)
theorem law_sit (hI : lI D G) (hi : i + 6 ≤ Γ.s.2.1) (hL : Γ.s.2.1 ≤ 384) (kk : ∀ D' G', lI D' G' → xW Γ 40 hL_law rLt 1236 [some (xR 8 0 0), some (xR 0 8 0), some (xR 0 9 111), some (xI (nI i))] [] D' post) : xW Γ 40 hL_law rLc14 546 [some (xR 8 0 0), some (xR 0 8 0), some (xR 0 9 111), some (xI (nI i))] [] D post := by
  obtain ⟨h1, h2, h3, h4, h5⟩ := hI
  refine x_xld rfl rfl (pk_in (i + 1) Γ.s.2.1 (by omega) (nI_add i 1) (by omega)) ?_
  refine x_xld rfl rfl (pk_in (i + 2) Γ.s.2.1 (by omega) (nI_add i 2) (by omega)) ?_
  refine x_call [xI (lwv Γ i 1), xI (lwv Γ i 2)] rfl rfl rfl rfl rfl rfl rfl (a_sit h1 h3 (fun D1 c1 c2 => ?_))
  refine x_xld rfl rfl (pk_in (i + 1) Γ.s.2.1 (by omega) (nI_add i 1) (by omega)) ?_
  refine x_xld rfl rfl (pk_in (i + 2) Γ.s.2.1 (by omega) (nI_add i 2) (by omega)) ?_
  refine x_call [xI (lwv Γ i 1), xI (lwv Γ i 2)] rfl rfl rfl rfl rfl rfl rfl (am_sit (RelM_far h2 h3 c2) h3 (fun D2 c3 c4 => ?_))
  have t := t_sit (G := G) (x0 := lwv Γ i 1) (x1 := lwv Γ i 2)
  exact xi_eq rfl rfl (fun _ => x_rows kLt (kk D2 _ ⟨RelC_far c1 c4, c3, g_sit h3, by rw [t.1]; exact h4, by rw [t.2]; exact h5⟩)) (fun q => absurd rfl q)
theorem law_undo (hI : lI D G) (hi : i + 6 ≤ Γ.s.2.1) (hL : Γ.s.2.1 ≤ 384) (kk : ∀ D' G', lI D' G' → xW Γ 40 hL_law rLt 1236 [some (xR 8 0 0), some (xR 0 8 0), some (xR 0 9 111), some (xI (nI i))] [] D' post) : xW Γ 40 hL_law rLc15 579 [some (xR 8 0 0), some (xR 0 8 0), some (xR 0 9 111), some (xI (nI i))] [] D post := by
  obtain ⟨h1, h2, h3, h4, h5⟩ := hI
  refine x_call [] rfl rfl rfl rfl rfl rfl rfl (a_undo h1 h3 (fun D1 c1 c2 => ?_))
  refine x_call [] rfl rfl rfl rfl rfl rfl rfl (am_undo (RelM_far h2 h3 c2) h3 (fun D2 c3 c4 => ?_))
  have t := t_undo (G := G) 
  exact xi_eq rfl rfl (fun _ => x_rows kLt (kk D2 _ ⟨RelC_far c1 c4, c3, g_undo h3, by rw [t.1]; exact h4, by rw [t.2]; exact h5⟩)) (fun q => absurd rfl q)
theorem law_keep (hI : lI D G) (hi : i + 6 ≤ Γ.s.2.1) (hL : Γ.s.2.1 ≤ 384) (kk : ∀ D' G', lI D' G' → xW Γ 40 hL_law rLt 1236 [some (xR 8 0 0), some (xR 0 8 0), some (xR 0 9 111), some (xI (nI i))] [] D' post) : xW Γ 40 hL_law rLc16 592 [some (xR 8 0 0), some (xR 0 8 0), some (xR 0 9 111), some (xI (nI i))] [] D post := by
  obtain ⟨h1, h2, h3, h4, h5⟩ := hI
  refine x_xld rfl rfl (pk_in (i + 1) Γ.s.2.1 (by omega) (nI_add i 1) (by omega)) ?_
  refine x_call [xI (lwv Γ i 1)] rfl rfl rfl rfl rfl rfl rfl (a_keep h1 h3 (fun D1 c1 c2 => ?_))
  refine x_xld rfl rfl (pk_in (i + 1) Γ.s.2.1 (by omega) (nI_add i 1) (by omega)) ?_
  refine x_call [xI (lwv Γ i 1)] rfl rfl rfl rfl rfl rfl rfl (am_keep (RelM_far h2 h3 c2) h3 (fun D2 c3 c4 => ?_))
  have t := t_keep (G := G) (x0 := lwv Γ i 1)
  exact xi_eq rfl rfl (fun _ => x_rows kLt (kk D2 _ ⟨RelC_far c1 c4, c3, g_keep h3, by rw [t.1]; exact h4, by rw [t.2]; exact h5⟩)) (fun q => absurd rfl q)
theorem law_back (hI : lI D G) (hi : i + 6 ≤ Γ.s.2.1) (hL : Γ.s.2.1 ≤ 384) (kk : ∀ D' G', lI D' G' → xW Γ 40 hL_law rLt 1236 [some (xR 8 0 0), some (xR 0 8 0), some (xR 0 9 111), some (xI (nI i))] [] D' post) : xW Γ 40 hL_law rLc17 615 [some (xR 8 0 0), some (xR 0 8 0), some (xR 0 9 111), some (xI (nI i))] [] D post := by
  obtain ⟨h1, h2, h3, h4, h5⟩ := hI
  refine x_xld rfl rfl (pk_in (i + 1) Γ.s.2.1 (by omega) (nI_add i 1) (by omega)) ?_
  refine x_call [xI (lwv Γ i 1)] rfl rfl rfl rfl rfl rfl rfl (a_back h1 h3 (fun D1 c1 c2 => ?_))
  refine x_xld rfl rfl (pk_in (i + 1) Γ.s.2.1 (by omega) (nI_add i 1) (by omega)) ?_
  refine x_call [xI (lwv Γ i 1)] rfl rfl rfl rfl rfl rfl rfl (am_back (RelM_far h2 h3 c2) h3 (fun D2 c3 c4 => ?_))
  have t := t_back (G := G) (x0 := lwv Γ i 1)
  exact xi_eq rfl rfl (fun _ => x_rows kLt (kk D2 _ ⟨RelC_far c1 c4, c3, g_back h3, by rw [t.1]; exact h4, by rw [t.2]; exact h5⟩)) (fun q => absurd rfl q)
theorem law_said (hI : lI D G) (hi : i + 6 ≤ Γ.s.2.1) (hL : Γ.s.2.1 ≤ 384) (kk : ∀ D' G', lI D' G' → xW Γ 40 hL_law rLt 1236 [some (xR 8 0 0), some (xR 0 8 0), some (xR 0 9 111), some (xI (nI i))] [] D' post) : xW Γ 40 hL_law rLc18 638 [some (xR 8 0 0), some (xR 0 8 0), some (xR 0 9 111), some (xI (nI i))] [] D post := by
  obtain ⟨h1, h2, h3, h4, h5⟩ := hI
  refine x_xld rfl rfl (pk_in (i + 1) Γ.s.2.1 (by omega) (nI_add i 1) (by omega)) ?_
  refine x_xld rfl rfl (pk_in (i + 2) Γ.s.2.1 (by omega) (nI_add i 2) (by omega)) ?_
  refine x_call [xI (lwv Γ i 1), xI (lwv Γ i 2)] rfl rfl rfl rfl rfl rfl rfl (a_said h1 h3 (fun D1 c1 c2 => ?_))
  refine x_xld rfl rfl (pk_in (i + 1) Γ.s.2.1 (by omega) (nI_add i 1) (by omega)) ?_
  refine x_xld rfl rfl (pk_in (i + 2) Γ.s.2.1 (by omega) (nI_add i 2) (by omega)) ?_
  refine x_call [xI (lwv Γ i 1), xI (lwv Γ i 2)] rfl rfl rfl rfl rfl rfl rfl (am_said (RelM_far h2 h3 c2) h3 (fun D2 c3 c4 => ?_))
  exact xi_eq rfl rfl (fun _ => x_rows kLt (kk D2 G ⟨RelC_far c1 c4, c3, h3, h4, h5⟩)) (fun q => absurd rfl q)
theorem law_when (hI : lI D G) (hi : i + 6 ≤ Γ.s.2.1) (hL : Γ.s.2.1 ≤ 384) (kk : ∀ D' G', lI D' G' → xW Γ 40 hL_law rLt 1236 [some (xR 8 0 0), some (xR 0 8 0), some (xR 0 9 111), some (xI (nI i))] [] D' post) : xW Γ 40 hL_law rLc19 671 [some (xR 8 0 0), some (xR 0 8 0), some (xR 0 9 111), some (xI (nI i))] [] D post := by
  obtain ⟨h1, h2, h3, h4, h5⟩ := hI
  refine x_xld rfl rfl (pk_in (i + 1) Γ.s.2.1 (by omega) (nI_add i 1) (by omega)) ?_
  refine x_xld rfl rfl (pk_in (i + 2) Γ.s.2.1 (by omega) (nI_add i 2) (by omega)) ?_
  refine x_xld rfl rfl (pk_in (i + 3) Γ.s.2.1 (by omega) (nI_add i 3) (by omega)) ?_
  refine x_call [xI (lwv Γ i 1), xI (lwv Γ i 2), xI (lwv Γ i 3)] rfl rfl rfl rfl rfl rfl rfl (a_when h1 h3 (fun D1 c1 c2 => ?_))
  refine x_xld rfl rfl (pk_in (i + 1) Γ.s.2.1 (by omega) (nI_add i 1) (by omega)) ?_
  refine x_xld rfl rfl (pk_in (i + 2) Γ.s.2.1 (by omega) (nI_add i 2) (by omega)) ?_
  refine x_xld rfl rfl (pk_in (i + 3) Γ.s.2.1 (by omega) (nI_add i 3) (by omega)) ?_
  refine x_call [xI (lwv Γ i 1), xI (lwv Γ i 2), xI (lwv Γ i 3)] rfl rfl rfl rfl rfl rfl rfl (am_when (RelM_far h2 h3 c2) h3 (fun D2 c3 c4 => ?_))
  exact xi_eq rfl rfl (fun _ => x_rows kLt (kk D2 G ⟨RelC_far c1 c4, c3, h3, h4, h5⟩)) (fun q => absurd rfl q)
theorem law_keeps (hI : lI D G) (hi : i + 6 ≤ Γ.s.2.1) (hL : Γ.s.2.1 ≤ 384) (kk : ∀ D' G', lI D' G' → xW Γ 40 hL_law rLt 1236 [some (xR 8 0 0), some (xR 0 8 0), some (xR 0 9 111), some (xI (nI i))] [] D' post) : xW Γ 40 hL_law rLc20 714 [some (xR 8 0 0), some (xR 0 8 0), some (xR 0 9 111), some (xI (nI i))] [] D post := by
  obtain ⟨h1, h2, h3, h4, h5⟩ := hI
  refine x_xld rfl rfl (pk_in (i + 1) Γ.s.2.1 (by omega) (nI_add i 1) (by omega)) ?_
  refine x_xld rfl rfl (pk_in (i + 2) Γ.s.2.1 (by omega) (nI_add i 2) (by omega)) ?_
  refine x_xld rfl rfl (pk_in (i + 3) Γ.s.2.1 (by omega) (nI_add i 3) (by omega)) ?_
  refine x_call [xI (lwv Γ i 1), xI (lwv Γ i 2), xI (lwv Γ i 3)] rfl rfl rfl rfl rfl rfl rfl (a_keeps h1 h3 (fun D1 c1 c2 => ?_))
  refine x_xld rfl rfl (pk_in (i + 1) Γ.s.2.1 (by omega) (nI_add i 1) (by omega)) ?_
  refine x_xld rfl rfl (pk_in (i + 2) Γ.s.2.1 (by omega) (nI_add i 2) (by omega)) ?_
  refine x_xld rfl rfl (pk_in (i + 3) Γ.s.2.1 (by omega) (nI_add i 3) (by omega)) ?_
  refine x_call [xI (lwv Γ i 1), xI (lwv Γ i 2), xI (lwv Γ i 3)] rfl rfl rfl rfl rfl rfl rfl (am_keeps (RelM_far h2 h3 c2) h3 (fun D2 c3 c4 => ?_))
  exact xi_eq rfl rfl (fun _ => x_rows kLt (kk D2 G ⟨RelC_far c1 c4, c3, h3, h4, h5⟩)) (fun q => absurd rfl q)
theorem law_match (hI : lI D G) (hi : i + 6 ≤ Γ.s.2.1) (hL : Γ.s.2.1 ≤ 384) (kk : ∀ D' G', lI D' G' → xW Γ 40 hL_law rLt 1236 [some (xR 8 0 0), some (xR 0 8 0), some (xR 0 9 111), some (xI (nI i))] [] D' post) : xW Γ 40 hL_law rLc21 757 [some (xR 8 0 0), some (xR 0 8 0), some (xR 0 9 111), some (xI (nI i))] [] D post := by
  obtain ⟨h1, h2, h3, h4, h5⟩ := hI
  refine x_xld rfl rfl (pk_in (i + 1) Γ.s.2.1 (by omega) (nI_add i 1) (by omega)) ?_
  refine x_xld rfl rfl (pk_in (i + 2) Γ.s.2.1 (by omega) (nI_add i 2) (by omega)) ?_
  refine x_call [xI (lwv Γ i 1), xI (lwv Γ i 2)] rfl rfl rfl rfl rfl rfl rfl (a_match h1 h3 (fun D1 c1 c2 => ?_))
  refine x_xld rfl rfl (pk_in (i + 1) Γ.s.2.1 (by omega) (nI_add i 1) (by omega)) ?_
  refine x_xld rfl rfl (pk_in (i + 2) Γ.s.2.1 (by omega) (nI_add i 2) (by omega)) ?_
  refine x_call [xI (lwv Γ i 1), xI (lwv Γ i 2)] rfl rfl rfl rfl rfl rfl rfl (am_match (RelM_far h2 h3 c2) h3 (fun D2 c3 c4 => ?_))
  exact xi_eq rfl rfl (fun _ => x_rows kLt (kk D2 G ⟨RelC_far c1 c4, c3, h3, h4, h5⟩)) (fun q => absurd rfl q)
theorem law_clean (hI : lI D G) (hi : i + 6 ≤ Γ.s.2.1) (hL : Γ.s.2.1 ≤ 384) (kk : ∀ D' G', lI D' G' → xW Γ 40 hL_law rLt 1236 [some (xR 8 0 0), some (xR 0 8 0), some (xR 0 9 111), some (xI (nI i))] [] D' post) : xW Γ 40 hL_law rLc22 790 [some (xR 8 0 0), some (xR 0 8 0), some (xR 0 9 111), some (xI (nI i))] [] D post := by
  obtain ⟨h1, h2, h3, h4, h5⟩ := hI
  refine x_xld rfl rfl (pk_in (i + 1) Γ.s.2.1 (by omega) (nI_add i 1) (by omega)) ?_
  refine x_xld rfl rfl (pk_in (i + 2) Γ.s.2.1 (by omega) (nI_add i 2) (by omega)) ?_
  refine x_xld rfl rfl (pk_in (i + 3) Γ.s.2.1 (by omega) (nI_add i 3) (by omega)) ?_
  refine x_call [xI (lwv Γ i 1), xI (lwv Γ i 2), xI (lwv Γ i 3)] rfl rfl rfl rfl rfl rfl rfl (a_clean h1 h3 (fun D1 c1 c2 => ?_))
  refine x_xld rfl rfl (pk_in (i + 1) Γ.s.2.1 (by omega) (nI_add i 1) (by omega)) ?_
  refine x_xld rfl rfl (pk_in (i + 2) Γ.s.2.1 (by omega) (nI_add i 2) (by omega)) ?_
  refine x_xld rfl rfl (pk_in (i + 3) Γ.s.2.1 (by omega) (nI_add i 3) (by omega)) ?_
  refine x_call [xI (lwv Γ i 1), xI (lwv Γ i 2), xI (lwv Γ i 3)] rfl rfl rfl rfl rfl rfl rfl (am_clean (RelM_far h2 h3 c2) h3 (fun D2 c3 c4 => ?_))
  exact xi_eq rfl rfl (fun _ => x_rows kLt (kk D2 G ⟨RelC_far c1 c4, c3, h3, h4, h5⟩)) (fun q => absurd rfl q)
theorem law_of (hI : lI D G) (hi : i + 6 ≤ Γ.s.2.1) (hL : Γ.s.2.1 ≤ 384) (kk : ∀ D' G', lI D' G' → xW Γ 40 hL_law rLt 1236 [some (xR 8 0 0), some (xR 0 8 0), some (xR 0 9 111), some (xI (nI i))] [] D' post) : xW Γ 40 hL_law rLc23 833 [some (xR 8 0 0), some (xR 0 8 0), some (xR 0 9 111), some (xI (nI i))] [] D post := by
  obtain ⟨h1, h2, h3, h4, h5⟩ := hI
  refine x_xld rfl rfl (pk_in (i + 1) Γ.s.2.1 (by omega) (nI_add i 1) (by omega)) ?_
  refine x_xld rfl rfl (pk_in (i + 2) Γ.s.2.1 (by omega) (nI_add i 2) (by omega)) ?_
  refine x_call [xI (lwv Γ i 1), xI (lwv Γ i 2)] rfl rfl rfl rfl rfl rfl rfl (a_of h1 h3 h5 (fun D1 c1 c2 => ?_))
  refine x_xld rfl rfl (pk_in (i + 1) Γ.s.2.1 (by omega) (nI_add i 1) (by omega)) ?_
  refine x_xld rfl rfl (pk_in (i + 2) Γ.s.2.1 (by omega) (nI_add i 2) (by omega)) ?_
  refine x_call [xI (lwv Γ i 1), xI (lwv Γ i 2)] rfl rfl rfl rfl rfl rfl rfl (am_of (RelM_far h2 h3 c2) h3 h5 (fun D2 c3 c4 => ?_))
  exact xi_eq rfl rfl (fun _ => x_rows kLt (kk D2 G ⟨RelC_far c1 c4, c3, h3, h4, h5⟩)) (fun q => absurd rfl q)
theorem law_left (hI : lI D G) (hi : i + 6 ≤ Γ.s.2.1) (hL : Γ.s.2.1 ≤ 384) (kk : ∀ D' G', lI D' G' → xW Γ 40 hL_law rLt 1236 [some (xR 8 0 0), some (xR 0 8 0), some (xR 0 9 111), some (xI (nI i))] [] D' post) : xW Γ 40 hL_law rLc24 866 [some (xR 8 0 0), some (xR 0 8 0), some (xR 0 9 111), some (xI (nI i))] [] D post := by
  obtain ⟨h1, h2, h3, h4, h5⟩ := hI
  refine x_xld rfl rfl (pk_in (i + 1) Γ.s.2.1 (by omega) (nI_add i 1) (by omega)) ?_
  refine x_xld rfl rfl (pk_in (i + 2) Γ.s.2.1 (by omega) (nI_add i 2) (by omega)) ?_
  refine x_xld rfl rfl (pk_in (i + 3) Γ.s.2.1 (by omega) (nI_add i 3) (by omega)) ?_
  refine x_call [xI (lwv Γ i 1), xI (lwv Γ i 2), xI (lwv Γ i 3)] rfl rfl rfl rfl rfl rfl rfl (a_left h1 h3 ?_)
  refine x_xld rfl rfl (pk_in (i + 1) Γ.s.2.1 (by omega) (nI_add i 1) (by omega)) ?_
  refine x_xld rfl rfl (pk_in (i + 2) Γ.s.2.1 (by omega) (nI_add i 2) (by omega)) ?_
  refine x_xld rfl rfl (pk_in (i + 3) Γ.s.2.1 (by omega) (nI_add i 3) (by omega)) ?_
  refine x_call [xI (lwv Γ i 1), xI (lwv Γ i 2), xI (lwv Γ i 3)] rfl rfl rfl rfl rfl rfl rfl (am_left h2 h3 ?_)
  exact xi_eq rfl rfl (fun _ => x_rows kLt (kk D G ⟨h1, h2, h3, h4, h5⟩)) (fun q => absurd rfl q)
theorem law_seen (hI : lI D G) (hi : i + 6 ≤ Γ.s.2.1) (hL : Γ.s.2.1 ≤ 384) (kk : ∀ D' G', lI D' G' → xW Γ 40 hL_law rLt 1236 [some (xR 8 0 0), some (xR 0 8 0), some (xR 0 9 111), some (xI (nI i))] [] D' post) : xW Γ 40 hL_law rLc25 909 [some (xR 8 0 0), some (xR 0 8 0), some (xR 0 9 111), some (xI (nI i))] [] D post := by
  obtain ⟨h1, h2, h3, h4, h5⟩ := hI
  refine x_xld rfl rfl (pk_in (i + 1) Γ.s.2.1 (by omega) (nI_add i 1) (by omega)) ?_
  refine x_xld rfl rfl (pk_in (i + 2) Γ.s.2.1 (by omega) (nI_add i 2) (by omega)) ?_
  refine x_xld rfl rfl (pk_in (i + 3) Γ.s.2.1 (by omega) (nI_add i 3) (by omega)) ?_
  refine x_call [xI (lwv Γ i 1), xI (lwv Γ i 2), xI (lwv Γ i 3)] rfl rfl rfl rfl rfl rfl rfl (a_seen h1 h3 (fun D1 c1 c2 => ?_))
  refine x_xld rfl rfl (pk_in (i + 1) Γ.s.2.1 (by omega) (nI_add i 1) (by omega)) ?_
  refine x_xld rfl rfl (pk_in (i + 2) Γ.s.2.1 (by omega) (nI_add i 2) (by omega)) ?_
  refine x_xld rfl rfl (pk_in (i + 3) Γ.s.2.1 (by omega) (nI_add i 3) (by omega)) ?_
  refine x_call [xI (lwv Γ i 1), xI (lwv Γ i 2), xI (lwv Γ i 3)] rfl rfl rfl rfl rfl rfl rfl (am_seen (RelM_far h2 h3 c2) h3 (fun D2 c3 c4 => ?_))
  have t := t_seen (G := G) (x0 := lwv Γ i 1) (x1 := lwv Γ i 2) (x2 := lwv Γ i 3)
  exact xi_eq rfl rfl (fun _ => x_rows kLt (kk D2 _ ⟨RelC_far c1 c4, c3, g_seen h3, by rw [t.1]; exact h4, by rw [t.2]; exact h5⟩)) (fun q => absurd rfl q)
theorem law_forget (hI : lI D G) (hi : i + 6 ≤ Γ.s.2.1) (hL : Γ.s.2.1 ≤ 384) (kk : ∀ D' G', lI D' G' → xW Γ 40 hL_law rLt 1236 [some (xR 8 0 0), some (xR 0 8 0), some (xR 0 9 111), some (xI (nI i))] [] D' post) : xW Γ 40 hL_law rLc26 952 [some (xR 8 0 0), some (xR 0 8 0), some (xR 0 9 111), some (xI (nI i))] [] D post := by
  obtain ⟨h1, h2, h3, h4, h5⟩ := hI
  refine x_call [] rfl rfl rfl rfl rfl rfl rfl (a_forget h1 h3 (fun D1 c1 c2 => ?_))
  refine x_call [] rfl rfl rfl rfl rfl rfl rfl (am_forget (RelM_far h2 h3 c2) h3 (fun D2 c3 c4 => ?_))
  have t := t_forget (G := G) 
  exact xi_eq rfl rfl (fun _ => x_rows kLt (kk D2 _ ⟨RelC_far c1 c4, c3, g_forget h3, by rw [t.1]; exact h4, by rw [t.2]; exact h5⟩)) (fun q => absurd rfl q)
theorem law_kinds (hI : lI D G) (hi : i + 6 ≤ Γ.s.2.1) (hL : Γ.s.2.1 ≤ 384) (kk : ∀ D' G', lI D' G' → xW Γ 40 hL_law rLt 1236 [some (xR 8 0 0), some (xR 0 8 0), some (xR 0 9 111), some (xI (nI i))] [] D' post) : xW Γ 40 hL_law rLc27 965 [some (xR 8 0 0), some (xR 0 8 0), some (xR 0 9 111), some (xI (nI i))] [] D post := by
  obtain ⟨h1, h2, h3, h4, h5⟩ := hI
  refine x_xld rfl rfl (pk_in (i + 1) Γ.s.2.1 (by omega) (nI_add i 1) (by omega)) ?_
  refine x_call [xI (lwv Γ i 1)] rfl rfl rfl rfl rfl rfl rfl (a_kinds h1 h3 (fun D1 c1 c2 => ?_))
  refine x_xld rfl rfl (pk_in (i + 1) Γ.s.2.1 (by omega) (nI_add i 1) (by omega)) ?_
  refine x_call [xI (lwv Γ i 1)] rfl rfl rfl rfl rfl rfl rfl (am_kinds (RelM_far h2 h3 c2) h3 (fun D2 c3 c4 => ?_))
  exact xi_eq rfl rfl (fun _ => x_rows kLt (kk D2 G ⟨RelC_far c1 c4, c3, h3, h4, h5⟩)) (fun q => absurd rfl q)
theorem law_reel (hI : lI D G) (hi : i + 6 ≤ Γ.s.2.1) (hL : Γ.s.2.1 ≤ 384) (kk : ∀ D' G', lI D' G' → xW Γ 40 hL_law rLt 1236 [some (xR 8 0 0), some (xR 0 8 0), some (xR 0 9 111), some (xI (nI i))] [] D' post) : xW Γ 40 hL_law rLc28 988 [some (xR 8 0 0), some (xR 0 8 0), some (xR 0 9 111), some (xI (nI i))] [] D post := by
  obtain ⟨h1, h2, h3, h4, h5⟩ := hI
  refine x_xld rfl rfl (pk_in (i + 1) Γ.s.2.1 (by omega) (nI_add i 1) (by omega)) ?_
  refine x_xld rfl rfl (pk_in (i + 2) Γ.s.2.1 (by omega) (nI_add i 2) (by omega)) ?_
  refine x_xld rfl rfl (pk_in (i + 3) Γ.s.2.1 (by omega) (nI_add i 3) (by omega)) ?_
  refine x_call [xI (lwv Γ i 1), xI (lwv Γ i 2), xI (lwv Γ i 3)] rfl rfl rfl rfl rfl rfl rfl (a_reel h1 h3 (fun D1 c1 c2 => ?_))
  refine x_xld rfl rfl (pk_in (i + 1) Γ.s.2.1 (by omega) (nI_add i 1) (by omega)) ?_
  refine x_xld rfl rfl (pk_in (i + 2) Γ.s.2.1 (by omega) (nI_add i 2) (by omega)) ?_
  refine x_xld rfl rfl (pk_in (i + 3) Γ.s.2.1 (by omega) (nI_add i 3) (by omega)) ?_
  refine x_call [xI (lwv Γ i 1), xI (lwv Γ i 2), xI (lwv Γ i 3)] rfl rfl rfl rfl rfl rfl rfl (am_reel (RelM_far h2 h3 c2) h3 (fun D2 c3 c4 => ?_))
  have t := t_reel (G := G) (x0 := lwv Γ i 1) (x1 := lwv Γ i 2) (x2 := lwv Γ i 3)
  exact xi_eq rfl rfl (fun _ => x_rows kLt (kk D2 _ ⟨RelC_far c1 c4, c3, g_reel h3, by rw [t.1]; exact h4, by rw [t.2]; exact h5⟩)) (fun q => absurd rfl q)
theorem law_record (hI : lI D G) (hi : i + 6 ≤ Γ.s.2.1) (hL : Γ.s.2.1 ≤ 384) (kk : ∀ D' G', lI D' G' → xW Γ 40 hL_law rLt 1236 [some (xR 8 0 0), some (xR 0 8 0), some (xR 0 9 111), some (xI (nI i))] [] D' post) : xW Γ 40 hL_law rLc29 1031 [some (xR 8 0 0), some (xR 0 8 0), some (xR 0 9 111), some (xI (nI i))] [] D post := by
  obtain ⟨h1, h2, h3, h4, h5⟩ := hI
  refine x_xld rfl rfl (pk_in (i + 1) Γ.s.2.1 (by omega) (nI_add i 1) (by omega)) ?_
  refine x_xld rfl rfl (pk_in (i + 2) Γ.s.2.1 (by omega) (nI_add i 2) (by omega)) ?_
  refine x_xld rfl rfl (pk_in (i + 3) Γ.s.2.1 (by omega) (nI_add i 3) (by omega)) ?_
  refine x_xld rfl rfl (pk_in (i + 4) Γ.s.2.1 (by omega) (nI_add i 4) (by omega)) ?_
  refine x_call [xI (lwv Γ i 1), xI (lwv Γ i 2), xI (lwv Γ i 3), xI (lwv Γ i 4)] rfl rfl rfl rfl rfl rfl rfl (a_record h1 h3 (fun D1 c1 c2 => ?_))
  refine x_xld rfl rfl (pk_in (i + 1) Γ.s.2.1 (by omega) (nI_add i 1) (by omega)) ?_
  refine x_xld rfl rfl (pk_in (i + 2) Γ.s.2.1 (by omega) (nI_add i 2) (by omega)) ?_
  refine x_xld rfl rfl (pk_in (i + 3) Γ.s.2.1 (by omega) (nI_add i 3) (by omega)) ?_
  refine x_xld rfl rfl (pk_in (i + 4) Γ.s.2.1 (by omega) (nI_add i 4) (by omega)) ?_
  refine x_call [xI (lwv Γ i 1), xI (lwv Γ i 2), xI (lwv Γ i 3), xI (lwv Γ i 4)] rfl rfl rfl rfl rfl rfl rfl (am_record (RelM_far h2 h3 c2) h3 (fun D2 c3 c4 => ?_))
  have t := t_record (G := G) (x0 := lwv Γ i 1) (x1 := lwv Γ i 2) (x2 := lwv Γ i 3) (x3 := lwv Γ i 4)
  exact xi_eq rfl rfl (fun _ => x_rows kLt (kk D2 _ ⟨RelC_far c1 c4, c3, g_record h3, by rw [t.1]; exact h4, by rw [t.2]; exact h5⟩)) (fun q => absurd rfl q)
theorem law_play (hI : lI D G) (hi : i + 6 ≤ Γ.s.2.1) (hL : Γ.s.2.1 ≤ 384) (kk : ∀ D' G', lI D' G' → xW Γ 40 hL_law rLt 1236 [some (xR 8 0 0), some (xR 0 8 0), some (xR 0 9 111), some (xI (nI i))] [] D' post) : xW Γ 40 hL_law rLc30 1084 [some (xR 8 0 0), some (xR 0 8 0), some (xR 0 9 111), some (xI (nI i))] [] D post := by
  obtain ⟨h1, h2, h3, h4, h5⟩ := hI
  refine x_xld rfl rfl (pk_in (i + 1) Γ.s.2.1 (by omega) (nI_add i 1) (by omega)) ?_
  refine x_xld rfl rfl (pk_in (i + 2) Γ.s.2.1 (by omega) (nI_add i 2) (by omega)) ?_
  refine x_xld rfl rfl (pk_in (i + 3) Γ.s.2.1 (by omega) (nI_add i 3) (by omega)) ?_
  refine x_call [xI (lwv Γ i 1), xI (lwv Γ i 2), xI (lwv Γ i 3)] rfl rfl rfl rfl rfl rfl rfl (a_play h1 h3 ?_)
  refine x_xld rfl rfl (pk_in (i + 1) Γ.s.2.1 (by omega) (nI_add i 1) (by omega)) ?_
  refine x_xld rfl rfl (pk_in (i + 2) Γ.s.2.1 (by omega) (nI_add i 2) (by omega)) ?_
  refine x_xld rfl rfl (pk_in (i + 3) Γ.s.2.1 (by omega) (nI_add i 3) (by omega)) ?_
  refine x_call [xI (lwv Γ i 1), xI (lwv Γ i 2), xI (lwv Γ i 3)] rfl rfl rfl rfl rfl rfl rfl (am_play h2 h3 ?_)
  exact xi_eq rfl rfl (fun _ => x_rows kLt (kk D G ⟨h1, h2, h3, h4, h5⟩)) (fun q => absurd rfl q)
theorem law_splice (hI : lI D G) (hi : i + 6 ≤ Γ.s.2.1) (hL : Γ.s.2.1 ≤ 384) (kk : ∀ D' G', lI D' G' → xW Γ 40 hL_law rLt 1236 [some (xR 8 0 0), some (xR 0 8 0), some (xR 0 9 111), some (xI (nI i))] [] D' post) : xW Γ 40 hL_law rLc31 1127 [some (xR 8 0 0), some (xR 0 8 0), some (xR 0 9 111), some (xI (nI i))] [] D post := by
  obtain ⟨h1, h2, h3, h4, h5⟩ := hI
  refine x_xld rfl rfl (pk_in (i + 1) Γ.s.2.1 (by omega) (nI_add i 1) (by omega)) ?_
  refine x_xld rfl rfl (pk_in (i + 2) Γ.s.2.1 (by omega) (nI_add i 2) (by omega)) ?_
  refine x_xld rfl rfl (pk_in (i + 3) Γ.s.2.1 (by omega) (nI_add i 3) (by omega)) ?_
  refine x_xld rfl rfl (pk_in (i + 4) Γ.s.2.1 (by omega) (nI_add i 4) (by omega)) ?_
  refine x_xld rfl rfl (pk_in (i + 5) Γ.s.2.1 (by omega) (nI_add i 5) (by omega)) ?_
  refine x_call [xI (lwv Γ i 1), xI (lwv Γ i 2), xI (lwv Γ i 3), xI (lwv Γ i 4), xI (lwv Γ i 5)] rfl rfl rfl rfl rfl rfl rfl (a_splice h1 h3 (fun D1 c1 c2 => ?_))
  refine x_xld rfl rfl (pk_in (i + 1) Γ.s.2.1 (by omega) (nI_add i 1) (by omega)) ?_
  refine x_xld rfl rfl (pk_in (i + 2) Γ.s.2.1 (by omega) (nI_add i 2) (by omega)) ?_
  refine x_xld rfl rfl (pk_in (i + 3) Γ.s.2.1 (by omega) (nI_add i 3) (by omega)) ?_
  refine x_xld rfl rfl (pk_in (i + 4) Γ.s.2.1 (by omega) (nI_add i 4) (by omega)) ?_
  refine x_xld rfl rfl (pk_in (i + 5) Γ.s.2.1 (by omega) (nI_add i 5) (by omega)) ?_
  refine x_call [xI (lwv Γ i 1), xI (lwv Γ i 2), xI (lwv Γ i 3), xI (lwv Γ i 4), xI (lwv Γ i 5)] rfl rfl rfl rfl rfl rfl rfl (am_splice (RelM_far h2 h3 c2) h3 (fun D2 c3 c4 => ?_))
  have t := t_splice (G := G) (x0 := lwv Γ i 1) (x1 := lwv Γ i 2) (x2 := lwv Γ i 3) (x3 := lwv Γ i 4) (x4 := lwv Γ i 5)
  exact xi_eq rfl rfl (fun _ => x_rows kLt (kk D2 _ ⟨RelC_far c1 c4, c3, g_splice h3, by rw [t.1]; exact h4, by rw [t.2]; exact h5⟩)) (fun q => absurd rfl q)
theorem law_drop (hI : lI D G) (hi : i + 6 ≤ Γ.s.2.1) (hL : Γ.s.2.1 ≤ 384) (kk : ∀ D' G', lI D' G' → xW Γ 40 hL_law rLt 1236 [some (xR 8 0 0), some (xR 0 8 0), some (xR 0 9 111), some (xI (nI i))] [] D' post) : xW Γ 40 hL_law rLc32 1190 [some (xR 8 0 0), some (xR 0 8 0), some (xR 0 9 111), some (xI (nI i))] [] D post := by
  obtain ⟨h1, h2, h3, h4, h5⟩ := hI
  refine x_xld rfl rfl (pk_in (i + 1) Γ.s.2.1 (by omega) (nI_add i 1) (by omega)) ?_
  refine x_call [xI (lwv Γ i 1)] rfl rfl rfl rfl rfl rfl rfl (a_drop h1 h3 (fun D1 c1 c2 => ?_))
  refine x_xld rfl rfl (pk_in (i + 1) Γ.s.2.1 (by omega) (nI_add i 1) (by omega)) ?_
  refine x_call [xI (lwv Γ i 1)] rfl rfl rfl rfl rfl rfl rfl (am_drop (RelM_far h2 h3 c2) h3 (fun D2 c3 c4 => ?_))
  have t := t_drop (G := G) (x0 := lwv Γ i 1)
  exact xi_eq rfl rfl (fun _ => x_rows kLt (kk D2 _ ⟨RelC_far c1 c4, c3, g_drop h3, by rw [t.1]; exact h4, by rw [t.2]; exact h5⟩)) (fun q => absurd rfl q)
theorem law_count (hI : lI D G) (hi : i + 6 ≤ Γ.s.2.1) (hL : Γ.s.2.1 ≤ 384) (kk : ∀ D' G', lI D' G' → xW Γ 40 hL_law rLt 1236 [some (xR 8 0 0), some (xR 0 8 0), some (xR 0 9 111), some (xI (nI i))] [] D' post) : xW Γ 40 hL_law rLc33 1213 [some (xR 8 0 0), some (xR 0 8 0), some (xR 0 9 111), some (xI (nI i))] [] D post := by
  obtain ⟨h1, h2, h3, h4, h5⟩ := hI
  refine x_xld rfl rfl (pk_in (i + 1) Γ.s.2.1 (by omega) (nI_add i 1) (by omega)) ?_
  refine x_call [xI (lwv Γ i 1)] rfl rfl rfl rfl rfl rfl rfl (a_count h1 h3 ?_)
  refine x_xld rfl rfl (pk_in (i + 1) Γ.s.2.1 (by omega) (nI_add i 1) (by omega)) ?_
  refine x_call [xI (lwv Γ i 1)] rfl rfl rfl rfl rfl rfl rfl (am_count h2 h3 ?_)
  exact xi_eq rfl rfl (fun _ => x_rows kLt (kk D G ⟨h1, h2, h3, h4, h5⟩)) (fun q => absurd rfl q)
end LW
section LW2
variable {Γ : xG} {post : Option Int32 → xM → Prop}
theorem law_loop (hL : Γ.s.2.1 ≤ 384) (hp : ∀ D, post (some 1) D) : ∀ g i D G, Γ.s.2.1 + 6 ≤ i + 6 * g → i ≤ 2000 → lI D G → xW Γ 40 hL_law rLt 18 [some (xR 8 0 0), some (xR 0 8 0), some (xR 0 9 111), some (xI (nI i))] [] D post
  | 0, i, D, G, hg, hi, hI => by
    refine x_xln rfl rfl ?_
    refine xi_gt rfl rfl (fun _ => x_ret rfl rfl rfl rfl (hp D)) (fun q => ?_)
    have e : (nI Γ.s.2.1 - nI 6).toInt = (Γ.s.2.1 : Int) - 6 := pk_sub_toInt (by omega) (by omega)
    have q : ¬ (nI Γ.s.2.1 - nI 6) < nI i := q
    rw [Int32.lt_iff_toInt_lt, e, nI_toInt (by omega)] at q
    exfalso
    omega
  | g + 1, i, D, G, hg, hi, hI => by
    refine x_xln rfl rfl ?_
    refine xi_gt rfl rfl (fun _ => x_ret rfl rfl rfl rfl (hp D)) (fun q => ?_)
    have e : (nI Γ.s.2.1 - nI 6).toInt = (Γ.s.2.1 : Int) - 6 := pk_sub_toInt (by omega) (by omega)
    have q : ¬ (nI Γ.s.2.1 - nI 6) < nI i := q
    rw [Int32.lt_iff_toInt_lt, e, nI_toInt (by omega)] at q
    have hi6 : i + 6 ≤ Γ.s.2.1 := by omega
    have kk : ∀ D' G', lI D' G' → xW Γ 40 hL_law rLt 1236 [some (xR 8 0 0), some (xR 0 8 0), some (xR 0 9 111), some (xI (nI i))] [] D' post := by
      intro D' G' hI'
      have IH := law_loop hL hp g (i + 6) D' G' (by omega) (by omega) hI'
      rw [← nI_add i 6] at IH
      exact x_goto rfl rfl IH
    refine x_xld rfl rfl (pk_in i Γ.s.2.1 (by omega) rfl (by omega)) ?_
    obtain ⟨j, hj, ej⟩ := pk_andE (Γ.s.2.2 (nI i).toNatClampNeg) (m := xnum 63) 6 (by decide)
    refine x_to 33 rfl ?_
    rw [ej]
    have hj : j < 64 := hj
    match j, hj with
    | 0, _ =>
      refine x_tin (tgt := 184) (off := 151) rfl rfl (by decide) (by decide) (by decide) (by decide) ?_
      exact x_rows kLc0 (law_write hI hi6 hL kk)
    | 1, _ =>
      refine x_tin (tgt := 207) (off := 174) rfl rfl (by decide) (by decide) (by decide) (by decide) ?_
      exact x_rows kLc1 (law_erase hI hi6 hL kk)
    | 2, _ =>
      refine x_tin (tgt := 220) (off := 187) rfl rfl (by decide) (by decide) (by decide) (by decide) ?_
      exact x_rows kLc2 (law_fault hI hi6 hL kk)
    | 3, _ =>
      refine x_tin (tgt := 243) (off := 210) rfl rfl (by decide) (by decide) (by decide) (by decide) ?_
      exact x_rows kLc3 (law_harbour hI hi6 hL kk)
    | 4, _ =>
      refine x_tin (tgt := 256) (off := 223) rfl rfl (by decide) (by decide) (by decide) (by decide) ?_
      exact x_rows kLc4 (law_tongue hI hi6 hL kk)
    | 5, _ =>
      refine x_tin (tgt := 269) (off := 236) rfl rfl (by decide) (by decide) (by decide) (by decide) ?_
      exact x_rows kLc5 (law_bird hI hi6 hL kk)
    | 6, _ =>
      refine x_tin (tgt := 302) (off := 269) rfl rfl (by decide) (by decide) (by decide) (by decide) ?_
      exact x_rows kLc6 (law_man hI hi6 hL kk)
    | 7, _ =>
      refine x_tin (tgt := 335) (off := 302) rfl rfl (by decide) (by decide) (by decide) (by decide) ?_
      exact x_rows kLc7 (law_known hI hi6 hL kk)
    | 8, _ =>
      refine x_tin (tgt := 378) (off := 345) rfl rfl (by decide) (by decide) (by decide) (by decide) ?_
      exact x_rows kLc8 (law_as hI hi6 hL kk)
    | 9, _ =>
      refine x_tin (tgt := 411) (off := 378) rfl rfl (by decide) (by decide) (by decide) (by decide) ?_
      exact x_rows kLc9 (law_evening hI hi6 hL kk)
    | 10, _ =>
      refine x_tin (tgt := 434) (off := 401) rfl rfl (by decide) (by decide) (by decide) (by decide) ?_
      exact x_rows kLc10 (law_teach hI hi6 hL kk)
    | 11, _ =>
      refine x_tin (tgt := 467) (off := 434) rfl rfl (by decide) (by decide) (by decide) (by decide) ?_
      exact x_rows kLc11 (law_moult hI hi6 hL kk)
    | 12, _ =>
      refine x_tin (tgt := 490) (off := 457) rfl rfl (by decide) (by decide) (by decide) (by decide) ?_
      exact x_rows kLc12 (law_perch hI hi6 hL kk)
    | 13, _ =>
      refine x_tin (tgt := 523) (off := 490) rfl rfl (by decide) (by decide) (by decide) (by decide) ?_
      exact x_rows kLc13 (law_cover hI hi6 hL kk)
    | 14, _ =>
      refine x_tin (tgt := 546) (off := 513) rfl rfl (by decide) (by decide) (by decide) (by decide) ?_
      exact x_rows kLc14 (law_sit hI hi6 hL kk)
    | 15, _ =>
      refine x_tin (tgt := 579) (off := 546) rfl rfl (by decide) (by decide) (by decide) (by decide) ?_
      exact x_rows kLc15 (law_undo hI hi6 hL kk)
    | 16, _ =>
      refine x_tin (tgt := 592) (off := 559) rfl rfl (by decide) (by decide) (by decide) (by decide) ?_
      exact x_rows kLc16 (law_keep hI hi6 hL kk)
    | 17, _ =>
      refine x_tin (tgt := 615) (off := 582) rfl rfl (by decide) (by decide) (by decide) (by decide) ?_
      exact x_rows kLc17 (law_back hI hi6 hL kk)
    | 18, _ =>
      refine x_tin (tgt := 638) (off := 605) rfl rfl (by decide) (by decide) (by decide) (by decide) ?_
      exact x_rows kLc18 (law_said hI hi6 hL kk)
    | 19, _ =>
      refine x_tin (tgt := 671) (off := 638) rfl rfl (by decide) (by decide) (by decide) (by decide) ?_
      exact x_rows kLc19 (law_when hI hi6 hL kk)
    | 20, _ =>
      refine x_tin (tgt := 714) (off := 681) rfl rfl (by decide) (by decide) (by decide) (by decide) ?_
      exact x_rows kLc20 (law_keeps hI hi6 hL kk)
    | 21, _ =>
      refine x_tin (tgt := 757) (off := 724) rfl rfl (by decide) (by decide) (by decide) (by decide) ?_
      exact x_rows kLc21 (law_match hI hi6 hL kk)
    | 22, _ =>
      refine x_tin (tgt := 790) (off := 757) rfl rfl (by decide) (by decide) (by decide) (by decide) ?_
      exact x_rows kLc22 (law_clean hI hi6 hL kk)
    | 23, _ =>
      refine x_tin (tgt := 833) (off := 800) rfl rfl (by decide) (by decide) (by decide) (by decide) ?_
      exact x_rows kLc23 (law_of hI hi6 hL kk)
    | 24, _ =>
      refine x_tin (tgt := 866) (off := 833) rfl rfl (by decide) (by decide) (by decide) (by decide) ?_
      exact x_rows kLc24 (law_left hI hi6 hL kk)
    | 25, _ =>
      refine x_tin (tgt := 909) (off := 876) rfl rfl (by decide) (by decide) (by decide) (by decide) ?_
      exact x_rows kLc25 (law_seen hI hi6 hL kk)
    | 26, _ =>
      refine x_tin (tgt := 952) (off := 919) rfl rfl (by decide) (by decide) (by decide) (by decide) ?_
      exact x_rows kLc26 (law_forget hI hi6 hL kk)
    | 27, _ =>
      refine x_tin (tgt := 965) (off := 932) rfl rfl (by decide) (by decide) (by decide) (by decide) ?_
      exact x_rows kLc27 (law_kinds hI hi6 hL kk)
    | 28, _ =>
      refine x_tin (tgt := 988) (off := 955) rfl rfl (by decide) (by decide) (by decide) (by decide) ?_
      exact x_rows kLc28 (law_reel hI hi6 hL kk)
    | 29, _ =>
      refine x_tin (tgt := 1031) (off := 998) rfl rfl (by decide) (by decide) (by decide) (by decide) ?_
      exact x_rows kLc29 (law_record hI hi6 hL kk)
    | 30, _ =>
      refine x_tin (tgt := 1084) (off := 1051) rfl rfl (by decide) (by decide) (by decide) (by decide) ?_
      exact x_rows kLc30 (law_play hI hi6 hL kk)
    | 31, _ =>
      refine x_tin (tgt := 1127) (off := 1094) rfl rfl (by decide) (by decide) (by decide) (by decide) ?_
      exact x_rows kLc31 (law_splice hI hi6 hL kk)
    | 32, _ =>
      refine x_tin (tgt := 1190) (off := 1157) rfl rfl (by decide) (by decide) (by decide) (by decide) ?_
      exact x_rows kLc32 (law_drop hI hi6 hL kk)
    | 33, _ =>
      refine x_tin (tgt := 1213) (off := 1180) rfl rfl (by decide) (by decide) (by decide) (by decide) ?_
      exact x_rows kLc33 (law_count hI hi6 hL kk)
    | j + 34, hj =>
      refine x_tout (tgt := 1236) rfl rfl (Or.inr (by rw [nI_toInt (by omega)]; omega)) (by decide) ?_
      exact kk D G hI
end LW2
