def rX8_write : List xRow := [(0, .iload_n 1, 1, 0, 0), (1, .iconst 0, 1, 0, 0), (2, .sipush 255, 3, 0, 0), (5, .invokestatic 77, 3, 114, 3), (8, .ifCond .eq 6, 3, 14, 0), (11, .bipush (-3), 2, 0, 0), (13, .ireturn, 1, 0, 0), (14, .aload_n 0, 1, 0, 0), 
  (15, .getfield 10, 3, 8, 0), (18, .getfield 81, 3, 5, 1), (21, .sipush 200, 3, 0, 0), (24, .if_icmp .lt 6, 3, 30, 0), (27, .bipush (-5), 2, 0, 0), (29, .ireturn, 1, 0, 0), (30, .aload_n 0, 1, 0, 0), (31, .getfield 10, 3, 8, 0), 
  (34, .iload_n 1, 1, 0, 0), (35, .invokevirtual 85, 3, 32, 1), (38, .aload_n 0, 1, 0, 0), (39, .getfield 10, 3, 8, 0), (42, .getfield 81, 3, 5, 1), (45, .ireturn, 1, 0, 0)]
abbrev hX8_write : xHd := (yX8_write, cX8_write, 2, some .int)
theorem kX8_write : xck hX8_write rX8_write = true := by decide +kernel
def rX8_erase : List xRow := [(0, .aload_n 0, 1, 0, 0), (1, .getfield 10, 3, 8, 0), (4, .getfield 81, 3, 5, 1), (7, .istore_n 1, 1, 0, 0), (8, .aload_n 0, 1, 0, 0), (9, .getfield 10, 3, 8, 0), (12, .invokevirtual 89, 3, 33, 0), (15, .iload_n 1, 1, 0, 0), 
  (16, .ireturn, 1, 0, 0)]
abbrev hX8_erase : xHd := (yX8_erase, cX8_erase, 2, some .int)
theorem kX8_erase : xck hX8_erase rX8_erase = true := by decide +kernel
def rX8_fault : List xRow := [(0, .iload_n 1, 1, 0, 0), (1, .iconst 0, 1, 0, 0), (2, .iconst 1, 1, 0, 0), (3, .invokestatic 77, 3, 114, 3), (6, .ifCond .eq 6, 3, 12, 0), (9, .bipush (-3), 2, 0, 0), (11, .ireturn, 1, 0, 0), (12, .iload_n 1, 1, 0, 0), 
  (13, .ifCond .ne 17, 3, 30, 0), (16, .aload_n 0, 1, 0, 0), (17, .getfield 21, 3, 8, 1), (20, .aload_n 0, 1, 0, 0), (21, .getfield 35, 3, 8, 3), (24, .invokevirtual 92, 3, 1, 1), (27, .goto 10, 3, 37, 0), (30, .aload_n 0, 1, 0, 0), 
  (31, .getfield 10, 3, 8, 0), (34, .invokestatic 96, 3, 46, 1), (37, .ireturn, 1, 0, 0)]
abbrev hX8_fault : xHd := (yX8_fault, cX8_fault, 2, some .int)
theorem kX8_fault : xck hX8_fault rX8_fault = true := by decide +kernel
def rX8_harbour : List xRow := [(0, .aload_n 0, 1, 0, 0), (1, .getfield 21, 3, 8, 1), (4, .aload_n 0, 1, 0, 0), (5, .getfield 35, 3, 8, 3), (8, .invokevirtual 92, 3, 1, 1), (11, .iconst (-1), 1, 0, 0), (12, .if_icmp .eq 6, 3, 18, 0), (15, .bipush (-4), 2, 0, 0), 
  (17, .ireturn, 1, 0, 0), (18, .aload_n 0, 1, 0, 0), (19, .getfield 35, 3, 8, 3), (22, .aload_n 0, 1, 0, 0), (23, .getfield 21, 3, 8, 1), (26, .getfield 100, 3, 0, 1), (29, .invokevirtual 103, 3, 55, 1), (32, .aload_n 0, 1, 0, 0), 
  (33, .getfield 39, 3, 8, 4), (36, .aload_n 0, 1, 0, 0), (37, .getfield 35, 3, 8, 3), (40, .invokevirtual 103, 3, 55, 1), (43, .aload_n 0, 1, 0, 0), (44, .getfield 55, 3, 8, 7), (47, .invokevirtual 107, 3, 11, 0), (50, .aload_n 0, 1, 0, 0), 
  (51, .getfield 62, 3, 8, 8), (54, .invokevirtual 108, 3, 24, 0), (57, .aload_n 0, 1, 0, 0), (58, .getfield 10, 3, 8, 0), (61, .invokevirtual 89, 3, 33, 0), (64, .aload_n 0, 1, 0, 0), (65, .getfield 21, 3, 8, 1), (68, .getfield 109, 3, 0, 2), 
  (71, .ireturn, 1, 0, 0)]
abbrev hX8_harbour : xHd := (yX8_harbour, cX8_harbour, 1, some .int)
theorem kX8_harbour : xck hX8_harbour rX8_harbour = true := by decide +kernel
def rX8_tongue : List xRow := [(0, .aload_n 0, 1, 0, 0), (1, .getfield 10, 3, 8, 0), (4, .invokestatic 96, 3, 46, 1), (7, .iconst (-1), 1, 0, 0), (8, .if_icmp .eq 6, 3, 14, 0), (11, .bipush (-4), 2, 0, 0), (13, .ireturn, 1, 0, 0), (14, .aload_n 0, 1, 0, 0), 
  (15, .getfield 28, 3, 8, 2), (18, .aload_n 0, 1, 0, 0), (19, .getfield 10, 3, 8, 0), (22, .invokevirtual 112, 3, 47, 1), (25, .aload_n 0, 1, 0, 0), (26, .getfield 10, 3, 8, 0), (29, .invokevirtual 89, 3, 33, 0), (32, .aload_n 0, 1, 0, 0), 
  (33, .getfield 28, 3, 8, 2), (36, .getfield 115, 3, 6, 6), (39, .ireturn, 1, 0, 0)]
abbrev hX8_tongue : xHd := (yX8_tongue, cX8_tongue, 1, some .int)
theorem kX8_tongue : xck hX8_tongue rX8_tongue = true := by decide +kernel
def rX8_bird : List xRow := [(0, .aload_n 0, 1, 0, 0), (1, .iload_n 1, 1, 0, 0), (2, .invokevirtual 118, 3, 115, 1), (5, .ifCond .eq 6, 3, 11, 0), (8, .bipush (-2), 2, 0, 0), (10, .ireturn, 1, 0, 0), (11, .iload_n 2, 1, 0, 0), (12, .tableswitch 91 0 4 #[36, 46, 56, 73, 82], 36, 0, 0), 
  (48, .aload_n 0, 1, 0, 0), (49, .getfield 39, 3, 8, 4), (52, .getfield 122, 3, 7, 4), (55, .iload_n 1, 1, 0, 0), (56, .iaload, 1, 0, 0), (57, .ireturn, 1, 0, 0), (58, .aload_n 0, 1, 0, 0), (59, .getfield 39, 3, 8, 4), 
  (62, .getfield 125, 3, 7, 5), (65, .iload_n 1, 1, 0, 0), (66, .iaload, 1, 0, 0), (67, .ireturn, 1, 0, 0), (68, .aload_n 0, 1, 0, 0), (69, .getfield 39, 3, 8, 4), (72, .iload_n 1, 1, 0, 0), (73, .invokevirtual 128, 3, 59, 1), 
  (76, .ifCond .eq 7, 3, 83, 0), (79, .iconst 1, 1, 0, 0), (80, .goto 4, 3, 84, 0), (83, .iconst 0, 1, 0, 0), (84, .ireturn, 1, 0, 0), (85, .aload_n 0, 1, 0, 0), (86, .getfield 39, 3, 8, 4), (89, .iload_n 1, 1, 0, 0), 
  (90, .invokevirtual 131, 3, 65, 1), (93, .ireturn, 1, 0, 0), (94, .aload_n 0, 1, 0, 0), (95, .getfield 39, 3, 8, 4), (98, .iload_n 1, 1, 0, 0), (99, .invokevirtual 135, 3, 62, 1), (102, .ireturn, 1, 0, 0), (103, .bipush (-3), 2, 0, 0), 
  (105, .ireturn, 1, 0, 0)]
abbrev hX8_bird : xHd := (yX8_bird, cX8_bird, 3, some .int)
theorem kX8_bird : xck hX8_bird rX8_bird = true := by decide +kernel
def rX8_man : List xRow := [(0, .aload_n 0, 1, 0, 0), (1, .iload_n 1, 1, 0, 0), (2, .invokevirtual 138, 3, 116, 1), (5, .ifCond .eq 6, 3, 11, 0), (8, .bipush (-2), 2, 0, 0), (10, .ireturn, 1, 0, 0), (11, .iload_n 2, 1, 0, 0), (12, .iconst 0, 1, 0, 0), 
  (13, .iconst 1, 1, 0, 0), (14, .invokestatic 77, 3, 114, 3), (17, .ifCond .eq 6, 3, 23, 0), (20, .bipush (-3), 2, 0, 0), (22, .ireturn, 1, 0, 0), (23, .iload_n 2, 1, 0, 0), (24, .ifCond .ne 15, 3, 39, 0), (27, .aload_n 0, 1, 0, 0), 
  (28, .getfield 39, 3, 8, 4), (31, .getfield 141, 3, 7, 7), (34, .iload_n 1, 1, 0, 0), (35, .iaload, 1, 0, 0), (36, .goto 12, 3, 48, 0), (39, .aload_n 0, 1, 0, 0), (40, .getfield 39, 3, 8, 4), (43, .getfield 144, 3, 7, 8), 
  (46, .iload_n 1, 1, 0, 0), (47, .iaload, 1, 0, 0), (48, .ireturn, 1, 0, 0)]
abbrev hX8_man : xHd := (yX8_man, cX8_man, 3, some .int)
theorem kX8_man : xck hX8_man rX8_man = true := by decide +kernel
def rX8_known : List xRow := [(0, .aload_n 0, 1, 0, 0), (1, .iload_n 1, 1, 0, 0), (2, .invokevirtual 118, 3, 115, 1), (5, .ifCond .ne 10, 3, 15, 0), (8, .iload_n 2, 1, 0, 0), (9, .invokestatic 147, 3, 117, 1), (12, .ifCond .eq 6, 3, 18, 0), (15, .bipush (-2), 2, 0, 0), 
  (17, .ireturn, 1, 0, 0), (18, .iload_n 3, 1, 0, 0), (19, .iconst 0, 1, 0, 0), (20, .bipush 60, 2, 0, 0), (22, .invokestatic 77, 3, 114, 3), (25, .ifCond .eq 6, 3, 31, 0), (28, .bipush (-3), 2, 0, 0), (30, .ireturn, 1, 0, 0), 
  (31, .aload_n 0, 1, 0, 0), (32, .getfield 42, 3, 8, 5), (35, .aload_n 0, 1, 0, 0), (36, .getfield 39, 3, 8, 4), (39, .invokevirtual 103, 3, 55, 1), (42, .iconst 0, 1, 0, 0), (43, .istore 4, 2, 0, 0), (45, .iload 4, 2, 0, 0), 
  (47, .iload_n 3, 1, 0, 0), (48, .if_icmp .ge 20, 3, 68, 0), (51, .aload_n 0, 1, 0, 0), (52, .getfield 42, 3, 8, 5), (55, .aload_n 0, 1, 0, 0), (56, .getfield 48, 3, 8, 6), (59, .invokevirtual 150, 3, 70, 1), (62, .iinc 4 1, 3, 0, 0), 
  (65, .goto (-20), 3, 45, 0), (68, .aload_n 0, 1, 0, 0), (69, .getfield 42, 3, 8, 5), (72, .iload_n 1, 1, 0, 0), (73, .iload_n 2, 1, 0, 0), (74, .invokevirtual 154, 3, 60, 2), (77, .ireturn, 1, 0, 0)]
abbrev hX8_known : xHd := (yX8_known, cX8_known, 5, some .int)
theorem kX8_known : xck hX8_known rX8_known = true := by decide +kernel
def rX8_as : List xRow := [(0, .aload_n 0, 1, 0, 0), (1, .iload_n 1, 1, 0, 0), (2, .invokevirtual 118, 3, 115, 1), (5, .ifCond .eq 6, 3, 11, 0), (8, .bipush (-2), 2, 0, 0), (10, .ireturn, 1, 0, 0), (11, .iload_n 2, 1, 0, 0), (12, .iconst 0, 1, 0, 0), 
  (13, .iconst 5, 1, 0, 0), (14, .invokestatic 77, 3, 114, 3), (17, .ifCond .eq 6, 3, 23, 0), (20, .bipush (-3), 2, 0, 0), (22, .ireturn, 1, 0, 0), (23, .aload_n 0, 1, 0, 0), (24, .getfield 39, 3, 8, 4), (27, .getfield 122, 3, 7, 4), 
  (30, .iload_n 1, 1, 0, 0), (31, .iaload, 1, 0, 0), (32, .istore_n 3, 1, 0, 0), (33, .getstatic 158, 3, 5, 0), (36, .iload_n 3, 1, 0, 0), (37, .iaload, 1, 0, 0), (38, .iload_n 2, 1, 0, 0), (39, .ishr, 1, 0, 0), 
  (40, .iconst 1, 1, 0, 0), (41, .iand, 1, 0, 0), (42, .ifCond .ne 6, 3, 48, 0), (45, .bipush (-4), 2, 0, 0), (47, .ireturn, 1, 0, 0), (48, .getstatic 161, 3, 2, 0), (51, .iload_n 3, 1, 0, 0), (52, .iaload, 1, 0, 0), 
  (53, .ireturn, 1, 0, 0)]
abbrev hX8_as : xHd := (yX8_as, cX8_as, 4, some .int)
theorem kX8_as : xck hX8_as rX8_as = true := by decide +kernel
def rX8_evening : List xRow := [(0, .iload_n 1, 1, 0, 0), (1, .iconst 1, 1, 0, 0), (2, .bipush 12, 2, 0, 0), (4, .invokestatic 77, 3, 114, 3), (7, .ifCond .eq 6, 3, 13, 0), (10, .bipush (-3), 2, 0, 0), (12, .ireturn, 1, 0, 0), (13, .aload_n 0, 1, 0, 0), 
  (14, .getfield 39, 3, 8, 4), (17, .getfield 164, 3, 7, 2), (20, .iload_n 1, 1, 0, 0), (21, .iadd, 1, 0, 0), (22, .sipush 999, 3, 0, 0), (25, .if_icmp .le 6, 3, 31, 0), (28, .bipush (-5), 2, 0, 0), (30, .ireturn, 1, 0, 0), 
  (31, .aload_n 0, 1, 0, 0), (32, .getfield 55, 3, 8, 7), (35, .aload_n 0, 1, 0, 0), (36, .getfield 39, 3, 8, 4), (39, .invokevirtual 167, 3, 12, 1), (42, .iconst 0, 1, 0, 0), (43, .istore_n 2, 1, 0, 0), (44, .iload_n 2, 1, 0, 0), 
  (45, .iload_n 1, 1, 0, 0), (46, .if_icmp .ge 20, 3, 66, 0), (49, .aload_n 0, 1, 0, 0), (50, .getfield 39, 3, 8, 4), (53, .aload_n 0, 1, 0, 0), (54, .getfield 48, 3, 8, 6), (57, .invokevirtual 150, 3, 70, 1), (60, .iinc 2 1, 3, 0, 0), 
  (63, .goto (-19), 3, 44, 0), (66, .aload_n 0, 1, 0, 0), (67, .getfield 39, 3, 8, 4), (70, .getfield 164, 3, 7, 2), (73, .ireturn, 1, 0, 0)]
abbrev hX8_evening : xHd := (yX8_evening, cX8_evening, 3, some .int)
theorem kX8_evening : xck hX8_evening rX8_evening = true := by decide +kernel
def rX8_teach : List xRow := [(0, .aload_n 0, 1, 0, 0), (1, .iload_n 1, 1, 0, 0), (2, .invokevirtual 118, 3, 115, 1), (5, .ifCond .ne 10, 3, 15, 0), (8, .iload_n 2, 1, 0, 0), (9, .invokestatic 147, 3, 117, 1), (12, .ifCond .eq 6, 3, 18, 0), (15, .bipush (-2), 2, 0, 0), 
  (17, .ireturn, 1, 0, 0), (18, .aload_n 0, 1, 0, 0), (19, .getfield 55, 3, 8, 7), (22, .aload_n 0, 1, 0, 0), (23, .getfield 39, 3, 8, 4), (26, .invokevirtual 167, 3, 12, 1), (29, .aload_n 0, 1, 0, 0), (30, .getfield 39, 3, 8, 4), 
  (33, .iload_n 1, 1, 0, 0), (34, .iload_n 2, 1, 0, 0), (35, .iconst 3, 1, 0, 0), (36, .invokevirtual 170, 3, 67, 3), (39, .aload_n 0, 1, 0, 0), (40, .getfield 39, 3, 8, 4), (43, .iload_n 1, 1, 0, 0), (44, .iload_n 2, 1, 0, 0), 
  (45, .invokevirtual 154, 3, 60, 2), (48, .ireturn, 1, 0, 0)]
abbrev hX8_teach : xHd := (yX8_teach, cX8_teach, 3, some .int)
theorem kX8_teach : xck hX8_teach rX8_teach = true := by decide +kernel
def rX8_moult : List xRow := [(0, .aload_n 0, 1, 0, 0), (1, .iload_n 1, 1, 0, 0), (2, .invokevirtual 118, 3, 115, 1), (5, .ifCond .eq 6, 3, 11, 0), (8, .bipush (-2), 2, 0, 0), (10, .ireturn, 1, 0, 0), (11, .aload_n 0, 1, 0, 0), (12, .getfield 55, 3, 8, 7), 
  (15, .aload_n 0, 1, 0, 0), (16, .getfield 39, 3, 8, 4), (19, .invokevirtual 167, 3, 12, 1), (22, .aload_n 0, 1, 0, 0), (23, .getfield 39, 3, 8, 4), (26, .iload_n 1, 1, 0, 0), (27, .invokevirtual 174, 3, 68, 1), (30, .aload_n 0, 1, 0, 0), 
  (31, .getfield 39, 3, 8, 4), (34, .iload_n 1, 1, 0, 0), (35, .invokevirtual 177, 3, 61, 1), (38, .ireturn, 1, 0, 0)]
abbrev hX8_moult : xHd := (yX8_moult, cX8_moult, 2, some .int)
theorem kX8_moult : xck hX8_moult rX8_moult = true := by decide +kernel
def rX8_perch : List xRow := [(0, .aload_n 0, 1, 0, 0), (1, .iload_n 1, 1, 0, 0), (2, .invokevirtual 118, 3, 115, 1), (5, .ifCond .ne 10, 3, 15, 0), (8, .iload_n 2, 1, 0, 0), (9, .invokestatic 180, 3, 118, 1), (12, .ifCond .eq 6, 3, 18, 0), (15, .bipush (-2), 2, 0, 0), 
  (17, .ireturn, 1, 0, 0), (18, .aload_n 0, 1, 0, 0), (19, .getfield 39, 3, 8, 4), (22, .getfield 125, 3, 7, 5), (25, .iload_n 1, 1, 0, 0), (26, .iaload, 1, 0, 0), (27, .istore_n 3, 1, 0, 0), (28, .iload_n 3, 1, 0, 0), 
  (29, .iload_n 2, 1, 0, 0), (30, .if_icmp .ne 6, 3, 36, 0), (33, .bipush (-4), 2, 0, 0), (35, .ireturn, 1, 0, 0), (36, .aload_n 0, 1, 0, 0), (37, .getfield 55, 3, 8, 7), (40, .aload_n 0, 1, 0, 0), (41, .getfield 39, 3, 8, 4), 
  (44, .invokevirtual 167, 3, 12, 1), (47, .aload_n 0, 1, 0, 0), (48, .getfield 39, 3, 8, 4), (51, .getfield 125, 3, 7, 5), (54, .iload_n 1, 1, 0, 0), (55, .iload_n 2, 1, 0, 0), (56, .iastore, 1, 0, 0), (57, .iload_n 3, 1, 0, 0), 
  (58, .ireturn, 1, 0, 0)]
abbrev hX8_perch : xHd := (yX8_perch, cX8_perch, 4, some .int)
theorem kX8_perch : xck hX8_perch rX8_perch = true := by decide +kernel
def rX8_cover : List xRow := [(0, .aload_n 0, 1, 0, 0), (1, .iload_n 1, 1, 0, 0), (2, .invokevirtual 118, 3, 115, 1), (5, .ifCond .eq 6, 3, 11, 0), (8, .bipush (-2), 2, 0, 0), (10, .ireturn, 1, 0, 0), (11, .aload_n 0, 1, 0, 0), (12, .getfield 55, 3, 8, 7), 
  (15, .aload_n 0, 1, 0, 0), (16, .getfield 39, 3, 8, 4), (19, .invokevirtual 167, 3, 12, 1), (22, .aload_n 0, 1, 0, 0), (23, .getfield 39, 3, 8, 4), (26, .dup, 1, 0, 0), (27, .getfield 183, 3, 7, 3), (30, .iconst 1, 1, 0, 0), 
  (31, .iload_n 1, 1, 0, 0), (32, .ishl, 1, 0, 0), (33, .ixor, 1, 0, 0), (34, .putfield 183, 3, 7, 3), (37, .aload_n 0, 1, 0, 0), (38, .getfield 39, 3, 8, 4), (41, .iload_n 1, 1, 0, 0), (42, .invokevirtual 128, 3, 59, 1), 
  (45, .ifCond .eq 7, 3, 52, 0), (48, .iconst 1, 1, 0, 0), (49, .goto 4, 3, 53, 0), (52, .iconst 0, 1, 0, 0), (53, .ireturn, 1, 0, 0)]
abbrev hX8_cover : xHd := (yX8_cover, cX8_cover, 2, some .int)
theorem kX8_cover : xck hX8_cover rX8_cover = true := by decide +kernel
def rX8_sit : List xRow := [(0, .aload_n 0, 1, 0, 0), (1, .iload_n 1, 1, 0, 0), (2, .invokevirtual 138, 3, 116, 1), (5, .ifCond .ne 16, 3, 21, 0), (8, .iload_n 2, 1, 0, 0), (9, .iconst (-1), 1, 0, 0), (10, .if_icmp .eq 14, 3, 24, 0), (13, .aload_n 0, 1, 0, 0), 
  (14, .iload_n 2, 1, 0, 0), (15, .invokevirtual 118, 3, 115, 1), (18, .ifCond .eq 6, 3, 24, 0), (21, .bipush (-2), 2, 0, 0), (23, .ireturn, 1, 0, 0), (24, .aload_n 0, 1, 0, 0), (25, .getfield 39, 3, 8, 4), (28, .getfield 144, 3, 7, 8), 
  (31, .iload_n 1, 1, 0, 0), (32, .iaload, 1, 0, 0), (33, .istore_n 3, 1, 0, 0), (34, .iload_n 3, 1, 0, 0), (35, .iload_n 2, 1, 0, 0), (36, .if_icmp .ne 6, 3, 42, 0), (39, .bipush (-4), 2, 0, 0), (41, .ireturn, 1, 0, 0), 
  (42, .aload_n 0, 1, 0, 0), (43, .getfield 55, 3, 8, 7), (46, .aload_n 0, 1, 0, 0), (47, .getfield 39, 3, 8, 4), (50, .invokevirtual 167, 3, 12, 1), (53, .aload_n 0, 1, 0, 0), (54, .getfield 39, 3, 8, 4), (57, .iload_n 1, 1, 0, 0), 
  (58, .iload_n 2, 1, 0, 0), (59, .invokevirtual 186, 3, 66, 2), (62, .iload_n 3, 1, 0, 0), (63, .ireturn, 1, 0, 0)]
abbrev hX8_sit : xHd := (yX8_sit, cX8_sit, 4, some .int)
theorem kX8_sit : xck hX8_sit rX8_sit = true := by decide +kernel
def rX8_undo : List xRow := [(0, .aload_n 0, 1, 0, 0), (1, .getfield 55, 3, 8, 7), (4, .getfield 190, 3, 1, 4), (7, .ifCond .ne 6, 3, 13, 0), (10, .bipush (-4), 2, 0, 0), (12, .ireturn, 1, 0, 0), (13, .aload_n 0, 1, 0, 0), (14, .getfield 55, 3, 8, 7), 
  (17, .aload_n 0, 1, 0, 0), (18, .getfield 39, 3, 8, 4), (21, .invokevirtual 193, 3, 13, 1), (24, .aload_n 0, 1, 0, 0), (25, .getfield 55, 3, 8, 7), (28, .getfield 190, 3, 1, 4), (31, .ireturn, 1, 0, 0)]
abbrev hX8_undo : xHd := (yX8_undo, cX8_undo, 1, some .int)
theorem kX8_undo : xck hX8_undo rX8_undo = true := by decide +kernel
def rX8_keep : List xRow := [(0, .iload_n 1, 1, 0, 0), (1, .iconst 0, 1, 0, 0), (2, .iconst 1, 1, 0, 0), (3, .invokestatic 77, 3, 114, 3), (6, .ifCond .eq 6, 3, 12, 0), (9, .bipush (-2), 2, 0, 0), (11, .ireturn, 1, 0, 0), (12, .aload_n 0, 1, 0, 0), 
  (13, .getfield 55, 3, 8, 7), (16, .iload_n 1, 1, 0, 0), (17, .aload_n 0, 1, 0, 0), (18, .getfield 39, 3, 8, 4), (21, .invokevirtual 196, 3, 14, 2), (24, .aload_n 0, 1, 0, 0), (25, .getfield 39, 3, 8, 4), (28, .getfield 164, 3, 7, 2), 
  (31, .ireturn, 1, 0, 0)]
abbrev hX8_keep : xHd := (yX8_keep, cX8_keep, 2, some .int)
theorem kX8_keep : xck hX8_keep rX8_keep = true := by decide +kernel
def rX8_back : List xRow := [(0, .iload_n 1, 1, 0, 0), (1, .iconst 0, 1, 0, 0), (2, .iconst 1, 1, 0, 0), (3, .invokestatic 77, 3, 114, 3), (6, .ifCond .eq 6, 3, 12, 0), (9, .bipush (-2), 2, 0, 0), (11, .ireturn, 1, 0, 0), (12, .aload_n 0, 1, 0, 0), 
  (13, .getfield 55, 3, 8, 7), (16, .iload_n 1, 1, 0, 0), (17, .invokevirtual 200, 3, 15, 1), (20, .ifCond .ne 6, 3, 26, 0), (23, .bipush (-4), 2, 0, 0), (25, .ireturn, 1, 0, 0), (26, .aload_n 0, 1, 0, 0), (27, .getfield 55, 3, 8, 7), 
  (30, .iload_n 1, 1, 0, 0), (31, .aload_n 0, 1, 0, 0), (32, .getfield 39, 3, 8, 4), (35, .invokevirtual 203, 3, 16, 2), (38, .aload_n 0, 1, 0, 0), (39, .getfield 39, 3, 8, 4), (42, .getfield 164, 3, 7, 2), (45, .ireturn, 1, 0, 0)]
abbrev hX8_back : xHd := (yX8_back, cX8_back, 2, some .int)
theorem kX8_back : xck hX8_back rX8_back = true := by decide +kernel
def rX8_said : List xRow := [(0, .iload_n 1, 1, 0, 0), (1, .invokestatic 180, 3, 118, 1), (4, .ifCond .eq 6, 3, 10, 0), (7, .bipush (-2), 2, 0, 0), (9, .ireturn, 1, 0, 0), (10, .iload_n 2, 1, 0, 0), (11, .iconst 0, 1, 0, 0), (12, .bipush 15, 2, 0, 0), 
  (14, .invokestatic 77, 3, 114, 3), (17, .ifCond .eq 6, 3, 23, 0), (20, .bipush (-3), 2, 0, 0), (22, .ireturn, 1, 0, 0), (23, .aload_n 0, 1, 0, 0), (24, .invokevirtual 206, 3, 121, 0), (27, .aload_n 0, 1, 0, 0), (28, .getfield 48, 3, 8, 6), 
  (31, .iload_n 1, 1, 0, 0), (32, .iload_n 2, 1, 0, 0), (33, .invokevirtual 209, 3, 30, 2), (36, .ireturn, 1, 0, 0)]
abbrev hX8_said : xHd := (yX8_said, cX8_said, 3, some .int)
theorem kX8_said : xck hX8_said rX8_said = true := by decide +kernel
def rX8_when : List xRow := [(0, .aload_n 0, 1, 0, 0), (1, .iload_n 1, 1, 0, 0), (2, .invokevirtual 118, 3, 115, 1), (5, .ifCond .ne 10, 3, 15, 0), (8, .iload_n 2, 1, 0, 0), (9, .invokestatic 147, 3, 117, 1), (12, .ifCond .eq 6, 3, 18, 0), (15, .bipush (-2), 2, 0, 0), 
  (17, .ireturn, 1, 0, 0), (18, .iload_n 3, 1, 0, 0), (19, .iconst 1, 1, 0, 0), (20, .bipush 9, 2, 0, 0), (22, .invokestatic 77, 3, 114, 3), (25, .ifCond .eq 6, 3, 31, 0), (28, .bipush (-3), 2, 0, 0), (30, .ireturn, 1, 0, 0), 
  (31, .aload_n 0, 1, 0, 0), (32, .getfield 42, 3, 8, 5), (35, .aload_n 0, 1, 0, 0), (36, .getfield 39, 3, 8, 4), (39, .invokevirtual 103, 3, 55, 1), (42, .iconst 0, 1, 0, 0), (43, .istore 4, 2, 0, 0), (45, .iload 4, 2, 0, 0), 
  (47, .bipush 60, 2, 0, 0), (49, .if_icmp .gt 36, 3, 85, 0), (52, .aload_n 0, 1, 0, 0), (53, .getfield 42, 3, 8, 5), (56, .iload_n 1, 1, 0, 0), (57, .iload_n 2, 1, 0, 0), (58, .invokevirtual 154, 3, 60, 2), (61, .iload_n 3, 1, 0, 0), 
  (62, .if_icmp .lt 6, 3, 68, 0), (65, .iload 4, 2, 0, 0), (67, .ireturn, 1, 0, 0), (68, .aload_n 0, 1, 0, 0), (69, .getfield 42, 3, 8, 5), (72, .aload_n 0, 1, 0, 0), (73, .getfield 48, 3, 8, 6), (76, .invokevirtual 150, 3, 70, 1), 
  (79, .iinc 4 1, 3, 0, 0), (82, .goto (-37), 3, 45, 0), (85, .iconst (-1), 1, 0, 0), (86, .ireturn, 1, 0, 0)]
abbrev hX8_when : xHd := (yX8_when, cX8_when, 5, some .int)
theorem kX8_when : xck hX8_when rX8_when = true := by decide +kernel
def rX8_keeps : List xRow := [(0, .aload_n 0, 1, 0, 0), (1, .iload_n 1, 1, 0, 0), (2, .invokevirtual 138, 3, 116, 1), (5, .ifCond .ne 11, 3, 16, 0), (8, .aload_n 0, 1, 0, 0), (9, .iload_n 2, 1, 0, 0), (10, .invokevirtual 118, 3, 115, 1), (13, .ifCond .eq 6, 3, 19, 0), 
  (16, .bipush (-2), 2, 0, 0), (18, .ireturn, 1, 0, 0), (19, .iload_n 3, 1, 0, 0), (20, .iconst 1, 1, 0, 0), (21, .bipush 20, 2, 0, 0), (23, .invokestatic 77, 3, 114, 3), (26, .ifCond .eq 6, 3, 32, 0), (29, .bipush (-3), 2, 0, 0), 
  (31, .ireturn, 1, 0, 0), (32, .aload_n 0, 1, 0, 0), (33, .iload_n 1, 1, 0, 0), (34, .iload_n 2, 1, 0, 0), (35, .iload_n 3, 1, 0, 0), (36, .invokevirtual 212, 3, 122, 3), (39, .ireturn, 1, 0, 0)]
abbrev hX8_keeps : xHd := (yX8_keeps, cX8_keeps, 4, some .int)
theorem kX8_keeps : xck hX8_keeps rX8_keeps = true := by decide +kernel
def rX8_match : List xRow := [(0, .iload_n 2, 1, 0, 0), (1, .iconst (-1), 1, 0, 0), (2, .if_icmp .eq 14, 3, 16, 0), (5, .aload_n 0, 1, 0, 0), (6, .iload_n 2, 1, 0, 0), (7, .invokevirtual 138, 3, 116, 1), (10, .ifCond .eq 6, 3, 16, 0), (13, .bipush (-2), 2, 0, 0), 
  (15, .ireturn, 1, 0, 0), (16, .iload_n 1, 1, 0, 0), (17, .iconst 1, 1, 0, 0), (18, .bipush 20, 2, 0, 0), (20, .invokestatic 77, 3, 114, 3), (23, .ifCond .eq 6, 3, 29, 0), (26, .bipush (-3), 2, 0, 0), (28, .ireturn, 1, 0, 0), 
  (29, .iconst 0, 1, 0, 0), (30, .istore_n 3, 1, 0, 0), (31, .iload_n 3, 1, 0, 0), (32, .aload_n 0, 1, 0, 0), (33, .getfield 39, 3, 8, 4), (36, .getfield 216, 3, 7, 1), (39, .if_icmp .ge 50, 3, 89, 0), (42, .iconst 0, 1, 0, 0), 
  (43, .istore 4, 2, 0, 0), (45, .iload 4, 2, 0, 0), (47, .aload_n 0, 1, 0, 0), (48, .getfield 39, 3, 8, 4), (51, .getfield 219, 3, 7, 0), (54, .if_icmp .ge 29, 3, 83, 0), (57, .aload_n 0, 1, 0, 0), (58, .getfield 73, 3, 8, 10), 
  (61, .iload_n 3, 1, 0, 0), (62, .bipush 8, 2, 0, 0), (64, .imul, 1, 0, 0), (65, .iload 4, 2, 0, 0), (67, .iadd, 1, 0, 0), (68, .aload_n 0, 1, 0, 0), (69, .iload_n 3, 1, 0, 0), (70, .iload 4, 2, 0, 0), 
  (72, .iload_n 1, 1, 0, 0), (73, .invokevirtual 212, 3, 122, 3), (76, .iastore, 1, 0, 0), (77, .iinc 4 1, 3, 0, 0), (80, .goto (-35), 3, 45, 0), (83, .iinc 3 1, 3, 0, 0), (86, .goto (-55), 3, 31, 0), (89, .iload_n 2, 1, 0, 0), 
  (90, .iconst (-1), 1, 0, 0), (91, .if_icmp .ne 12, 3, 103, 0), (94, .aload_n 0, 1, 0, 0), (95, .iconst 0, 1, 0, 0), (96, .iconst 0, 1, 0, 0), (97, .invokevirtual 222, 3, 123, 2), (100, .goto 8, 3, 108, 0), (103, .aload_n 0, 1, 0, 0), 
  (104, .iload_n 2, 1, 0, 0), (105, .invokevirtual 225, 3, 124, 1), (108, .ireturn, 1, 0, 0)]
abbrev hX8_match : xHd := (yX8_match, cX8_match, 5, some .int)
theorem kX8_match : xck hX8_match rX8_match = true := by decide +kernel
def rX8_clean : List xRow := [(0, .aload_n 0, 1, 0, 0), (1, .iload_n 1, 1, 0, 0), (2, .invokevirtual 118, 3, 115, 1), (5, .ifCond .ne 10, 3, 15, 0), (8, .iload_n 2, 1, 0, 0), (9, .invokestatic 147, 3, 117, 1), (12, .ifCond .eq 6, 3, 18, 0), (15, .bipush (-2), 2, 0, 0), 
  (17, .ireturn, 1, 0, 0), (18, .iload_n 3, 1, 0, 0), (19, .iconst 1, 1, 0, 0), (20, .bipush 20, 2, 0, 0), (22, .invokestatic 77, 3, 114, 3), (25, .ifCond .eq 6, 3, 31, 0), (28, .bipush (-3), 2, 0, 0), (30, .ireturn, 1, 0, 0), 
  (31, .aload_n 0, 1, 0, 0), (32, .getfield 39, 3, 8, 4), (35, .iload_n 1, 1, 0, 0), (36, .invokevirtual 228, 3, 69, 1), (39, .istore 4, 2, 0, 0), (41, .iconst 0, 1, 0, 0), (42, .istore 5, 2, 0, 0), (44, .iload 5, 2, 0, 0), 
  (46, .bipush 8, 2, 0, 0), (48, .if_icmp .ge 61, 3, 109, 0), (51, .iconst 0, 1, 0, 0), (52, .istore 6, 2, 0, 0), (54, .iload 6, 2, 0, 0), (56, .sipush 256, 3, 0, 0), (59, .if_icmp .ge 44, 3, 103, 0), (62, .iload 6, 2, 0, 0), 
  (64, .iload 4, 2, 0, 0), (66, .iconst (-1), 1, 0, 0), (67, .ixor, 1, 0, 0), (68, .iand, 1, 0, 0), (69, .ifCond .ne 28, 3, 97, 0), (72, .iload 6, 2, 0, 0), (74, .invokestatic 231, 3, 223, 1), (77, .iload 5, 2, 0, 0), 
  (79, .if_icmp .ne 18, 3, 97, 0), (82, .aload_n 0, 1, 0, 0), (83, .iload_n 1, 1, 0, 0), (84, .iload_n 2, 1, 0, 0), (85, .iload_n 3, 1, 0, 0), (86, .iload 6, 2, 0, 0), (88, .invokevirtual 236, 3, 126, 4), (91, .ifCond .eq 6, 3, 97, 0), 
  (94, .iload 6, 2, 0, 0), (96, .ireturn, 1, 0, 0), (97, .iinc 6 1, 3, 0, 0), (100, .goto (-46), 3, 54, 0), (103, .iinc 5 1, 3, 0, 0), (106, .goto (-62), 3, 44, 0), (109, .iconst (-1), 1, 0, 0), (110, .ireturn, 1, 0, 0)]
abbrev hX8_clean : xHd := (yX8_clean, cX8_clean, 7, some .int)
theorem kX8_clean : xck hX8_clean rX8_clean = true := by decide +kernel
def rX8_of : List xRow := [(0, .iload_n 1, 1, 0, 0), (1, .invokestatic 180, 3, 118, 1), (4, .ifCond .eq 6, 3, 10, 0), (7, .bipush (-2), 2, 0, 0), (9, .ireturn, 1, 0, 0), (10, .iload_n 2, 1, 0, 0), (11, .iconst 0, 1, 0, 0), (12, .iconst 1, 1, 0, 0), 
  (13, .invokestatic 77, 3, 114, 3), (16, .ifCond .eq 6, 3, 22, 0), (19, .bipush (-3), 2, 0, 0), (21, .ireturn, 1, 0, 0), (22, .aload_n 0, 1, 0, 0), (23, .getfield 28, 3, 8, 2), (26, .getfield 240, 3, 6, 5), (29, .ifCond .ne 6, 3, 35, 0), 
  (32, .bipush (-4), 2, 0, 0), (34, .ireturn, 1, 0, 0), (35, .aload_n 0, 1, 0, 0), (36, .invokevirtual 206, 3, 121, 0), (39, .aload_n 0, 1, 0, 0), (40, .getfield 28, 3, 8, 2), (43, .aload_n 0, 1, 0, 0), (44, .getfield 48, 3, 8, 6), 
  (47, .iload_n 1, 1, 0, 0), (48, .invokevirtual 241, 3, 48, 2), (51, .istore_n 3, 1, 0, 0), (52, .iload_n 2, 1, 0, 0), (53, .ifCond .ne 17, 3, 70, 0), (56, .iload_n 3, 1, 0, 0), (57, .aload_n 0, 1, 0, 0), (58, .getfield 48, 3, 8, 6), 
  (61, .getfield 245, 3, 4, 1), (64, .iload_n 1, 1, 0, 0), (65, .iaload, 1, 0, 0), (66, .ishr, 1, 0, 0), (67, .iconst 1, 1, 0, 0), (68, .iand, 1, 0, 0), (69, .ireturn, 1, 0, 0), (70, .aload_n 0, 1, 0, 0), 
  (71, .getfield 48, 3, 8, 6), (74, .getfield 245, 3, 4, 1), (77, .iload_n 1, 1, 0, 0), (78, .iaload, 1, 0, 0), (79, .istore 4, 2, 0, 0), (81, .iload 4, 2, 0, 0), (83, .ifCond .lt 22, 3, 105, 0), (86, .iload_n 3, 1, 0, 0), 
  (87, .iload 4, 2, 0, 0), (89, .ishr, 1, 0, 0), (90, .iconst 1, 1, 0, 0), (91, .iand, 1, 0, 0), (92, .iconst 1, 1, 0, 0), (93, .if_icmp .ne 6, 3, 99, 0), (96, .iload 4, 2, 0, 0), (98, .ireturn, 1, 0, 0), 
  (99, .iinc 4 (-1), 3, 0, 0), (102, .goto (-21), 3, 81, 0), (105, .iconst (-1), 1, 0, 0), (106, .ireturn, 1, 0, 0)]
abbrev hX8_of : xHd := (yX8_of, cX8_of, 5, some .int)
theorem kX8_of : xck hX8_of rX8_of = true := by decide +kernel
def rX8_left : List xRow := [(0, .iload_n 1, 1, 0, 0), (1, .invokestatic 147, 3, 117, 1), (4, .ifCond .eq 6, 3, 10, 0), (7, .bipush (-2), 2, 0, 0), (9, .ireturn, 1, 0, 0), (10, .iload_n 2, 1, 0, 0), (11, .iconst 0, 1, 0, 0), (12, .bipush 10, 2, 0, 0), 
  (14, .invokestatic 77, 3, 114, 3), (17, .ifCond .ne 12, 3, 29, 0), (20, .iload_n 3, 1, 0, 0), (21, .iconst 0, 1, 0, 0), (22, .iconst 1, 1, 0, 0), (23, .invokestatic 77, 3, 114, 3), (26, .ifCond .eq 6, 3, 32, 0), (29, .bipush (-3), 2, 0, 0), 
  (31, .ireturn, 1, 0, 0), (32, .iconst 1, 1, 0, 0), (33, .istore 4, 2, 0, 0), (35, .iconst 1, 1, 0, 0), (36, .istore 5, 2, 0, 0), (38, .iconst 0, 1, 0, 0), (39, .istore 6, 2, 0, 0), (41, .iload 6, 2, 0, 0), 
  (43, .aload_n 0, 1, 0, 0), (44, .getfield 39, 3, 8, 4), (47, .getfield 219, 3, 7, 0), (50, .if_icmp .ge 36, 3, 86, 0), (53, .aload_n 0, 1, 0, 0), (54, .getfield 39, 3, 8, 4), (57, .iload 6, 2, 0, 0), (59, .iload_n 1, 1, 0, 0), 
  (60, .invokevirtual 154, 3, 60, 2), (63, .iconst 5, 1, 0, 0), (64, .if_icmp .lt 16, 3, 80, 0), (67, .iload 4, 2, 0, 0), (69, .bipush 10, 2, 0, 0), (71, .imul, 1, 0, 0), (72, .istore 4, 2, 0, 0), (74, .iload 5, 2, 0, 0), 
  (76, .iload_n 2, 1, 0, 0), (77, .imul, 1, 0, 0), (78, .istore 5, 2, 0, 0), (80, .iinc 6 1, 3, 0, 0), (83, .goto (-42), 3, 41, 0), (86, .iload 4, 2, 0, 0), (88, .iload 5, 2, 0, 0), (90, .isub, 1, 0, 0), 
  (91, .istore 6, 2, 0, 0), (93, .iload 4, 2, 0, 0), (95, .iload 6, 2, 0, 0), (97, .invokestatic 248, 3, 127, 2), (100, .istore 7, 2, 0, 0), (102, .iload_n 3, 1, 0, 0), (103, .ifCond .ne 8, 3, 111, 0), (106, .iload 6, 2, 0, 0), 
  (108, .goto 5, 3, 113, 0), (111, .iload 4, 2, 0, 0), (113, .iload 7, 2, 0, 0), (115, .idiv, 1, 0, 0), (116, .ireturn, 1, 0, 0)]
abbrev hX8_left : xHd := (yX8_left, cX8_left, 8, some .int)
theorem kX8_left : xck hX8_left rX8_left = true := by decide +kernel
def rX8_seen : List xRow := [(0, .iload_n 1, 1, 0, 0), (1, .invokestatic 180, 3, 118, 1), (4, .ifCond .ne 15, 3, 19, 0), (7, .iload_n 3, 1, 0, 0), (8, .iconst (-1), 1, 0, 0), (9, .if_icmp .eq 13, 3, 22, 0), (12, .iload_n 3, 1, 0, 0), (13, .invokestatic 147, 3, 117, 1), 
  (16, .ifCond .eq 6, 3, 22, 0), (19, .bipush (-2), 2, 0, 0), (21, .ireturn, 1, 0, 0), (22, .iload_n 2, 1, 0, 0), (23, .iconst 0, 1, 0, 0), (24, .bipush 9, 2, 0, 0), (26, .invokestatic 77, 3, 114, 3), (29, .ifCond .eq 6, 3, 35, 0), 
  (32, .bipush (-3), 2, 0, 0), (34, .ireturn, 1, 0, 0), (35, .aload_n 0, 1, 0, 0), (36, .getfield 62, 3, 8, 8), (39, .getfield 251, 3, 3, 3), (42, .bipush 6, 2, 0, 0), (44, .if_icmp .lt 6, 3, 50, 0), (47, .bipush (-5), 2, 0, 0), 
  (49, .ireturn, 1, 0, 0), (50, .aload_n 0, 1, 0, 0), (51, .getfield 62, 3, 8, 8), (54, .iload_n 1, 1, 0, 0), (55, .iload_n 2, 1, 0, 0), (56, .iload_n 3, 1, 0, 0), (57, .invokevirtual 252, 3, 25, 3), (60, .aload_n 0, 1, 0, 0), 
  (61, .getfield 62, 3, 8, 8), (64, .getfield 251, 3, 3, 3), (67, .ireturn, 1, 0, 0)]
abbrev hX8_seen : xHd := (yX8_seen, cX8_seen, 4, some .int)
theorem kX8_seen : xck hX8_seen rX8_seen = true := by decide +kernel
def rX8_forget : List xRow := [(0, .aload_n 0, 1, 0, 0), (1, .getfield 62, 3, 8, 8), (4, .getfield 251, 3, 3, 3), (7, .istore_n 1, 1, 0, 0), (8, .aload_n 0, 1, 0, 0), (9, .getfield 62, 3, 8, 8), (12, .invokevirtual 108, 3, 24, 0), (15, .iload_n 1, 1, 0, 0), 
  (16, .ireturn, 1, 0, 0)]
abbrev hX8_forget : xHd := (yX8_forget, cX8_forget, 2, some .int)
theorem kX8_forget : xck hX8_forget rX8_forget = true := by decide +kernel
def rX8_kinds : List xRow := [(0, .aload_n 0, 1, 0, 0), (1, .iload_n 1, 1, 0, 0), (2, .invokevirtual 118, 3, 115, 1), (5, .ifCond .eq 6, 3, 11, 0), (8, .bipush (-2), 2, 0, 0), (10, .ireturn, 1, 0, 0), (11, .iconst 0, 1, 0, 0), (12, .istore_n 2, 1, 0, 0), 
  (13, .iconst 0, 1, 0, 0), (14, .istore_n 3, 1, 0, 0), (15, .iload_n 3, 1, 0, 0), (16, .iconst 5, 1, 0, 0), (17, .if_icmp .ge 61, 3, 78, 0), (20, .aload_n 0, 1, 0, 0), (21, .getfield 42, 3, 8, 5), (24, .aload_n 0, 1, 0, 0), 
  (25, .getfield 39, 3, 8, 4), (28, .invokevirtual 103, 3, 55, 1), (31, .aload_n 0, 1, 0, 0), (32, .getfield 42, 3, 8, 5), (35, .getfield 122, 3, 7, 4), (38, .iload_n 1, 1, 0, 0), (39, .iload_n 3, 1, 0, 0), (40, .iastore, 1, 0, 0), 
  (41, .aload_n 0, 1, 0, 0), (42, .getfield 42, 3, 8, 5), (45, .aload_n 0, 1, 0, 0), (46, .getfield 48, 3, 8, 6), (49, .invokevirtual 150, 3, 70, 1), (52, .aload_n 0, 1, 0, 0), (53, .getfield 62, 3, 8, 8), (56, .aload_n 0, 1, 0, 0), 
  (57, .getfield 48, 3, 8, 6), (60, .invokevirtual 254, 3, 26, 1), (63, .ifCond .eq 9, 3, 72, 0), (66, .iload_n 2, 1, 0, 0), (67, .iconst 1, 1, 0, 0), (68, .iload_n 3, 1, 0, 0), (69, .ishl, 1, 0, 0), (70, .ior, 1, 0, 0), 
  (71, .istore_n 2, 1, 0, 0), (72, .iinc 3 1, 3, 0, 0), (75, .goto (-60), 3, 15, 0), (78, .iload_n 2, 1, 0, 0), (79, .ireturn, 1, 0, 0)]
abbrev hX8_kinds : xHd := (yX8_kinds, cX8_kinds, 4, some .int)
theorem kX8_kinds : xck hX8_kinds rX8_kinds = true := by decide +kernel
def rX8_reel : List xRow := [(0, .iload_n 1, 1, 0, 0), (1, .invokestatic 258, 3, 119, 1), (4, .ifCond .eq 6, 3, 10, 0), (7, .bipush (-2), 2, 0, 0), (9, .ireturn, 1, 0, 0), (10, .iload_n 2, 1, 0, 0), (11, .invokestatic 261, 3, 120, 1), (14, .ifCond .ne 9, 3, 23, 0), 
  (17, .iload_n 3, 1, 0, 0), (18, .bipush 12, 2, 0, 0), (20, .if_icmp .le 6, 3, 26, 0), (23, .bipush (-3), 2, 0, 0), (25, .ireturn, 1, 0, 0), (26, .iload_n 3, 1, 0, 0), (27, .ifCond .ge 6, 3, 33, 0), (30, .bipush (-16), 2, 0, 0), 
  (32, .ireturn, 1, 0, 0), (33, .aload_n 0, 1, 0, 0), (34, .getfield 68, 3, 8, 9), (37, .iload_n 1, 1, 0, 0), (38, .aaload, 1, 0, 0), (39, .iload_n 2, 1, 0, 0), (40, .iload_n 3, 1, 0, 0), (41, .invokevirtual 264, 3, 18, 2), 
  (44, .iload_n 3, 1, 0, 0), (45, .ireturn, 1, 0, 0)]
abbrev hX8_reel : xHd := (yX8_reel, cX8_reel, 4, some .int)
theorem kX8_reel : xck hX8_reel rX8_reel = true := by decide +kernel
def rX8_record : List xRow := [(0, .iload_n 1, 1, 0, 0), (1, .invokestatic 258, 3, 119, 1), (4, .ifCond .ne 23, 3, 27, 0), (7, .iload_n 2, 1, 0, 0), (8, .iconst 3, 1, 0, 0), (9, .if_icmp .ne 21, 3, 30, 0), (12, .iload 4, 2, 0, 0), (14, .iconst (-1), 1, 0, 0), 
  (15, .if_icmp .eq 15, 3, 30, 0), (18, .aload_n 0, 1, 0, 0), (19, .iload 4, 2, 0, 0), (21, .invokevirtual 118, 3, 115, 1), (24, .ifCond .eq 6, 3, 30, 0), (27, .bipush (-2), 2, 0, 0), (29, .ireturn, 1, 0, 0), (30, .iload_n 2, 1, 0, 0), 
  (31, .invokestatic 261, 3, 120, 1), (34, .ifCond .eq 6, 3, 40, 0), (37, .bipush (-3), 2, 0, 0), (39, .ireturn, 1, 0, 0), (40, .aload_n 0, 1, 0, 0), (41, .getfield 68, 3, 8, 9), (44, .iload_n 1, 1, 0, 0), (45, .aaload, 1, 0, 0), 
  (46, .iload_n 2, 1, 0, 0), (47, .iload_n 3, 1, 0, 0), (48, .invokevirtual 267, 3, 19, 2), (51, .istore 5, 2, 0, 0), (53, .iload 5, 2, 0, 0), (55, .ifCond .ge 6, 3, 61, 0), (58, .iload 5, 2, 0, 0), (60, .ireturn, 1, 0, 0), 
  (61, .aload_n 0, 1, 0, 0), (62, .getfield 68, 3, 8, 9), (65, .iload_n 1, 1, 0, 0), (66, .aaload, 1, 0, 0), (67, .iload_n 3, 1, 0, 0), (68, .iload 4, 2, 0, 0), (70, .invokevirtual 270, 3, 21, 2), (73, .ireturn, 1, 0, 0)]
abbrev hX8_record : xHd := (yX8_record, cX8_record, 6, some .int)
theorem kX8_record : xck hX8_record rX8_record = true := by decide +kernel
def rX8_play : List xRow := [(0, .iload_n 1, 1, 0, 0), (1, .invokestatic 258, 3, 119, 1), (4, .ifCond .eq 6, 3, 10, 0), (7, .bipush (-2), 2, 0, 0), (9, .ireturn, 1, 0, 0), (10, .iload_n 2, 1, 0, 0), (11, .invokestatic 261, 3, 120, 1), (14, .ifCond .eq 6, 3, 20, 0), 
  (17, .bipush (-3), 2, 0, 0), (19, .ireturn, 1, 0, 0), (20, .aload_n 0, 1, 0, 0), (21, .getfield 68, 3, 8, 9), (24, .iload_n 1, 1, 0, 0), (25, .aaload, 1, 0, 0), (26, .iload_n 2, 1, 0, 0), (27, .iload_n 3, 1, 0, 0), 
  (28, .invokevirtual 267, 3, 19, 2), (31, .istore 4, 2, 0, 0), (33, .iload 4, 2, 0, 0), (35, .ifCond .ge 6, 3, 41, 0), (38, .iload 4, 2, 0, 0), (40, .ireturn, 1, 0, 0), (41, .aload_n 0, 1, 0, 0), (42, .getfield 68, 3, 8, 9), 
  (45, .iload_n 1, 1, 0, 0), (46, .aaload, 1, 0, 0), (47, .iload_n 3, 1, 0, 0), (48, .invokevirtual 273, 3, 22, 1), (51, .ireturn, 1, 0, 0)]
abbrev hX8_play : xHd := (yX8_play, cX8_play, 5, some .int)
theorem kX8_play : xck hX8_play rX8_play = true := by decide +kernel
def rX8_splice : List xRow := [(0, .iload_n 1, 1, 0, 0), (1, .invokestatic 258, 3, 119, 1), (4, .ifCond .ne 10, 3, 14, 0), (7, .iload_n 3, 1, 0, 0), (8, .invokestatic 258, 3, 119, 1), (11, .ifCond .eq 6, 3, 17, 0), (14, .bipush (-2), 2, 0, 0), (16, .ireturn, 1, 0, 0), 
  (17, .aload_n 0, 1, 0, 0), (18, .getfield 68, 3, 8, 9), (21, .iload_n 1, 1, 0, 0), (22, .aaload, 1, 0, 0), (23, .astore 6, 2, 0, 0), (25, .aload_n 0, 1, 0, 0), (26, .getfield 68, 3, 8, 9), (29, .iload_n 3, 1, 0, 0), 
  (30, .aaload, 1, 0, 0), (31, .astore 7, 2, 0, 0), (33, .aload 6, 2, 0, 0), (35, .getfield 276, 3, 2, 1), (38, .ifCond .eq 11, 3, 49, 0), (41, .aload 7, 2, 0, 0), (43, .getfield 276, 3, 2, 1), (46, .ifCond .ne 6, 3, 52, 0), 
  (49, .bipush (-11), 2, 0, 0), (51, .ireturn, 1, 0, 0), (52, .aload 6, 2, 0, 0), (54, .getfield 280, 3, 2, 2), (57, .aload 7, 2, 0, 0), (59, .getfield 280, 3, 2, 2), (62, .if_icmp .eq 6, 3, 68, 0), (65, .bipush (-13), 2, 0, 0), 
  (67, .ireturn, 1, 0, 0), (68, .aload 6, 2, 0, 0), (70, .iload_n 2, 1, 0, 0), (71, .iload 5, 2, 0, 0), (73, .invokevirtual 283, 3, 20, 2), (76, .ifCond .eq 15, 3, 91, 0), (79, .aload 7, 2, 0, 0), (81, .iload 4, 2, 0, 0), 
  (83, .iload 5, 2, 0, 0), (85, .invokevirtual 283, 3, 20, 2), (88, .ifCond .ne 6, 3, 94, 0), (91, .bipush (-14), 2, 0, 0), (93, .ireturn, 1, 0, 0), (94, .aload 6, 2, 0, 0), (96, .getfield 287, 3, 2, 0), (99, .iload_n 2, 1, 0, 0), 
  (100, .aload 7, 2, 0, 0), (102, .getfield 287, 3, 2, 0), (105, .iload 4, 2, 0, 0), (107, .iload 5, 2, 0, 0), (109, .invokestatic 290, 3, 1000, 0), (112, .iload 5, 2, 0, 0), (114, .ireturn, 1, 0, 0)]
abbrev hX8_splice : xHd := (yX8_splice, cX8_splice, 8, some .int)
theorem kX8_splice : xck hX8_splice rX8_splice = true := by decide +kernel
def rX8_drop : List xRow := [(0, .iload_n 1, 1, 0, 0), (1, .invokestatic 258, 3, 119, 1), (4, .ifCond .eq 6, 3, 10, 0), (7, .bipush (-2), 2, 0, 0), (9, .ireturn, 1, 0, 0), (10, .aload_n 0, 1, 0, 0), (11, .getfield 68, 3, 8, 9), (14, .iload_n 1, 1, 0, 0), 
  (15, .aaload, 1, 0, 0), (16, .getfield 276, 3, 2, 1), (19, .ifCond .ne 6, 3, 25, 0), (22, .bipush (-11), 2, 0, 0), (24, .ireturn, 1, 0, 0), (25, .aload_n 0, 1, 0, 0), (26, .getfield 68, 3, 8, 9), (29, .iload_n 1, 1, 0, 0), 
  (30, .aaload, 1, 0, 0), (31, .iconst 0, 1, 0, 0), (32, .putfield 276, 3, 2, 101), (35, .aload_n 0, 1, 0, 0), (36, .getfield 68, 3, 8, 9), (39, .iload_n 1, 1, 0, 0), (40, .aaload, 1, 0, 0), (41, .getfield 296, 3, 2, 3), 
  (44, .ireturn, 1, 0, 0)]
abbrev hX8_drop : xHd := (yX8_drop, cX8_drop, 2, some .int)
theorem kX8_drop : xck hX8_drop rX8_drop = true := by decide +kernel
def rX8_count : List xRow := [(0, .iload_n 1, 1, 0, 0), (1, .tableswitch 132 0 9 #[55, 63, 71, 79, 87, 95, 103, 108, 116, 124], 55, 0, 0), (56, .aload_n 0, 1, 0, 0), (57, .getfield 39, 3, 8, 4), (60, .getfield 219, 3, 7, 0), (63, .ireturn, 1, 0, 0), (64, .aload_n 0, 1, 0, 0), (65, .getfield 39, 3, 8, 4), 
  (68, .getfield 216, 3, 7, 1), (71, .ireturn, 1, 0, 0), (72, .aload_n 0, 1, 0, 0), (73, .getfield 39, 3, 8, 4), (76, .getfield 164, 3, 7, 2), (79, .ireturn, 1, 0, 0), (80, .aload_n 0, 1, 0, 0), (81, .getfield 39, 3, 8, 4), 
  (84, .getfield 183, 3, 7, 3), (87, .ireturn, 1, 0, 0), (88, .aload_n 0, 1, 0, 0), (89, .getfield 39, 3, 8, 4), (92, .invokevirtual 297, 3, 64, 0), (95, .ireturn, 1, 0, 0), (96, .aload_n 0, 1, 0, 0), (97, .getfield 62, 3, 8, 8), 
  (100, .getfield 251, 3, 3, 3), (103, .ireturn, 1, 0, 0), (104, .aload_n 0, 1, 0, 0), (105, .invokevirtual 301, 3, 128, 0), (108, .ireturn, 1, 0, 0), (109, .aload_n 0, 1, 0, 0), (110, .getfield 55, 3, 8, 7), (113, .getfield 190, 3, 1, 4), 
  (116, .ireturn, 1, 0, 0), (117, .aload_n 0, 1, 0, 0), (118, .getfield 10, 3, 8, 0), (121, .getfield 81, 3, 5, 1), (124, .ireturn, 1, 0, 0), (125, .aload_n 0, 1, 0, 0), (126, .getfield 39, 3, 8, 4), (129, .invokevirtual 304, 3, 63, 0), 
  (132, .ireturn, 1, 0, 0), (133, .bipush (-3), 2, 0, 0), (135, .ireturn, 1, 0, 0)]
abbrev hX8_count : xHd := (yX8_count, cX8_count, 2, some .int)
theorem kX8_count : xck hX8_count rX8_count = true := by decide +kernel
def rX8_isNot : List xRow := [(0, .iload_n 0, 1, 0, 0), (1, .iload_n 1, 1, 0, 0), (2, .if_icmp .lt 8, 3, 10, 0), (5, .iload_n 0, 1, 0, 0), (6, .iload_n 2, 1, 0, 0), (7, .if_icmp .le 7, 3, 14, 0), (10, .iconst 1, 1, 0, 0), (11, .goto 4, 3, 15, 0), 
  (14, .iconst 0, 1, 0, 0), (15, .ireturn, 1, 0, 0)]
abbrev hX8_isNot : xHd := (yX8_isNot, cX8_isNot, 3, some .boolean)
theorem kX8_isNot : xck hX8_isNot rX8_isNot = true := by decide +kernel
def rX8_noBird : List xRow := [(0, .iload_n 1, 1, 0, 0), (1, .iconst 0, 1, 0, 0), (2, .aload_n 0, 1, 0, 0), (3, .getfield 39, 3, 8, 4), (6, .getfield 219, 3, 7, 0), (9, .iconst 1, 1, 0, 0), (10, .isub, 1, 0, 0), (11, .invokestatic 77, 3, 114, 3), 
  (14, .ireturn, 1, 0, 0)]
abbrev hX8_noBird : xHd := (yX8_noBird, cX8_noBird, 2, some .boolean)
theorem kX8_noBird : xck hX8_noBird rX8_noBird = true := by decide +kernel
def rX8_noMan : List xRow := [(0, .iload_n 1, 1, 0, 0), (1, .iconst 0, 1, 0, 0), (2, .aload_n 0, 1, 0, 0), (3, .getfield 39, 3, 8, 4), (6, .getfield 216, 3, 7, 1), (9, .iconst 1, 1, 0, 0), (10, .isub, 1, 0, 0), (11, .invokestatic 77, 3, 114, 3), 
  (14, .ireturn, 1, 0, 0)]
abbrev hX8_noMan : xHd := (yX8_noMan, cX8_noMan, 2, some .boolean)
theorem kX8_noMan : xck hX8_noMan rX8_noMan = true := by decide +kernel
def rX8_noWord : List xRow := [(0, .iload_n 0, 1, 0, 0), (1, .iconst 0, 1, 0, 0), (2, .bipush 9, 2, 0, 0), (4, .invokestatic 77, 3, 114, 3), (7, .ireturn, 1, 0, 0)]
abbrev hX8_noWord : xHd := (yX8_noWord, cX8_noWord, 1, some .boolean)
theorem kX8_noWord : xck hX8_noWord rX8_noWord = true := by decide +kernel
def rX8_noPerch : List xRow := [(0, .iload_n 0, 1, 0, 0), (1, .iconst 0, 1, 0, 0), (2, .iconst 3, 1, 0, 0), (3, .invokestatic 77, 3, 114, 3), (6, .ireturn, 1, 0, 0)]
abbrev hX8_noPerch : xHd := (yX8_noPerch, cX8_noPerch, 1, some .boolean)
theorem kX8_noPerch : xck hX8_noPerch rX8_noPerch = true := by decide +kernel
def rX8_noReel : List xRow := [(0, .iload_n 0, 1, 0, 0), (1, .iconst 0, 1, 0, 0), (2, .iconst 2, 1, 0, 0), (3, .invokestatic 77, 3, 114, 3), (6, .ireturn, 1, 0, 0)]
abbrev hX8_noReel : xHd := (yX8_noReel, cX8_noReel, 1, some .boolean)
theorem kX8_noReel : xck hX8_noReel rX8_noReel = true := by decide +kernel
def rX8_noSort : List xRow := [(0, .iload_n 0, 1, 0, 0), (1, .iconst 0, 1, 0, 0), (2, .iconst 3, 1, 0, 0), (3, .invokestatic 77, 3, 114, 3), (6, .ireturn, 1, 0, 0)]
abbrev hX8_noSort : xHd := (yX8_noSort, cX8_noSort, 1, some .boolean)
theorem kX8_noSort : xck hX8_noSort rX8_noSort = true := by decide +kernel
def rX8_foretellSpeech : List xRow := [(0, .aload_n 0, 1, 0, 0), (1, .getfield 42, 3, 8, 5), (4, .aload_n 0, 1, 0, 0), (5, .getfield 39, 3, 8, 4), (8, .invokevirtual 103, 3, 55, 1), (11, .aload_n 0, 1, 0, 0), (12, .getfield 42, 3, 8, 5), (15, .aload_n 0, 1, 0, 0), 
  (16, .getfield 48, 3, 8, 6), (19, .invokevirtual 150, 3, 70, 1), (22, .return_, 1, 0, 0)]
abbrev hX8_foretellSpeech : xHd := (yX8_foretellSpeech, cX8_foretellSpeech, 1, none)
theorem kX8_foretellSpeech : xck hX8_foretellSpeech rX8_foretellSpeech = true := by decide +kernel
def rX8_keptWords : List xRow := [(0, .aload_n 0, 1, 0, 0), (1, .getfield 42, 3, 8, 5), (4, .aload_n 0, 1, 0, 0), (5, .getfield 39, 3, 8, 4), (8, .invokevirtual 103, 3, 55, 1), (11, .aload_n 0, 1, 0, 0), (12, .getfield 42, 3, 8, 5), (15, .iload_n 1, 1, 0, 0), 
  (16, .iload_n 2, 1, 0, 0), (17, .invokevirtual 186, 3, 66, 2), (20, .iconst 0, 1, 0, 0), (21, .istore 4, 2, 0, 0), (23, .iload 4, 2, 0, 0), (25, .iload_n 3, 1, 0, 0), (26, .if_icmp .ge 20, 3, 46, 0), (29, .aload_n 0, 1, 0, 0), 
  (30, .getfield 42, 3, 8, 5), (33, .aload_n 0, 1, 0, 0), (34, .getfield 48, 3, 8, 6), (37, .invokevirtual 150, 3, 70, 1), (40, .iinc 4 1, 3, 0, 0), (43, .goto (-20), 3, 23, 0), (46, .aload_n 0, 1, 0, 0), (47, .getfield 39, 3, 8, 4), 
  (50, .getfield 141, 3, 7, 7), (53, .iload_n 1, 1, 0, 0), (54, .iaload, 1, 0, 0), (55, .aload_n 0, 1, 0, 0), (56, .getfield 42, 3, 8, 5), (59, .iload_n 2, 1, 0, 0), (60, .invokevirtual 135, 3, 62, 1), (63, .iand, 1, 0, 0), 
  (64, .invokestatic 231, 3, 223, 1), (67, .ireturn, 1, 0, 0)]
abbrev hX8_keptWords : xHd := (yX8_keptWords, cX8_keptWords, 5, some .int)
theorem kX8_keptWords : xck hX8_keptWords rX8_keptWords = true := by decide +kernel
def rX8_mostKept : List xRow := [(0, .iload_n 1, 1, 0, 0), (1, .aload_n 0, 1, 0, 0), (2, .getfield 39, 3, 8, 4), (5, .getfield 216, 3, 7, 1), (8, .if_icmp .lt 5, 3, 13, 0), (11, .iconst 0, 1, 0, 0), (12, .ireturn, 1, 0, 0), (13, .aload_n 0, 1, 0, 0), 
  (14, .iload_n 1, 1, 0, 0), (15, .iconst 1, 1, 0, 0), (16, .iadd, 1, 0, 0), (17, .iload_n 2, 1, 0, 0), (18, .invokevirtual 222, 3, 123, 2), (21, .istore_n 3, 1, 0, 0), (22, .iconst 0, 1, 0, 0), (23, .istore 4, 2, 0, 0), 
  (25, .iload 4, 2, 0, 0), (27, .aload_n 0, 1, 0, 0), (28, .getfield 39, 3, 8, 4), (31, .getfield 219, 3, 7, 0), (34, .if_icmp .ge 49, 3, 83, 0), (37, .iload_n 2, 1, 0, 0), (38, .iload 4, 2, 0, 0), (40, .ishr, 1, 0, 0), 
  (41, .iconst 1, 1, 0, 0), (42, .iand, 1, 0, 0), (43, .ifCond .ne 34, 3, 77, 0), (46, .iload_n 3, 1, 0, 0), (47, .aload_n 0, 1, 0, 0), (48, .getfield 73, 3, 8, 10), (51, .iload_n 1, 1, 0, 0), (52, .bipush 8, 2, 0, 0), 
  (54, .imul, 1, 0, 0), (55, .iload 4, 2, 0, 0), (57, .iadd, 1, 0, 0), (58, .iaload, 1, 0, 0), (59, .aload_n 0, 1, 0, 0), (60, .iload_n 1, 1, 0, 0), (61, .iconst 1, 1, 0, 0), (62, .iadd, 1, 0, 0), 
  (63, .iload_n 2, 1, 0, 0), (64, .iconst 1, 1, 0, 0), (65, .iload 4, 2, 0, 0), (67, .ishl, 1, 0, 0), (68, .ior, 1, 0, 0), (69, .invokevirtual 222, 3, 123, 2), (72, .iadd, 1, 0, 0), (73, .invokestatic 307, 3, 224, 2), 
  (76, .istore_n 3, 1, 0, 0), (77, .iinc 4 1, 3, 0, 0), (80, .goto (-55), 3, 25, 0), (83, .iload_n 3, 1, 0, 0), (84, .ireturn, 1, 0, 0)]
abbrev hX8_mostKept : xHd := (yX8_mostKept, cX8_mostKept, 5, some .int)
theorem kX8_mostKept : xck hX8_mostKept rX8_mostKept = true := by decide +kernel
def rX8_matchOf : List xRow := [(0, .iconst 0, 1, 0, 0), (1, .istore_n 2, 1, 0, 0), (2, .iconst (-1), 1, 0, 0), (3, .istore_n 3, 1, 0, 0), (4, .iconst 0, 1, 0, 0), (5, .istore 4, 2, 0, 0), (7, .iload 4, 2, 0, 0), (9, .iload_n 1, 1, 0, 0), 
  (10, .if_icmp .gt 28, 3, 38, 0), (13, .aload_n 0, 1, 0, 0), (14, .iload 4, 2, 0, 0), (16, .iload_n 2, 1, 0, 0), (17, .invokevirtual 312, 3, 125, 2), (20, .istore_n 3, 1, 0, 0), (21, .iload_n 3, 1, 0, 0), (22, .iconst (-1), 1, 0, 0), 
  (23, .if_icmp .eq 9, 3, 32, 0), (26, .iload_n 2, 1, 0, 0), (27, .iconst 1, 1, 0, 0), (28, .iload_n 3, 1, 0, 0), (29, .ishl, 1, 0, 0), (30, .ior, 1, 0, 0), (31, .istore_n 2, 1, 0, 0), (32, .iinc 4 1, 3, 0, 0), 
  (35, .goto (-28), 3, 7, 0), (38, .iload_n 3, 1, 0, 0), (39, .ireturn, 1, 0, 0)]
abbrev hX8_matchOf : xHd := (yX8_matchOf, cX8_matchOf, 5, some .int)
theorem kX8_matchOf : xck hX8_matchOf rX8_matchOf = true := by decide +kernel
def rX8_leastChoice : List xRow := [(0, .aload_n 0, 1, 0, 0), (1, .iload_n 1, 1, 0, 0), (2, .iload_n 2, 1, 0, 0), (3, .invokevirtual 222, 3, 123, 2), (6, .istore_n 3, 1, 0, 0), (7, .iconst 0, 1, 0, 0), (8, .istore 4, 2, 0, 0), (10, .iload 4, 2, 0, 0), 
  (12, .aload_n 0, 1, 0, 0), (13, .getfield 39, 3, 8, 4), (16, .getfield 219, 3, 7, 0), (19, .if_icmp .ge 51, 3, 70, 0), (22, .iload_n 2, 1, 0, 0), (23, .iload 4, 2, 0, 0), (25, .ishr, 1, 0, 0), (26, .iconst 1, 1, 0, 0), 
  (27, .iand, 1, 0, 0), (28, .ifCond .ne 36, 3, 64, 0), (31, .aload_n 0, 1, 0, 0), (32, .getfield 73, 3, 8, 10), (35, .iload_n 1, 1, 0, 0), (36, .bipush 8, 2, 0, 0), (38, .imul, 1, 0, 0), (39, .iload 4, 2, 0, 0), 
  (41, .iadd, 1, 0, 0), (42, .iaload, 1, 0, 0), (43, .aload_n 0, 1, 0, 0), (44, .iload_n 1, 1, 0, 0), (45, .iconst 1, 1, 0, 0), (46, .iadd, 1, 0, 0), (47, .iload_n 2, 1, 0, 0), (48, .iconst 1, 1, 0, 0), 
  (49, .iload 4, 2, 0, 0), (51, .ishl, 1, 0, 0), (52, .ior, 1, 0, 0), (53, .invokevirtual 222, 3, 123, 2), (56, .iadd, 1, 0, 0), (57, .iload_n 3, 1, 0, 0), (58, .if_icmp .ne 6, 3, 64, 0), (61, .iload 4, 2, 0, 0), 
  (63, .ireturn, 1, 0, 0), (64, .iinc 4 1, 3, 0, 0), (67, .goto (-57), 3, 10, 0), (70, .iconst (-1), 1, 0, 0), (71, .ireturn, 1, 0, 0)]
abbrev hX8_leastChoice : xHd := (yX8_leastChoice, cX8_leastChoice, 5, some .int)
theorem kX8_leastChoice : xck hX8_leastChoice rX8_leastChoice = true := by decide +kernel
def rX8_staysClean : List xRow := [(0, .aload_n 0, 1, 0, 0), (1, .getfield 42, 3, 8, 5), (4, .aload_n 0, 1, 0, 0), (5, .getfield 39, 3, 8, 4), (8, .invokevirtual 103, 3, 55, 1), (11, .aload_n 0, 1, 0, 0), (12, .getfield 42, 3, 8, 5), (15, .dup, 1, 0, 0), 
  (16, .getfield 183, 3, 7, 3), (19, .iload 4, 2, 0, 0), (21, .ior, 1, 0, 0), (22, .putfield 183, 3, 7, 3), (25, .iconst 0, 1, 0, 0), (26, .istore 5, 2, 0, 0), (28, .iload 5, 2, 0, 0), (30, .iload_n 3, 1, 0, 0), 
  (31, .if_icmp .ge 20, 3, 51, 0), (34, .aload_n 0, 1, 0, 0), (35, .getfield 42, 3, 8, 5), (38, .aload_n 0, 1, 0, 0), (39, .getfield 48, 3, 8, 6), (42, .invokevirtual 150, 3, 70, 1), (45, .iinc 5 1, 3, 0, 0), (48, .goto (-20), 3, 28, 0), 
  (51, .aload_n 0, 1, 0, 0), (52, .getfield 42, 3, 8, 5), (55, .iload_n 1, 1, 0, 0), (56, .iload_n 2, 1, 0, 0), (57, .invokevirtual 154, 3, 60, 2), (60, .iconst 5, 1, 0, 0), (61, .if_icmp .ge 7, 3, 68, 0), (64, .iconst 1, 1, 0, 0), 
  (65, .goto 4, 3, 69, 0), (68, .iconst 0, 1, 0, 0), (69, .ireturn, 1, 0, 0)]
abbrev hX8_staysClean : xHd := (yX8_staysClean, cX8_staysClean, 6, some .boolean)
theorem kX8_staysClean : xck hX8_staysClean rX8_staysClean = true := by decide +kernel
def rX8_commonDivisor : List xRow := [(0, .iload_n 0, 1, 0, 0), (1, .istore_n 2, 1, 0, 0), (2, .iload_n 1, 1, 0, 0), (3, .istore_n 3, 1, 0, 0), (4, .iconst 0, 1, 0, 0), (5, .istore 4, 2, 0, 0), (7, .iload 4, 2, 0, 0), (9, .bipush 100, 2, 0, 0), 
  (11, .if_icmp .ge 23, 3, 34, 0), (14, .iload_n 3, 1, 0, 0), (15, .ifCond .le 19, 3, 34, 0), (18, .iload_n 2, 1, 0, 0), (19, .iload_n 3, 1, 0, 0), (20, .irem, 1, 0, 0), (21, .istore 5, 2, 0, 0), (23, .iload_n 3, 1, 0, 0), 
  (24, .istore_n 2, 1, 0, 0), (25, .iload 5, 2, 0, 0), (27, .istore_n 3, 1, 0, 0), (28, .iinc 4 1, 3, 0, 0), (31, .goto (-24), 3, 7, 0), (34, .iload_n 2, 1, 0, 0), (35, .iconst 1, 1, 0, 0), (36, .invokestatic 307, 3, 224, 2), 
  (39, .ireturn, 1, 0, 0)]
abbrev hX8_commonDivisor : xHd := (yX8_commonDivisor, cX8_commonDivisor, 6, some .int)
theorem kX8_commonDivisor : xck hX8_commonDivisor rX8_commonDivisor = true := by decide +kernel
def rX8_reelsThere : List xRow := [(0, .iconst 0, 1, 0, 0), (1, .istore_n 1, 1, 0, 0), (2, .iconst 0, 1, 0, 0), (3, .istore_n 2, 1, 0, 0), (4, .iload_n 2, 1, 0, 0), (5, .iconst 3, 1, 0, 0), (6, .if_icmp .ge 24, 3, 30, 0), (9, .aload_n 0, 1, 0, 0), 
  (10, .getfield 68, 3, 8, 9), (13, .iload_n 2, 1, 0, 0), (14, .aaload, 1, 0, 0), (15, .getfield 276, 3, 2, 1), (18, .ifCond .eq 6, 3, 24, 0), (21, .iinc 1 1, 3, 0, 0), (24, .iinc 2 1, 3, 0, 0), (27, .goto (-23), 3, 4, 0), 
  (30, .iload_n 1, 1, 0, 0), (31, .ireturn, 1, 0, 0)]
abbrev hX8_reelsThere : xHd := (yX8_reelsThere, cX8_reelsThere, 3, some .int)
theorem kX8_reelsThere : xck hX8_reelsThere rX8_reelsThere = true := by decide +kernel
