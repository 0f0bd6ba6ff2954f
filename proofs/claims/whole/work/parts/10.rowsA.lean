def rX0_readOver : List xRow := [(0, .aload_n 0, 1, 0, 0), (1, .getfield 12, 3, 0, 1), (4, .aload_n 1, 1, 0, 0), (5, .invokevirtual 22, 3, 55, 1), (8, .aload_n 0, 1, 0, 0), (9, .getfield 18, 3, 0, 0), (12, .invokevirtual 26, 3, 34, 0), (15, .aload_n 0, 1, 0, 0), 
  (16, .iconst 1, 1, 0, 0), (17, .putfield 31, 3, 0, 2), (20, .aload_n 0, 1, 0, 0), (21, .getfield 31, 3, 0, 2), (24, .bipush 20, 2, 0, 0), (26, .if_icmp .gt 77, 3, 103, 0), (29, .aload_n 0, 1, 0, 0), (30, .getfield 18, 3, 0, 0), 
  (33, .invokevirtual 35, 3, 35, 0), (36, .aload_n 0, 1, 0, 0), (37, .invokevirtual 38, 3, 2, 0), (40, .ifCond .ne 11, 3, 51, 0), (43, .aload_n 0, 1, 0, 0), (44, .getfield 18, 3, 0, 0), (47, .getfield 42, 3, 5, 2), (50, .ireturn, 1, 0, 0), 
  (51, .aload_n 0, 1, 0, 0), (52, .getfield 18, 3, 0, 0), (55, .invokevirtual 35, 3, 35, 0), (58, .aload_n 0, 1, 0, 0), (59, .getfield 18, 3, 0, 0), (62, .invokevirtual 45, 3, 37, 0), (65, .ifCond .eq 5, 3, 70, 0), (68, .iconst (-1), 1, 0, 0), 
  (69, .ireturn, 1, 0, 0), (70, .aload_n 0, 1, 0, 0), (71, .getfield 18, 3, 0, 0), (74, .bipush 59, 2, 0, 0), (76, .invokevirtual 48, 3, 38, 1), (79, .ifCond .ne 11, 3, 90, 0), (82, .aload_n 0, 1, 0, 0), (83, .getfield 18, 3, 0, 0), 
  (86, .getfield 42, 3, 5, 2), (89, .ireturn, 1, 0, 0), (90, .aload_n 0, 1, 0, 0), (91, .dup, 1, 0, 0), (92, .getfield 31, 3, 0, 2), (95, .iconst 1, 1, 0, 0), (96, .iadd, 1, 0, 0), (97, .putfield 31, 3, 0, 2), 
  (100, .goto (-80), 3, 20, 0), (103, .aload_n 0, 1, 0, 0), (104, .getfield 18, 3, 0, 0), (107, .getfield 42, 3, 5, 2), (110, .ireturn, 1, 0, 0)]
abbrev hX0_readOver : xHd := (yX0_readOver, cX0_readOver, 2, some .int)
theorem kX0_readOver : xck hX0_readOver rX0_readOver = true := by decide +kernel
def rX0_readClause : List xRow := [(0, .aload_n 0, 1, 0, 0), (1, .invokevirtual 52, 3, 3, 0), (4, .istore_n 1, 1, 0, 0), (5, .iload_n 1, 1, 0, 0), (6, .iconst (-1), 1, 0, 0), (7, .if_icmp .eq 9, 3, 16, 0), (10, .aload_n 0, 1, 0, 0), (11, .iload_n 1, 1, 0, 0), 
  (12, .invokevirtual 56, 3, 4, 1), (15, .ireturn, 1, 0, 0), (16, .aload_n 0, 1, 0, 0), (17, .getfield 18, 3, 0, 0), (20, .ldc 60, 2, 5, 1), (22, .invokevirtual 62, 3, 39, 1), (25, .ifCond .eq 12, 3, 37, 0), (28, .aload_n 0, 1, 0, 0), 
  (29, .getfield 12, 3, 0, 1), (32, .invokevirtual 66, 3, 56, 0), (35, .iconst 1, 1, 0, 0), (36, .ireturn, 1, 0, 0), (37, .aload_n 0, 1, 0, 0), (38, .getfield 18, 3, 0, 0), (41, .ldc 69, 2, 6, 1), (43, .invokevirtual 62, 3, 39, 1), 
  (46, .ifCond .eq 8, 3, 54, 0), (49, .aload_n 0, 1, 0, 0), (50, .invokevirtual 71, 3, 5, 0), (53, .ireturn, 1, 0, 0), (54, .aload_n 0, 1, 0, 0), (55, .getfield 18, 3, 0, 0), (58, .ldc 74, 2, 7, 1), (60, .invokevirtual 62, 3, 39, 1), 
  (63, .ifCond .eq 8, 3, 71, 0), (66, .aload_n 0, 1, 0, 0), (67, .invokevirtual 76, 3, 6, 0), (70, .ireturn, 1, 0, 0), (71, .aload_n 0, 1, 0, 0), (72, .getfield 18, 3, 0, 0), (75, .ldc 79, 2, 8, 1), (77, .invokevirtual 62, 3, 39, 1), 
  (80, .ifCond .eq 8, 3, 88, 0), (83, .aload_n 0, 1, 0, 0), (84, .invokevirtual 81, 3, 7, 0), (87, .ireturn, 1, 0, 0), (88, .aload_n 0, 1, 0, 0), (89, .getfield 18, 3, 0, 0), (92, .ldc 84, 2, 9, 1), (94, .invokevirtual 62, 3, 39, 1), 
  (97, .ifCond .eq 14, 3, 111, 0), (100, .aload_n 0, 1, 0, 0), (101, .invokevirtual 86, 3, 8, 0), (104, .ifCond .eq 7, 3, 111, 0), (107, .iconst 1, 1, 0, 0), (108, .goto 4, 3, 112, 0), (111, .iconst 0, 1, 0, 0), (112, .ireturn, 1, 0, 0)]
abbrev hX0_readClause : xHd := (yX0_readClause, cX0_readClause, 2, some .boolean)
theorem kX0_readClause : xck hX0_readClause rX0_readClause = true := by decide +kernel
def rX0_kindNamed : List xRow := [(0, .aload_n 0, 1, 0, 0), (1, .getfield 18, 3, 0, 0), (4, .ldc 89, 2, 0, 1), (6, .invokevirtual 62, 3, 39, 1), (9, .ifCond .eq 5, 3, 14, 0), (12, .iconst 0, 1, 0, 0), (13, .ireturn, 1, 0, 0), (14, .aload_n 0, 1, 0, 0), 
  (15, .getfield 18, 3, 0, 0), (18, .ldc 91, 2, 1, 1), (20, .invokevirtual 62, 3, 39, 1), (23, .ifCond .eq 5, 3, 28, 0), (26, .iconst 1, 1, 0, 0), (27, .ireturn, 1, 0, 0), (28, .aload_n 0, 1, 0, 0), (29, .getfield 18, 3, 0, 0), 
  (32, .ldc 93, 2, 2, 1), (34, .invokevirtual 62, 3, 39, 1), (37, .ifCond .eq 5, 3, 42, 0), (40, .iconst 2, 1, 0, 0), (41, .ireturn, 1, 0, 0), (42, .aload_n 0, 1, 0, 0), (43, .getfield 18, 3, 0, 0), (46, .ldc 95, 2, 3, 1), 
  (48, .invokevirtual 62, 3, 39, 1), (51, .ifCond .eq 5, 3, 56, 0), (54, .iconst 3, 1, 0, 0), (55, .ireturn, 1, 0, 0), (56, .aload_n 0, 1, 0, 0), (57, .getfield 18, 3, 0, 0), (60, .ldc 97, 2, 4, 1), (62, .invokevirtual 62, 3, 39, 1), 
  (65, .ifCond .eq 7, 3, 72, 0), (68, .iconst 4, 1, 0, 0), (69, .goto 4, 3, 73, 0), (72, .iconst (-1), 1, 0, 0), (73, .ireturn, 1, 0, 0)]
abbrev hX0_kindNamed : xHd := (yX0_kindNamed, cX0_kindNamed, 1, some .int)
theorem kX0_kindNamed : xck hX0_kindNamed rX0_kindNamed = true := by decide +kernel
def rX0_readBird : List xRow := [(0, .aload_n 0, 1, 0, 0), (1, .getfield 12, 3, 0, 1), (4, .getfield 99, 3, 7, 0), (7, .bipush 8, 2, 0, 0), (9, .if_icmp .lt 5, 3, 14, 0), (12, .iconst 0, 1, 0, 0), (13, .ireturn, 1, 0, 0), (14, .aload_n 0, 1, 0, 0), 
  (15, .iconst 4, 1, 0, 0), (16, .invokevirtual 102, 3, 9, 1), (19, .istore_n 2, 1, 0, 0), (20, .iload_n 2, 1, 0, 0), (21, .iconst (-1), 1, 0, 0), (22, .if_icmp .ne 5, 3, 27, 0), (25, .iconst 0, 1, 0, 0), (26, .ireturn, 1, 0, 0), 
  (27, .aload_n 0, 1, 0, 0), (28, .getfield 12, 3, 0, 1), (31, .iload_n 1, 1, 0, 0), (32, .iload_n 2, 1, 0, 0), (33, .invokevirtual 106, 3, 57, 2), (36, .iconst 1, 1, 0, 0), (37, .ireturn, 1, 0, 0)]
abbrev hX0_readBird : xHd := (yX0_readBird, cX0_readBird, 3, some .boolean)
theorem kX0_readBird : xck hX0_readBird rX0_readBird = true := by decide +kernel
def rX0_readMan : List xRow := [(0, .aload_n 0, 1, 0, 0), (1, .getfield 12, 3, 0, 1), (4, .getfield 110, 3, 7, 1), (7, .iconst 4, 1, 0, 0), (8, .if_icmp .lt 5, 3, 13, 0), (11, .iconst 0, 1, 0, 0), (12, .ireturn, 1, 0, 0), (13, .aload_n 0, 1, 0, 0), 
  (14, .getfield 18, 3, 0, 0), (17, .invokevirtual 35, 3, 35, 0), (20, .aload_n 0, 1, 0, 0), (21, .getfield 18, 3, 0, 0), (24, .invokevirtual 113, 3, 42, 0), (27, .istore_n 1, 1, 0, 0), (28, .iload_n 1, 1, 0, 0), (29, .ifCond .ne 5, 3, 34, 0), 
  (32, .iconst 0, 1, 0, 0), (33, .ireturn, 1, 0, 0), (34, .aload_n 0, 1, 0, 0), (35, .getfield 12, 3, 0, 1), (38, .iload_n 1, 1, 0, 0), (39, .invokevirtual 116, 3, 58, 1), (42, .iconst 1, 1, 0, 0), (43, .ireturn, 1, 0, 0)]
abbrev hX0_readMan : xHd := (yX0_readMan, cX0_readMan, 2, some .boolean)
theorem kX0_readMan : xck hX0_readMan rX0_readMan = true := by decide +kernel
def rX0_readKnows : List xRow := [(0, .aload_n 0, 1, 0, 0), (1, .aload_n 0, 1, 0, 0), (2, .getfield 12, 3, 0, 1), (5, .getfield 99, 3, 7, 0), (8, .invokevirtual 102, 3, 9, 1), (11, .istore_n 1, 1, 0, 0), (12, .iload_n 1, 1, 0, 0), (13, .iconst (-1), 1, 0, 0), 
  (14, .if_icmp .ne 5, 3, 19, 0), (17, .iconst 0, 1, 0, 0), (18, .ireturn, 1, 0, 0), (19, .aload_n 0, 1, 0, 0), (20, .getfield 18, 3, 0, 0), (23, .invokevirtual 35, 3, 35, 0), (26, .aload_n 0, 1, 0, 0), (27, .getfield 18, 3, 0, 0), 
  (30, .invokevirtual 120, 3, 41, 0), (33, .istore_n 2, 1, 0, 0), (34, .iload_n 2, 1, 0, 0), (35, .iconst (-1), 1, 0, 0), (36, .if_icmp .ne 5, 3, 41, 0), (39, .iconst 0, 1, 0, 0), (40, .ireturn, 1, 0, 0), (41, .aload_n 0, 1, 0, 0), 
  (42, .bipush 10, 2, 0, 0), (44, .invokevirtual 102, 3, 9, 1), (47, .istore_n 3, 1, 0, 0), (48, .iload_n 3, 1, 0, 0), (49, .iconst (-1), 1, 0, 0), (50, .if_icmp .ne 5, 3, 55, 0), (53, .iconst 0, 1, 0, 0), (54, .ireturn, 1, 0, 0), 
  (55, .aload_n 0, 1, 0, 0), (56, .getfield 12, 3, 0, 1), (59, .getfield 123, 3, 7, 6), (62, .iload_n 1, 1, 0, 0), (63, .bipush 10, 2, 0, 0), (65, .imul, 1, 0, 0), (66, .iload_n 2, 1, 0, 0), (67, .iadd, 1, 0, 0), 
  (68, .iload_n 3, 1, 0, 0), (69, .iastore, 1, 0, 0), (70, .iconst 1, 1, 0, 0), (71, .ireturn, 1, 0, 0)]
abbrev hX0_readKnows : xHd := (yX0_readKnows, cX0_readKnows, 4, some .boolean)
theorem kX0_readKnows : xck hX0_readKnows rX0_readKnows = true := by decide +kernel
def rX0_readSits : List xRow := [(0, .aload_n 0, 1, 0, 0), (1, .aload_n 0, 1, 0, 0), (2, .getfield 12, 3, 0, 1), (5, .getfield 110, 3, 7, 1), (8, .invokevirtual 102, 3, 9, 1), (11, .istore_n 1, 1, 0, 0), (12, .iload_n 1, 1, 0, 0), (13, .iconst (-1), 1, 0, 0), 
  (14, .if_icmp .ne 5, 3, 19, 0), (17, .iconst 0, 1, 0, 0), (18, .ireturn, 1, 0, 0), (19, .aload_n 0, 1, 0, 0), (20, .aload_n 0, 1, 0, 0), (21, .getfield 12, 3, 0, 1), (24, .getfield 99, 3, 7, 0), (27, .invokevirtual 102, 3, 9, 1), 
  (30, .istore_n 2, 1, 0, 0), (31, .iload_n 2, 1, 0, 0), (32, .iconst (-1), 1, 0, 0), (33, .if_icmp .ne 5, 3, 38, 0), (36, .iconst 0, 1, 0, 0), (37, .ireturn, 1, 0, 0), (38, .aload_n 0, 1, 0, 0), (39, .getfield 12, 3, 0, 1), 
  (42, .iload_n 2, 1, 0, 0), (43, .invokevirtual 126, 3, 65, 1), (46, .istore_n 3, 1, 0, 0), (47, .iload_n 3, 1, 0, 0), (48, .iconst (-1), 1, 0, 0), (49, .if_icmp .eq 10, 3, 59, 0), (52, .iload_n 3, 1, 0, 0), (53, .iload_n 1, 1, 0, 0), 
  (54, .if_icmp .eq 5, 3, 59, 0), (57, .iconst 0, 1, 0, 0), (58, .ireturn, 1, 0, 0), (59, .aload_n 0, 1, 0, 0), (60, .getfield 12, 3, 0, 1), (63, .iload_n 1, 1, 0, 0), (64, .iload_n 2, 1, 0, 0), (65, .invokevirtual 129, 3, 66, 2), 
  (68, .iconst 1, 1, 0, 0), (69, .ireturn, 1, 0, 0)]
abbrev hX0_readSits : xHd := (yX0_readSits, cX0_readSits, 4, some .boolean)
theorem kX0_readSits : xck hX0_readSits rX0_readSits = true := by decide +kernel
def rX0_readCover : List xRow := [(0, .aload_n 0, 1, 0, 0), (1, .aload_n 0, 1, 0, 0), (2, .getfield 12, 3, 0, 1), (5, .getfield 99, 3, 7, 0), (8, .invokevirtual 102, 3, 9, 1), (11, .istore_n 1, 1, 0, 0), (12, .iload_n 1, 1, 0, 0), (13, .iconst (-1), 1, 0, 0), 
  (14, .if_icmp .ne 5, 3, 19, 0), (17, .iconst 0, 1, 0, 0), (18, .ireturn, 1, 0, 0), (19, .aload_n 0, 1, 0, 0), (20, .getfield 12, 3, 0, 1), (23, .dup, 1, 0, 0), (24, .getfield 132, 3, 7, 3), (27, .iconst 1, 1, 0, 0), 
  (28, .iload_n 1, 1, 0, 0), (29, .ishl, 1, 0, 0), (30, .ior, 1, 0, 0), (31, .putfield 132, 3, 7, 3), (34, .iconst 1, 1, 0, 0), (35, .ireturn, 1, 0, 0)]
abbrev hX0_readCover : xHd := (yX0_readCover, cX0_readCover, 2, some .boolean)
theorem kX0_readCover : xck hX0_readCover rX0_readCover = true := by decide +kernel
def rX0_readNumber : List xRow := [(0, .aload_n 0, 1, 0, 0), (1, .getfield 18, 3, 0, 0), (4, .invokevirtual 35, 3, 35, 0), (7, .aload_n 0, 1, 0, 0), (8, .getfield 18, 3, 0, 0), (11, .iload_n 1, 1, 0, 0), (12, .invokevirtual 135, 3, 40, 1), (15, .ireturn, 1, 0, 0)]
abbrev hX0_readNumber : xHd := (yX0_readNumber, cX0_readNumber, 2, some .int)
theorem kX0_readNumber : xck hX0_readNumber rX0_readNumber = true := by decide +kernel
def rX1_clear : List xRow := [(0, .aload_n 0, 1, 0, 0), (1, .iconst 0, 1, 0, 0), (2, .putfield 21, 3, 1, 4), (5, .aload_n 0, 1, 0, 0), (6, .iconst 0, 1, 0, 0), (7, .putfield 25, 3, 1, 3), (10, .return_, 1, 0, 0)]
abbrev hX1_clear : xHd := (yX1_clear, cX1_clear, 1, none)
theorem kX1_clear : xck hX1_clear rX1_clear = true := by decide +kernel
def rX1_remember : List xRow := [(0, .aload_n 0, 1, 0, 0), (1, .getfield 11, 3, 1, 0), (4, .aload_n 0, 1, 0, 0), (5, .getfield 28, 3, 1, 2), (8, .aaload, 1, 0, 0), (9, .aload_n 1, 1, 0, 0), (10, .invokevirtual 31, 3, 55, 1), (13, .aload_n 0, 1, 0, 0), 
  (14, .aload_n 0, 1, 0, 0), (15, .getfield 28, 3, 1, 2), (18, .iconst 1, 1, 0, 0), (19, .iadd, 1, 0, 0), (20, .bipush 8, 2, 0, 0), (22, .irem, 1, 0, 0), (23, .putfield 28, 3, 1, 2), (26, .aload_n 0, 1, 0, 0), 
  (27, .aload_n 0, 1, 0, 0), (28, .getfield 21, 3, 1, 4), (31, .iconst 1, 1, 0, 0), (32, .iadd, 1, 0, 0), (33, .bipush 8, 2, 0, 0), (35, .invokestatic 35, 3, 225, 2), (38, .putfield 21, 3, 1, 4), (41, .return_, 1, 0, 0)]
abbrev hX1_remember : xHd := (yX1_remember, cX1_remember, 2, none)
theorem kX1_remember : xck hX1_remember rX1_remember = true := by decide +kernel
def rX1_takeBack : List xRow := [(0, .aload_n 0, 1, 0, 0), (1, .aload_n 0, 1, 0, 0), (2, .getfield 28, 3, 1, 2), (5, .bipush 8, 2, 0, 0), (7, .iadd, 1, 0, 0), (8, .iconst 1, 1, 0, 0), (9, .isub, 1, 0, 0), (10, .bipush 8, 2, 0, 0), 
  (12, .irem, 1, 0, 0), (13, .putfield 28, 3, 1, 2), (16, .aload_n 0, 1, 0, 0), (17, .dup, 1, 0, 0), (18, .getfield 21, 3, 1, 4), (21, .iconst 1, 1, 0, 0), (22, .isub, 1, 0, 0), (23, .putfield 21, 3, 1, 4), 
  (26, .aload_n 1, 1, 0, 0), (27, .aload_n 0, 1, 0, 0), (28, .getfield 11, 3, 1, 0), (31, .aload_n 0, 1, 0, 0), (32, .getfield 28, 3, 1, 2), (35, .aaload, 1, 0, 0), (36, .invokevirtual 31, 3, 55, 1), (39, .return_, 1, 0, 0)]
abbrev hX1_takeBack : xHd := (yX1_takeBack, cX1_takeBack, 2, none)
theorem kX1_takeBack : xck hX1_takeBack rX1_takeBack = true := by decide +kernel
def rX1_store : List xRow := [(0, .aload_n 0, 1, 0, 0), (1, .getfield 17, 3, 1, 1), (4, .iload_n 1, 1, 0, 0), (5, .aaload, 1, 0, 0), (6, .aload_n 2, 1, 0, 0), (7, .invokevirtual 31, 3, 55, 1), (10, .aload_n 0, 1, 0, 0), (11, .dup, 1, 0, 0), 
  (12, .getfield 25, 3, 1, 3), (15, .iconst 1, 1, 0, 0), (16, .iload_n 1, 1, 0, 0), (17, .ishl, 1, 0, 0), (18, .ior, 1, 0, 0), (19, .putfield 25, 3, 1, 3), (22, .return_, 1, 0, 0)]
abbrev hX1_store : xHd := (yX1_store, cX1_store, 3, none)
theorem kX1_store : xck hX1_store rX1_store = true := by decide +kernel
def rX1_isStored : List xRow := [(0, .aload_n 0, 1, 0, 0), (1, .getfield 25, 3, 1, 3), (4, .iload_n 1, 1, 0, 0), (5, .ishr, 1, 0, 0), (6, .iconst 1, 1, 0, 0), (7, .iand, 1, 0, 0), (8, .iconst 1, 1, 0, 0), (9, .if_icmp .ne 7, 3, 16, 0), 
  (12, .iconst 1, 1, 0, 0), (13, .goto 4, 3, 17, 0), (16, .iconst 0, 1, 0, 0), (17, .ireturn, 1, 0, 0)]
abbrev hX1_isStored : xHd := (yX1_isStored, cX1_isStored, 2, some .boolean)
theorem kX1_isStored : xck hX1_isStored rX1_isStored = true := by decide +kernel
def rX1_restore : List xRow := [(0, .aload_n 2, 1, 0, 0), (1, .aload_n 0, 1, 0, 0), (2, .getfield 17, 3, 1, 1), (5, .iload_n 1, 1, 0, 0), (6, .aaload, 1, 0, 0), (7, .invokevirtual 31, 3, 55, 1), (10, .aload_n 0, 1, 0, 0), (11, .iconst 0, 1, 0, 0), 
  (12, .putfield 21, 3, 1, 4), (15, .return_, 1, 0, 0)]
abbrev hX1_restore : xHd := (yX1_restore, cX1_restore, 3, none)
theorem kX1_restore : xck hX1_restore rX1_restore = true := by decide +kernel
def rX2_wind : List xRow := [(0, .aload_n 0, 1, 0, 0), (1, .iconst 1, 1, 0, 0), (2, .putfield 15, 3, 2, 101), (5, .aload_n 0, 1, 0, 0), (6, .iload_n 1, 1, 0, 0), (7, .putfield 19, 3, 2, 2), (10, .aload_n 0, 1, 0, 0), (11, .iload_n 2, 1, 0, 0), 
  (12, .putfield 23, 3, 2, 3), (15, .iconst 0, 1, 0, 0), (16, .istore_n 3, 1, 0, 0), (17, .iload_n 3, 1, 0, 0), (18, .bipush 12, 2, 0, 0), (20, .if_icmp .ge 25, 3, 45, 0), (23, .aload_n 0, 1, 0, 0), (24, .getfield 9, 3, 2, 0), 
  (27, .iload_n 3, 1, 0, 0), (28, .iload_n 1, 1, 0, 0), (29, .iconst 3, 1, 0, 0), (30, .if_icmp .ne 7, 3, 37, 0), (33, .iconst (-1), 1, 0, 0), (34, .goto 4, 3, 38, 0), (37, .iconst 0, 1, 0, 0), (38, .iastore, 1, 0, 0), 
  (39, .iinc 3 1, 3, 0, 0), (42, .goto (-25), 3, 17, 0), (45, .return_, 1, 0, 0)]
abbrev hX2_wind : xHd := (yX2_wind, cX2_wind, 4, none)
theorem kX2_wind : xck hX2_wind rX2_wind = true := by decide +kernel
def rX2_find : List xRow := [(0, .aload_n 0, 1, 0, 0), (1, .getfield 15, 3, 2, 1), (4, .ifCond .ne 6, 3, 10, 0), (7, .bipush (-11), 2, 0, 0), (9, .ireturn, 1, 0, 0), (10, .aload_n 0, 1, 0, 0), (11, .getfield 19, 3, 2, 2), (14, .iload_n 1, 1, 0, 0), 
  (15, .if_icmp .eq 6, 3, 21, 0), (18, .bipush (-12), 2, 0, 0), (20, .ireturn, 1, 0, 0), (21, .iload_n 2, 1, 0, 0), (22, .ifCond .lt 11, 3, 33, 0), (25, .iload_n 2, 1, 0, 0), (26, .aload_n 0, 1, 0, 0), (27, .getfield 23, 3, 2, 3), 
  (30, .if_icmp .lt 8, 3, 38, 0), (33, .bipush (-14), 2, 0, 0), (35, .goto 4, 3, 39, 0), (38, .iconst 0, 1, 0, 0), (39, .ireturn, 1, 0, 0)]
abbrev hX2_find : xHd := (yX2_find, cX2_find, 3, some .int)
theorem kX2_find : xck hX2_find rX2_find = true := by decide +kernel
def rX2_holds : List xRow := [(0, .iload_n 1, 1, 0, 0), (1, .ifCond .lt 25, 3, 26, 0), (4, .iload_n 2, 1, 0, 0), (5, .ifCond .lt 21, 3, 26, 0), (8, .iload_n 1, 1, 0, 0), (9, .i2l, 1, 0, 0), (10, .iload_n 2, 1, 0, 0), (11, .i2l, 1, 0, 0), 
  (12, .ladd, 1, 0, 0), (13, .aload_n 0, 1, 0, 0), (14, .getfield 23, 3, 2, 3), (17, .i2l, 1, 0, 0), (18, .lcmp, 1, 0, 0), (19, .ifCond .gt 7, 3, 26, 0), (22, .iconst 1, 1, 0, 0), (23, .goto 4, 3, 27, 0), 
  (26, .iconst 0, 1, 0, 0), (27, .ireturn, 1, 0, 0)]
abbrev hX2_holds : xHd := (yX2_holds, cX2_holds, 3, some .boolean)
theorem kX2_holds : xck hX2_holds rX2_holds = true := by decide +kernel
def rX2_put : List xRow := [(0, .aload_n 0, 1, 0, 0), (1, .getfield 19, 3, 2, 2), (4, .tableswitch 73 0 2 #[28, 46, 64], 28, 0, 0), (32, .aload_n 0, 1, 0, 0), (33, .getfield 9, 3, 2, 0), (36, .iload_n 1, 1, 0, 0), (37, .iload_n 2, 1, 0, 0), (38, .i2b, 1, 0, 0), 
  (39, .iastore, 1, 0, 0), (40, .aload_n 0, 1, 0, 0), (41, .getfield 9, 3, 2, 0), (44, .iload_n 1, 1, 0, 0), (45, .iaload, 1, 0, 0), (46, .ldc 26, 2, 100000, 0), (48, .iadd, 1, 0, 0), (49, .ireturn, 1, 0, 0), 
  (50, .aload_n 0, 1, 0, 0), (51, .getfield 9, 3, 2, 0), (54, .iload_n 1, 1, 0, 0), (55, .iload_n 2, 1, 0, 0), (56, .i2s, 1, 0, 0), (57, .iastore, 1, 0, 0), (58, .aload_n 0, 1, 0, 0), (59, .getfield 9, 3, 2, 0), 
  (62, .iload_n 1, 1, 0, 0), (63, .iaload, 1, 0, 0), (64, .ldc 26, 2, 100000, 0), (66, .iadd, 1, 0, 0), (67, .ireturn, 1, 0, 0), (68, .aload_n 0, 1, 0, 0), (69, .getfield 9, 3, 2, 0), (72, .iload_n 1, 1, 0, 0), 
  (73, .iload_n 2, 1, 0, 0), (74, .iastore, 1, 0, 0), (75, .iconst 1, 1, 0, 0), (76, .ireturn, 1, 0, 0), (77, .aload_n 0, 1, 0, 0), (78, .getfield 9, 3, 2, 0), (81, .iload_n 1, 1, 0, 0), (82, .iload_n 2, 1, 0, 0), 
  (83, .iastore, 1, 0, 0), (84, .iload_n 2, 1, 0, 0), (85, .ireturn, 1, 0, 0)]
abbrev hX2_put : xHd := (yX2_put, cX2_put, 3, some .int)
theorem kX2_put : xck hX2_put rX2_put = true := by decide +kernel
def rX2_sound : List xRow := [(0, .aload_n 0, 1, 0, 0), (1, .getfield 9, 3, 2, 0), (4, .iload_n 1, 1, 0, 0), (5, .iaload, 1, 0, 0), (6, .istore_n 2, 1, 0, 0), (7, .aload_n 0, 1, 0, 0), (8, .getfield 19, 3, 2, 2), (11, .tableswitch 51 0 2 #[25, 25, 30], 25, 0, 0), 
  (36, .iload_n 2, 1, 0, 0), (37, .ldc 26, 2, 100000, 0), (39, .iadd, 1, 0, 0), (40, .ireturn, 1, 0, 0), (41, .iload_n 2, 1, 0, 0), (42, .ifCond .ge 15, 3, 57, 0), (45, .iload_n 2, 1, 0, 0), (46, .iconst (-1), 1, 0, 0), 
  (47, .ixor, 1, 0, 0), (48, .ldc 27, 2, 1000003, 0), (50, .irem, 1, 0, 0), (51, .ldc 28, 2, 2000000, 0), (53, .iadd, 1, 0, 0), (54, .goto 7, 3, 61, 0), (57, .iload_n 2, 1, 0, 0), (58, .ldc 27, 2, 1000003, 0), 
  (60, .irem, 1, 0, 0), (61, .ireturn, 1, 0, 0), (62, .iload_n 2, 1, 0, 0), (63, .iconst (-1), 1, 0, 0), (64, .if_icmp .ne 8, 3, 72, 0), (67, .bipush (-15), 2, 0, 0), (69, .goto 4, 3, 73, 0), (72, .iload_n 2, 1, 0, 0), 
  (73, .ireturn, 1, 0, 0)]
abbrev hX2_sound : xHd := (yX2_sound, cX2_sound, 3, some .int)
theorem kX2_sound : xck hX2_sound rX2_sound = true := by decide +kernel
def rX3_clear : List xRow := [(0, .aload_n 0, 1, 0, 0), (1, .iconst 0, 1, 0, 0), (2, .putfield 21, 3, 3, 3), (5, .return_, 1, 0, 0)]
abbrev hX3_clear : xHd := (yX3_clear, cX3_clear, 1, none)
theorem kX3_clear : xck hX3_clear rX3_clear = true := by decide +kernel
def rX3_add : List xRow := [(0, .aload_n 0, 1, 0, 0), (1, .getfield 9, 3, 3, 0), (4, .aload_n 0, 1, 0, 0), (5, .getfield 21, 3, 3, 3), (8, .iload_n 1, 1, 0, 0), (9, .iastore, 1, 0, 0), (10, .aload_n 0, 1, 0, 0), (11, .getfield 15, 3, 3, 1), 
  (14, .aload_n 0, 1, 0, 0), (15, .getfield 21, 3, 3, 3), (18, .iload_n 2, 1, 0, 0), (19, .iastore, 1, 0, 0), (20, .aload_n 0, 1, 0, 0), (21, .getfield 18, 3, 3, 2), (24, .aload_n 0, 1, 0, 0), (25, .getfield 21, 3, 3, 3), 
  (28, .iload_n 3, 1, 0, 0), (29, .iastore, 1, 0, 0), (30, .aload_n 0, 1, 0, 0), (31, .dup, 1, 0, 0), (32, .getfield 21, 3, 3, 3), (35, .iconst 1, 1, 0, 0), (36, .iadd, 1, 0, 0), (37, .putfield 21, 3, 3, 3), 
  (40, .return_, 1, 0, 0)]
abbrev hX3_add : xHd := (yX3_add, cX3_add, 4, none)
theorem kX3_add : xck hX3_add rX3_add = true := by decide +kernel
def rX3_agreeWith : List xRow := [(0, .iconst 0, 1, 0, 0), (1, .istore_n 2, 1, 0, 0), (2, .iload_n 2, 1, 0, 0), (3, .aload_n 0, 1, 0, 0), (4, .getfield 21, 3, 3, 3), (7, .if_icmp .ge 36, 3, 43, 0), (10, .aload_n 1, 1, 0, 0), (11, .aload_n 0, 1, 0, 0), 
  (12, .getfield 9, 3, 3, 0), (15, .iload_n 2, 1, 0, 0), (16, .iaload, 1, 0, 0), (17, .aload_n 0, 1, 0, 0), (18, .getfield 15, 3, 3, 1), (21, .iload_n 2, 1, 0, 0), (22, .iaload, 1, 0, 0), (23, .invokevirtual 25, 3, 30, 2), 
  (26, .aload_n 0, 1, 0, 0), (27, .getfield 18, 3, 3, 2), (30, .iload_n 2, 1, 0, 0), (31, .iaload, 1, 0, 0), (32, .if_icmp .eq 5, 3, 37, 0), (35, .iconst 0, 1, 0, 0), (36, .ireturn, 1, 0, 0), (37, .iinc 2 1, 3, 0, 0), 
  (40, .goto (-38), 3, 2, 0), (43, .iconst 1, 1, 0, 0), (44, .ireturn, 1, 0, 0)]
abbrev hX3_agreeWith : xHd := (yX3_agreeWith, cX3_agreeWith, 3, some .boolean)
theorem kX3_agreeWith : xck hX3_agreeWith rX3_agreeWith = true := by decide +kernel
def rX4_clear : List xRow := [(0, .iconst 0, 1, 0, 0), (1, .istore_n 1, 1, 0, 0), (2, .iload_n 1, 1, 0, 0), (3, .iconst 4, 1, 0, 0), (4, .if_icmp .ge 16, 3, 20, 0), (7, .aload_n 0, 1, 0, 0), (8, .getfield 15, 3, 4, 1), (11, .iload_n 1, 1, 0, 0), 
  (12, .iconst 0, 1, 0, 0), (13, .iastore, 1, 0, 0), (14, .iinc 1 1, 3, 0, 0), (17, .goto (-15), 3, 2, 0), (20, .return_, 1, 0, 0)]
abbrev hX4_clear : xHd := (yX4_clear, cX4_clear, 2, none)
theorem kX4_clear : xck hX4_clear rX4_clear = true := by decide +kernel
def rX4_add : List xRow := [(0, .aload_n 0, 1, 0, 0), (1, .getfield 15, 3, 4, 1), (4, .iload_n 1, 1, 0, 0), (5, .iaload, 1, 0, 0), (6, .bipush 16, 2, 0, 0), (8, .if_icmp .ge 30, 3, 38, 0), (11, .aload_n 0, 1, 0, 0), (12, .getfield 9, 3, 4, 0), 
  (15, .iload_n 1, 1, 0, 0), (16, .bipush 16, 2, 0, 0), (18, .imul, 1, 0, 0), (19, .aload_n 0, 1, 0, 0), (20, .getfield 15, 3, 4, 1), (23, .iload_n 1, 1, 0, 0), (24, .iaload, 1, 0, 0), (25, .iadd, 1, 0, 0), 
  (26, .iload_n 2, 1, 0, 0), (27, .iastore, 1, 0, 0), (28, .aload_n 0, 1, 0, 0), (29, .getfield 15, 3, 4, 1), (32, .iload_n 1, 1, 0, 0), (33, .dup2, 1, 0, 0), (34, .iaload, 1, 0, 0), (35, .iconst 1, 1, 0, 0), 
  (36, .iadd, 1, 0, 0), (37, .iastore, 1, 0, 0), (38, .return_, 1, 0, 0)]
abbrev hX4_add : xHd := (yX4_add, cX4_add, 3, none)
theorem kX4_add : xck hX4_add rX4_add = true := by decide +kernel
def rX4_wordAt : List xRow := [(0, .iload_n 2, 1, 0, 0), (1, .aload_n 0, 1, 0, 0), (2, .getfield 15, 3, 4, 1), (5, .iload_n 1, 1, 0, 0), (6, .iaload, 1, 0, 0), (7, .if_icmp .ge 17, 3, 24, 0), (10, .aload_n 0, 1, 0, 0), (11, .getfield 9, 3, 4, 0), 
  (14, .iload_n 1, 1, 0, 0), (15, .bipush 16, 2, 0, 0), (17, .imul, 1, 0, 0), (18, .iload_n 2, 1, 0, 0), (19, .iadd, 1, 0, 0), (20, .iaload, 1, 0, 0), (21, .goto 4, 3, 25, 0), (24, .iconst (-1), 1, 0, 0), 
  (25, .ireturn, 1, 0, 0)]
abbrev hX4_wordAt : xHd := (yX4_wordAt, cX4_wordAt, 3, some .int)
theorem kX4_wordAt : xck hX4_wordAt rX4_wordAt = true := by decide +kernel
def rX5_add : List xRow := [(0, .aload_n 0, 1, 0, 0), (1, .getfield 9, 3, 5, 0), (4, .aload_n 0, 1, 0, 0), (5, .getfield 15, 3, 5, 1), (8, .iload_n 1, 1, 0, 0), (9, .iastore, 1, 0, 0), (10, .aload_n 0, 1, 0, 0), (11, .dup, 1, 0, 0), 
  (12, .getfield 15, 3, 5, 1), (15, .iconst 1, 1, 0, 0), (16, .iadd, 1, 0, 0), (17, .putfield 15, 3, 5, 1), (20, .return_, 1, 0, 0)]
abbrev hX5_add : xHd := (yX5_add, cX5_add, 2, none)
theorem kX5_add : xck hX5_add rX5_add = true := by decide +kernel
def rX5_clear : List xRow := [(0, .aload_n 0, 1, 0, 0), (1, .iconst 0, 1, 0, 0), (2, .putfield 15, 3, 5, 1), (5, .return_, 1, 0, 0)]
abbrev hX5_clear : xHd := (yX5_clear, cX5_clear, 1, none)
theorem kX5_clear : xck hX5_clear rX5_clear = true := by decide +kernel
def rX5_begin : List xRow := [(0, .aload_n 0, 1, 0, 0), (1, .iconst 0, 1, 0, 0), (2, .putfield 19, 3, 5, 2), (5, .aload_n 0, 1, 0, 0), (6, .iconst 0, 1, 0, 0), (7, .putfield 22, 3, 5, 3), (10, .return_, 1, 0, 0)]
abbrev hX5_begin : xHd := (yX5_begin, cX5_begin, 1, none)
theorem kX5_begin : xck hX5_begin rX5_begin = true := by decide +kernel
def rX5_readToken : List xRow := [(0, .aload_n 0, 1, 0, 0), (1, .invokevirtual 25, 3, 36, 0), (4, .aload_n 0, 1, 0, 0), (5, .invokevirtual 28, 3, 37, 0), (8, .ifCond .ne 19, 3, 27, 0), (11, .aload_n 0, 1, 0, 0), (12, .getfield 9, 3, 5, 0), (15, .aload_n 0, 1, 0, 0), 
  (16, .getfield 19, 3, 5, 2), (19, .iaload, 1, 0, 0), (20, .invokestatic 32, 3, 44, 1), (23, .iconst 2, 1, 0, 0), (24, .if_icmp .ne 4, 3, 28, 0), (27, .return_, 1, 0, 0), (28, .aload_n 0, 1, 0, 0), (29, .getfield 22, 3, 5, 3), 
  (32, .aload_n 0, 1, 0, 0), (33, .getfield 15, 3, 5, 1), (36, .if_icmp .ge 43, 3, 79, 0), (39, .aload_n 0, 1, 0, 0), (40, .getfield 9, 3, 5, 0), (43, .aload_n 0, 1, 0, 0), (44, .getfield 22, 3, 5, 3), (47, .iaload, 1, 0, 0), 
  (48, .invokestatic 32, 3, 44, 1), (51, .aload_n 0, 1, 0, 0), (52, .getfield 9, 3, 5, 0), (55, .aload_n 0, 1, 0, 0), (56, .getfield 19, 3, 5, 2), (59, .iaload, 1, 0, 0), (60, .invokestatic 32, 3, 44, 1), (63, .if_icmp .ne 16, 3, 79, 0), 
  (66, .aload_n 0, 1, 0, 0), (67, .dup, 1, 0, 0), (68, .getfield 22, 3, 5, 3), (71, .iconst 1, 1, 0, 0), (72, .iadd, 1, 0, 0), (73, .putfield 22, 3, 5, 3), (76, .goto (-48), 3, 28, 0), (79, .return_, 1, 0, 0)]
abbrev hX5_readToken : xHd := (yX5_readToken, cX5_readToken, 1, none)
theorem kX5_readToken : xck hX5_readToken rX5_readToken = true := by decide +kernel
def rX5_readLetter : List xRow := [(0, .aload_n 0, 1, 0, 0), (1, .aload_n 0, 1, 0, 0), (2, .getfield 22, 3, 5, 3), (5, .putfield 19, 3, 5, 2), (8, .aload_n 0, 1, 0, 0), (9, .getfield 19, 3, 5, 2), (12, .aload_n 0, 1, 0, 0), (13, .getfield 15, 3, 5, 1), 
  (16, .if_icmp .ge 30, 3, 46, 0), (19, .aload_n 0, 1, 0, 0), (20, .getfield 9, 3, 5, 0), (23, .aload_n 0, 1, 0, 0), (24, .getfield 19, 3, 5, 2), (27, .iaload, 1, 0, 0), (28, .bipush 32, 2, 0, 0), (30, .if_icmp .ne 16, 3, 46, 0), 
  (33, .aload_n 0, 1, 0, 0), (34, .dup, 1, 0, 0), (35, .getfield 19, 3, 5, 2), (38, .iconst 1, 1, 0, 0), (39, .iadd, 1, 0, 0), (40, .putfield 19, 3, 5, 2), (43, .goto (-35), 3, 8, 0), (46, .aload_n 0, 1, 0, 0), 
  (47, .aload_n 0, 1, 0, 0), (48, .getfield 19, 3, 5, 2), (51, .iconst 1, 1, 0, 0), (52, .iadd, 1, 0, 0), (53, .aload_n 0, 1, 0, 0), (54, .getfield 15, 3, 5, 1), (57, .invokestatic 36, 3, 225, 2), (60, .putfield 22, 3, 5, 3), 
  (63, .return_, 1, 0, 0)]
abbrev hX5_readLetter : xHd := (yX5_readLetter, cX5_readLetter, 1, none)
theorem kX5_readLetter : xck hX5_readLetter rX5_readLetter = true := by decide +kernel
def rX5_isOver : List xRow := [(0, .aload_n 0, 1, 0, 0), (1, .getfield 19, 3, 5, 2), (4, .aload_n 0, 1, 0, 0), (5, .getfield 15, 3, 5, 1), (8, .if_icmp .lt 7, 3, 15, 0), (11, .iconst 1, 1, 0, 0), (12, .goto 4, 3, 16, 0), (15, .iconst 0, 1, 0, 0), 
  (16, .ireturn, 1, 0, 0)]
abbrev hX5_isOver : xHd := (yX5_isOver, cX5_isOver, 1, some .boolean)
theorem kX5_isOver : xck hX5_isOver rX5_isOver = true := by decide +kernel
def rX5_isSign : List xRow := [(0, .aload_n 0, 1, 0, 0), (1, .getfield 22, 3, 5, 3), (4, .aload_n 0, 1, 0, 0), (5, .getfield 19, 3, 5, 2), (8, .isub, 1, 0, 0), (9, .iconst 1, 1, 0, 0), (10, .if_icmp .ne 20, 3, 30, 0), (13, .aload_n 0, 1, 0, 0), 
  (14, .getfield 9, 3, 5, 0), (17, .aload_n 0, 1, 0, 0), (18, .getfield 19, 3, 5, 2), (21, .iaload, 1, 0, 0), (22, .iload_n 1, 1, 0, 0), (23, .if_icmp .ne 7, 3, 30, 0), (26, .iconst 1, 1, 0, 0), (27, .goto 4, 3, 31, 0), 
  (30, .iconst 0, 1, 0, 0), (31, .ireturn, 1, 0, 0)]
abbrev hX5_isSign : xHd := (yX5_isSign, cX5_isSign, 2, some .boolean)
theorem kX5_isSign : xck hX5_isSign rX5_isSign = true := by decide +kernel
def rX5_isRow : List xRow := [(0, .aload_n 0, 1, 0, 0), (1, .getfield 22, 3, 5, 3), (4, .aload_n 0, 1, 0, 0), (5, .getfield 19, 3, 5, 2), (8, .isub, 1, 0, 0), (9, .aload_n 1, 1, 0, 0), (10, .invokevirtual 42, 3, 226, 0), (13, .if_icmp .eq 5, 3, 18, 0), 
  (16, .iconst 0, 1, 0, 0), (17, .ireturn, 1, 0, 0), (18, .iconst 0, 1, 0, 0), (19, .istore_n 2, 1, 0, 0), (20, .iload_n 2, 1, 0, 0), (21, .aload_n 1, 1, 0, 0), (22, .invokevirtual 42, 3, 226, 0), (25, .if_icmp .ge 30, 3, 55, 0), 
  (28, .aload_n 0, 1, 0, 0), (29, .getfield 9, 3, 5, 0), (32, .aload_n 0, 1, 0, 0), (33, .getfield 19, 3, 5, 2), (36, .iload_n 2, 1, 0, 0), (37, .iadd, 1, 0, 0), (38, .iaload, 1, 0, 0), (39, .aload_n 1, 1, 0, 0), 
  (40, .iload_n 2, 1, 0, 0), (41, .invokevirtual 47, 3, 227, 1), (44, .if_icmp .eq 5, 3, 49, 0), (47, .iconst 0, 1, 0, 0), (48, .ireturn, 1, 0, 0), (49, .iinc 2 1, 3, 0, 0), (52, .goto (-32), 3, 20, 0), (55, .iconst 1, 1, 0, 0), 
  (56, .ireturn, 1, 0, 0)]
abbrev hX5_isRow : xHd := (yX5_isRow, cX5_isRow, 3, some .boolean)
theorem kX5_isRow : xck hX5_isRow rX5_isRow = true := by decide +kernel
def rX5_numberBelow : List xRow := [(0, .aload_n 0, 1, 0, 0), (1, .getfield 22, 3, 5, 3), (4, .aload_n 0, 1, 0, 0), (5, .getfield 19, 3, 5, 2), (8, .isub, 1, 0, 0), (9, .iconst 1, 1, 0, 0), (10, .if_icmp .ne 19, 3, 29, 0), (13, .aload_n 0, 1, 0, 0), 
  (14, .getfield 9, 3, 5, 0), (17, .aload_n 0, 1, 0, 0), (18, .getfield 19, 3, 5, 2), (21, .iaload, 1, 0, 0), (22, .invokestatic 32, 3, 44, 1), (25, .iconst 1, 1, 0, 0), (26, .if_icmp .eq 5, 3, 31, 0), (29, .iconst (-1), 1, 0, 0), 
  (30, .ireturn, 1, 0, 0), (31, .aload_n 0, 1, 0, 0), (32, .getfield 9, 3, 5, 0), (35, .aload_n 0, 1, 0, 0), (36, .getfield 19, 3, 5, 2), (39, .iaload, 1, 0, 0), (40, .bipush 48, 2, 0, 0), (42, .isub, 1, 0, 0), 
  (43, .istore_n 2, 1, 0, 0), (44, .iload_n 2, 1, 0, 0), (45, .iload_n 1, 1, 0, 0), (46, .if_icmp .ge 7, 3, 53, 0), (49, .iload_n 2, 1, 0, 0), (50, .goto 4, 3, 54, 0), (53, .iconst (-1), 1, 0, 0), (54, .ireturn, 1, 0, 0)]
abbrev hX5_numberBelow : xHd := (yX5_numberBelow, cX5_numberBelow, 3, some .int)
theorem kX5_numberBelow : xck hX5_numberBelow rX5_numberBelow = true := by decide +kernel
def rX5_oneWord : List xRow := [(0, .aload_n 0, 1, 0, 0), (1, .getfield 22, 3, 5, 3), (4, .aload_n 0, 1, 0, 0), (5, .getfield 19, 3, 5, 2), (8, .isub, 1, 0, 0), (9, .iconst 1, 1, 0, 0), (10, .if_icmp .ne 18, 3, 28, 0), (13, .aload_n 0, 1, 0, 0), 
  (14, .getfield 9, 3, 5, 0), (17, .aload_n 0, 1, 0, 0), (18, .getfield 19, 3, 5, 2), (21, .iaload, 1, 0, 0), (22, .invokestatic 51, 3, 43, 1), (25, .goto 4, 3, 29, 0), (28, .iconst (-1), 1, 0, 0), (29, .ireturn, 1, 0, 0)]
abbrev hX5_oneWord : xHd := (yX5_oneWord, cX5_oneWord, 1, some .int)
theorem kX5_oneWord : xck hX5_oneWord rX5_oneWord = true := by decide +kernel
def rX5_risingWords : List xRow := [(0, .iconst 0, 1, 0, 0), (1, .istore_n 1, 1, 0, 0), (2, .iconst (-1), 1, 0, 0), (3, .istore_n 2, 1, 0, 0), (4, .aload_n 0, 1, 0, 0), (5, .getfield 19, 3, 5, 2), (8, .istore_n 3, 1, 0, 0), (9, .iload_n 3, 1, 0, 0), 
  (10, .aload_n 0, 1, 0, 0), (11, .getfield 22, 3, 5, 3), (14, .if_icmp .ge 38, 3, 52, 0), (17, .aload_n 0, 1, 0, 0), (18, .getfield 9, 3, 5, 0), (21, .iload_n 3, 1, 0, 0), (22, .iaload, 1, 0, 0), (23, .invokestatic 51, 3, 43, 1), 
  (26, .istore 4, 2, 0, 0), (28, .iload 4, 2, 0, 0), (30, .iload_n 2, 1, 0, 0), (31, .if_icmp .gt 5, 3, 36, 0), (34, .iconst 0, 1, 0, 0), (35, .ireturn, 1, 0, 0), (36, .iload_n 1, 1, 0, 0), (37, .iconst 1, 1, 0, 0), 
  (38, .iload 4, 2, 0, 0), (40, .ishl, 1, 0, 0), (41, .ior, 1, 0, 0), (42, .istore_n 1, 1, 0, 0), (43, .iload 4, 2, 0, 0), (45, .istore_n 2, 1, 0, 0), (46, .iinc 3 1, 3, 0, 0), (49, .goto (-40), 3, 9, 0), 
  (52, .iload_n 1, 1, 0, 0), (53, .ireturn, 1, 0, 0)]
abbrev hX5_risingWords : xHd := (yX5_risingWords, cX5_risingWords, 5, some .int)
theorem kX5_risingWords : xck hX5_risingWords rX5_risingWords = true := by decide +kernel
def rX5_wordOf : List xRow := [(0, .iload_n 0, 1, 0, 0), (1, .bipush 97, 2, 0, 0), (3, .if_icmp .lt 16, 3, 19, 0), (6, .iload_n 0, 1, 0, 0), (7, .bipush 107, 2, 0, 0), (9, .if_icmp .ge 10, 3, 19, 0), (12, .iload_n 0, 1, 0, 0), (13, .bipush 97, 2, 0, 0), 
  (15, .isub, 1, 0, 0), (16, .goto 4, 3, 20, 0), (19, .iconst (-1), 1, 0, 0), (20, .ireturn, 1, 0, 0)]
abbrev hX5_wordOf : xHd := (yX5_wordOf, cX5_wordOf, 1, some .int)
theorem kX5_wordOf : xck hX5_wordOf rX5_wordOf = true := by decide +kernel
def rX5_sortOf : List xRow := [(0, .iload_n 0, 1, 0, 0), (1, .bipush 97, 2, 0, 0), (3, .if_icmp .lt 11, 3, 14, 0), (6, .iload_n 0, 1, 0, 0), (7, .bipush 122, 2, 0, 0), (9, .if_icmp .gt 5, 3, 14, 0), (12, .iconst 0, 1, 0, 0), (13, .ireturn, 1, 0, 0), 
  (14, .iload_n 0, 1, 0, 0), (15, .bipush 48, 2, 0, 0), (17, .if_icmp .lt 13, 3, 30, 0), (20, .iload_n 0, 1, 0, 0), (21, .bipush 57, 2, 0, 0), (23, .if_icmp .gt 7, 3, 30, 0), (26, .iconst 1, 1, 0, 0), (27, .goto 4, 3, 31, 0), 
  (30, .iconst 2, 1, 0, 0), (31, .ireturn, 1, 0, 0)]
abbrev hX5_sortOf : xHd := (yX5_sortOf, cX5_sortOf, 1, some .int)
theorem kX5_sortOf : xck hX5_sortOf rX5_sortOf = true := by decide +kernel
def rX6_faultIn : List xRow := [(0, .iconst 0, 1, 0, 0), (1, .istore_n 1, 1, 0, 0), (2, .iconst 1, 1, 0, 0), (3, .istore_n 2, 1, 0, 0), (4, .iconst 0, 1, 0, 0), (5, .istore_n 3, 1, 0, 0), (6, .aload_n 0, 1, 0, 0), (7, .invokevirtual 24, 3, 34, 0), 
  (10, .aload_n 0, 1, 0, 0), (11, .invokevirtual 29, 3, 36, 0), (14, .iconst 0, 1, 0, 0), (15, .istore 4, 2, 0, 0), (17, .iload 4, 2, 0, 0), (19, .sipush 200, 3, 0, 0), (22, .if_icmp .ge 137, 3, 159, 0), (25, .aload_n 0, 1, 0, 0), 
  (26, .invokevirtual 32, 3, 37, 0), (29, .ifCond .ne 130, 3, 159, 0), (32, .aload_n 0, 1, 0, 0), (33, .invokevirtual 36, 3, 41, 0), (36, .iconst (-1), 1, 0, 0), (37, .if_icmp .ne 12, 3, 49, 0), (40, .aload_n 0, 1, 0, 0), (41, .bipush 46, 2, 0, 0), 
  (43, .invokevirtual 40, 3, 38, 1), (46, .ifCond .eq 10, 3, 56, 0), (49, .iconst 0, 1, 0, 0), (50, .istore_n 2, 1, 0, 0), (51, .iconst 1, 1, 0, 0), (52, .istore_n 3, 1, 0, 0), (53, .goto 96, 3, 149, 0), (56, .aload_n 0, 1, 0, 0), 
  (57, .bipush 40, 2, 0, 0), (59, .invokevirtual 40, 3, 38, 1), (62, .ifCond .eq 19, 3, 81, 0), (65, .iload_n 1, 1, 0, 0), (66, .bipush 6, 2, 0, 0), (68, .if_icmp .ge 13, 3, 81, 0), (71, .iinc 1 1, 3, 0, 0), (74, .iconst 1, 1, 0, 0), 
  (75, .istore_n 2, 1, 0, 0), (76, .iconst 0, 1, 0, 0), (77, .istore_n 3, 1, 0, 0), (78, .goto 71, 3, 149, 0), (81, .aload_n 0, 1, 0, 0), (82, .bipush 41, 2, 0, 0), (84, .invokevirtual 40, 3, 38, 1), (87, .ifCond .eq 19, 3, 106, 0), 
  (90, .iload_n 1, 1, 0, 0), (91, .ifCond .le 15, 3, 106, 0), (94, .iload_n 2, 1, 0, 0), (95, .ifCond .ne 11, 3, 106, 0), (98, .iinc 1 (-1), 3, 0, 0), (101, .iconst 1, 1, 0, 0), (102, .istore_n 3, 1, 0, 0), (103, .goto 46, 3, 149, 0), 
  (106, .aload_n 0, 1, 0, 0), (107, .bipush 124, 2, 0, 0), (109, .invokevirtual 40, 3, 38, 1), (112, .ifCond .eq 14, 3, 126, 0), (115, .iload_n 2, 1, 0, 0), (116, .ifCond .ne 10, 3, 126, 0), (119, .iconst 1, 1, 0, 0), (120, .istore_n 2, 1, 0, 0), 
  (121, .iconst 0, 1, 0, 0), (122, .istore_n 3, 1, 0, 0), (123, .goto 26, 3, 149, 0), (126, .aload_n 0, 1, 0, 0), (127, .bipush 42, 2, 0, 0), (129, .invokevirtual 40, 3, 38, 1), (132, .ifCond .eq 12, 3, 144, 0), (135, .iload_n 3, 1, 0, 0), 
  (136, .ifCond .eq 8, 3, 144, 0), (139, .iconst 0, 1, 0, 0), (140, .istore_n 3, 1, 0, 0), (141, .goto 8, 3, 149, 0), (144, .aload_n 0, 1, 0, 0), (145, .getfield 44, 3, 5, 2), (148, .ireturn, 1, 0, 0), (149, .aload_n 0, 1, 0, 0), 
  (150, .invokevirtual 29, 3, 36, 0), (153, .iinc 4 1, 3, 0, 0), (156, .goto (-139), 3, 17, 0), (159, .iload_n 2, 1, 0, 0), (160, .ifCond .ne 7, 3, 167, 0), (163, .iload_n 1, 1, 0, 0), (164, .ifCond .le 10, 3, 174, 0), (167, .aload_n 0, 1, 0, 0), 
  (168, .getfield 48, 3, 5, 1), (171, .goto 4, 3, 175, 0), (174, .iconst (-1), 1, 0, 0), (175, .ireturn, 1, 0, 0)]
abbrev hX6_faultIn : xHd := (yX6_faultIn, cX6_faultIn, 5, some .int)
theorem kX6_faultIn : xck hX6_faultIn rX6_faultIn = true := by decide +kernel
def rX6_take : List xRow := [(0, .iconst 0, 1, 0, 0), (1, .istore_n 2, 1, 0, 0), (2, .aload_n 0, 1, 0, 0), (3, .iconst 0, 1, 0, 0), (4, .putfield 51, 3, 6, 5), (7, .aload_n 0, 1, 0, 0), (8, .iconst 0, 1, 0, 0), (9, .putfield 52, 3, 6, 6), 
  (12, .iconst 0, 1, 0, 0), (13, .istore_n 3, 1, 0, 0), (14, .iload_n 3, 1, 0, 0), (15, .aload_n 1, 1, 0, 0), (16, .getfield 48, 3, 5, 1), (19, .if_icmp .ge 135, 3, 154, 0), (22, .aload_n 1, 1, 0, 0), (23, .getfield 55, 3, 5, 0), 
  (26, .iload_n 3, 1, 0, 0), (27, .iaload, 1, 0, 0), (28, .istore 4, 2, 0, 0), (30, .iload 4, 2, 0, 0), (32, .bipush 32, 2, 0, 0), (34, .if_icmp .ne 6, 3, 40, 0), (37, .goto 111, 3, 148, 0), (40, .iload 4, 2, 0, 0), 
  (42, .bipush 40, 2, 0, 0), (44, .if_icmp .ne 25, 3, 69, 0), (47, .iload_n 2, 1, 0, 0), (48, .bipush 6, 2, 0, 0), (50, .if_icmp .ge 19, 3, 69, 0), (53, .aload_n 0, 1, 0, 0), (54, .getfield 18, 3, 6, 2), (57, .iload_n 2, 1, 0, 0), 
  (58, .aload_n 0, 1, 0, 0), (59, .getfield 51, 3, 6, 5), (62, .iastore, 1, 0, 0), (63, .iinc 2 1, 3, 0, 0), (66, .goto 61, 3, 127, 0), (69, .iload 4, 2, 0, 0), (71, .bipush 41, 2, 0, 0), (73, .if_icmp .ne 28, 3, 101, 0), 
  (76, .iload_n 2, 1, 0, 0), (77, .ifCond .le 24, 3, 101, 0), (80, .iinc 2 (-1), 3, 0, 0), (83, .aload_n 0, 1, 0, 0), (84, .getfield 15, 3, 6, 1), (87, .aload_n 0, 1, 0, 0), (88, .getfield 18, 3, 6, 2), (91, .iload_n 2, 1, 0, 0), 
  (92, .iaload, 1, 0, 0), (93, .aload_n 0, 1, 0, 0), (94, .getfield 51, 3, 6, 5), (97, .iastore, 1, 0, 0), (98, .goto 29, 3, 127, 0), (101, .iload 4, 2, 0, 0), (103, .bipush 46, 2, 0, 0), (105, .if_icmp .eq 12, 3, 117, 0), 
  (108, .iload 4, 2, 0, 0), (110, .invokestatic 58, 3, 43, 1), (113, .iconst (-1), 1, 0, 0), (114, .if_icmp .eq 13, 3, 127, 0), (117, .aload_n 0, 1, 0, 0), (118, .dup, 1, 0, 0), (119, .getfield 52, 3, 6, 6), (122, .iconst 1, 1, 0, 0), 
  (123, .iadd, 1, 0, 0), (124, .putfield 52, 3, 6, 6), (127, .aload_n 0, 1, 0, 0), (128, .getfield 9, 3, 6, 0), (131, .aload_n 0, 1, 0, 0), (132, .getfield 51, 3, 6, 5), (135, .iload 4, 2, 0, 0), (137, .iastore, 1, 0, 0), 
  (138, .aload_n 0, 1, 0, 0), (139, .dup, 1, 0, 0), (140, .getfield 51, 3, 6, 5), (143, .iconst 1, 1, 0, 0), (144, .iadd, 1, 0, 0), (145, .putfield 51, 3, 6, 5), (148, .iinc 3 1, 3, 0, 0), (151, .goto (-137), 3, 14, 0), 
  (154, .return_, 1, 0, 0)]
abbrev hX6_take : xHd := (yX6_take, cX6_take, 5, none)
theorem kX6_take : xck hX6_take rX6_take = true := by decide +kernel
def rX6_endsIn : List xRow := [(0, .aload_n 0, 1, 0, 0), (1, .aload_n 1, 1, 0, 0), (2, .getfield 62, 3, 4, 1), (5, .iload_n 2, 1, 0, 0), (6, .iaload, 1, 0, 0), (7, .putfield 67, 3, 6, 4), (10, .iconst 0, 1, 0, 0), (11, .istore_n 3, 1, 0, 0), 
  (12, .iload_n 3, 1, 0, 0), (13, .aload_n 0, 1, 0, 0), (14, .getfield 67, 3, 6, 4), (17, .if_icmp .ge 21, 3, 38, 0), (20, .aload_n 0, 1, 0, 0), (21, .getfield 21, 3, 6, 3), (24, .iload_n 3, 1, 0, 0), (25, .aload_n 1, 1, 0, 0), 
  (26, .iload_n 2, 1, 0, 0), (27, .iload_n 3, 1, 0, 0), (28, .invokevirtual 70, 3, 30, 2), (31, .iastore, 1, 0, 0), (32, .iinc 3 1, 3, 0, 0), (35, .goto (-23), 3, 12, 0), (38, .aload_n 0, 1, 0, 0), (39, .iconst 0, 1, 0, 0), 
  (40, .aload_n 0, 1, 0, 0), (41, .getfield 51, 3, 6, 5), (44, .iconst 1, 1, 0, 0), (45, .iconst 0, 1, 0, 0), (46, .invokevirtual 74, 3, 49, 4), (49, .ireturn, 1, 0, 0)]
abbrev hX6_endsIn : xHd := (yX6_endsIn, cX6_endsIn, 4, some .int)
theorem kX6_endsIn : xck hX6_endsIn rX6_endsIn = true := by decide +kernel
def rX6_sumEnds : List xRow := [(0, .iconst 0, 1, 0, 0), (1, .istore 5, 2, 0, 0), (3, .iload_n 3, 1, 0, 0), (4, .istore 6, 2, 0, 0), (6, .iload_n 1, 1, 0, 0), (7, .istore 7, 2, 0, 0), (9, .iconst 0, 1, 0, 0), (10, .istore 8, 2, 0, 0), 
  (12, .iload 8, 2, 0, 0), (14, .sipush 200, 3, 0, 0), (17, .if_icmp .ge 107, 3, 124, 0), (20, .iload 7, 2, 0, 0), (22, .iload_n 2, 1, 0, 0), (23, .if_icmp .ge 101, 3, 124, 0), (26, .aload_n 0, 1, 0, 0), (27, .getfield 9, 3, 6, 0), 
  (30, .iload 7, 2, 0, 0), (32, .iaload, 1, 0, 0), (33, .bipush 124, 2, 0, 0), (35, .if_icmp .ne 19, 3, 54, 0), (38, .iload 5, 2, 0, 0), (40, .iload 6, 2, 0, 0), (42, .ior, 1, 0, 0), (43, .istore 5, 2, 0, 0), 
  (45, .iload_n 3, 1, 0, 0), (46, .istore 6, 2, 0, 0), (48, .iinc 7 1, 3, 0, 0), (51, .goto 67, 3, 118, 0), (54, .aload_n 0, 1, 0, 0), (55, .iload 7, 2, 0, 0), (57, .invokevirtual 78, 3, 50, 1), (60, .istore 9, 2, 0, 0), 
  (62, .iload 9, 2, 0, 0), (64, .iload_n 2, 1, 0, 0), (65, .if_icmp .ge 35, 3, 100, 0), (68, .aload_n 0, 1, 0, 0), (69, .getfield 9, 3, 6, 0), (72, .iload 9, 2, 0, 0), (74, .iaload, 1, 0, 0), (75, .bipush 42, 2, 0, 0), 
  (77, .if_icmp .ne 23, 3, 100, 0), (80, .aload_n 0, 1, 0, 0), (81, .iload 7, 2, 0, 0), (83, .iload 9, 2, 0, 0), (85, .iload 6, 2, 0, 0), (87, .iload 4, 2, 0, 0), (89, .invokevirtual 81, 3, 51, 4), (92, .istore 6, 2, 0, 0), 
  (94, .iinc 9 1, 3, 0, 0), (97, .goto 17, 3, 114, 0), (100, .aload_n 0, 1, 0, 0), (101, .iload 7, 2, 0, 0), (103, .iload 9, 2, 0, 0), (105, .iload 6, 2, 0, 0), (107, .iload 4, 2, 0, 0), (109, .invokevirtual 84, 3, 52, 4), 
  (112, .istore 6, 2, 0, 0), (114, .iload 9, 2, 0, 0), (116, .istore 7, 2, 0, 0), (118, .iinc 8 1, 3, 0, 0), (121, .goto (-109), 3, 12, 0), (124, .iload 5, 2, 0, 0), (126, .iload 6, 2, 0, 0), (128, .ior, 1, 0, 0), 
  (129, .ireturn, 1, 0, 0)]
abbrev hX6_sumEnds : xHd := (yX6_sumEnds, cX6_sumEnds, 10, some .int)
theorem kX6_sumEnds : xck hX6_sumEnds rX6_sumEnds = true := by decide +kernel
def rX6_behindPart : List xRow := [(0, .aload_n 0, 1, 0, 0), (1, .getfield 9, 3, 6, 0), (4, .iload_n 1, 1, 0, 0), (5, .iaload, 1, 0, 0), (6, .bipush 40, 2, 0, 0), (8, .if_icmp .ne 18, 3, 26, 0), (11, .iload_n 1, 1, 0, 0), (12, .aload_n 0, 1, 0, 0), 
  (13, .getfield 15, 3, 6, 1), (16, .iload_n 1, 1, 0, 0), (17, .iaload, 1, 0, 0), (18, .invokestatic 87, 3, 224, 2), (21, .iconst 1, 1, 0, 0), (22, .iadd, 1, 0, 0), (23, .goto 6, 3, 29, 0), (26, .iload_n 1, 1, 0, 0), 
  (27, .iconst 1, 1, 0, 0), (28, .iadd, 1, 0, 0), (29, .ireturn, 1, 0, 0)]
abbrev hX6_behindPart : xHd := (yX6_behindPart, cX6_behindPart, 2, some .int)
theorem kX6_behindPart : xck hX6_behindPart rX6_behindPart = true := by decide +kernel
def rX6_repeatedEnds : List xRow := [(0, .iload_n 3, 1, 0, 0), (1, .istore 5, 2, 0, 0), (3, .iload_n 3, 1, 0, 0), (4, .istore 6, 2, 0, 0), (6, .iconst 0, 1, 0, 0), (7, .istore 7, 2, 0, 0), (9, .iload 7, 2, 0, 0), (11, .bipush 16, 2, 0, 0), 
  (13, .if_icmp .gt 38, 3, 51, 0), (16, .iload 6, 2, 0, 0), (18, .ifCond .eq 33, 3, 51, 0), (21, .aload_n 0, 1, 0, 0), (22, .iload_n 1, 1, 0, 0), (23, .iload_n 2, 1, 0, 0), (24, .iload 6, 2, 0, 0), (26, .iload 4, 2, 0, 0), 
  (28, .invokevirtual 84, 3, 52, 4), (31, .iload 5, 2, 0, 0), (33, .iconst (-1), 1, 0, 0), (34, .ixor, 1, 0, 0), (35, .iand, 1, 0, 0), (36, .istore 6, 2, 0, 0), (38, .iload 5, 2, 0, 0), (40, .iload 6, 2, 0, 0), 
  (42, .ior, 1, 0, 0), (43, .istore 5, 2, 0, 0), (45, .iinc 7 1, 3, 0, 0), (48, .goto (-39), 3, 9, 0), (51, .iload 5, 2, 0, 0), (53, .ireturn, 1, 0, 0)]
abbrev hX6_repeatedEnds : xHd := (yX6_repeatedEnds, cX6_repeatedEnds, 8, some .int)
theorem kX6_repeatedEnds : xck hX6_repeatedEnds rX6_repeatedEnds = true := by decide +kernel
def rX6_partEnds : List xRow := [(0, .aload_n 0, 1, 0, 0), (1, .getfield 9, 3, 6, 0), (4, .iload_n 1, 1, 0, 0), (5, .iaload, 1, 0, 0), (6, .bipush 40, 2, 0, 0), (8, .if_icmp .eq 15, 3, 23, 0), (11, .aload_n 0, 1, 0, 0), (12, .aload_n 0, 1, 0, 0), 
  (13, .getfield 9, 3, 6, 0), (16, .iload_n 1, 1, 0, 0), (17, .iaload, 1, 0, 0), (18, .iload_n 3, 1, 0, 0), (19, .invokevirtual 92, 3, 53, 2), (22, .ireturn, 1, 0, 0), (23, .iload 4, 2, 0, 0), (25, .bipush 6, 2, 0, 0), 
  (27, .if_icmp .ge 21, 3, 48, 0), (30, .aload_n 0, 1, 0, 0), (31, .iload_n 1, 1, 0, 0), (32, .iconst 1, 1, 0, 0), (33, .iadd, 1, 0, 0), (34, .iload_n 2, 1, 0, 0), (35, .iconst 1, 1, 0, 0), (36, .isub, 1, 0, 0), 
  (37, .iload_n 3, 1, 0, 0), (38, .iload 4, 2, 0, 0), (40, .iconst 1, 1, 0, 0), (41, .iadd, 1, 0, 0), (42, .invokevirtual 74, 3, 49, 4), (45, .goto 4, 3, 49, 0), (48, .iconst 0, 1, 0, 0), (49, .ireturn, 1, 0, 0)]
abbrev hX6_partEnds : xHd := (yX6_partEnds, cX6_partEnds, 5, some .int)
theorem kX6_partEnds : xck hX6_partEnds rX6_partEnds = true := by decide +kernel
def rX6_wordEnds : List xRow := [(0, .iconst 0, 1, 0, 0), (1, .istore_n 3, 1, 0, 0), (2, .iconst 0, 1, 0, 0), (3, .istore 4, 2, 0, 0), (5, .iload 4, 2, 0, 0), (7, .aload_n 0, 1, 0, 0), (8, .getfield 67, 3, 6, 4), (11, .if_icmp .ge 46, 3, 57, 0), 
  (14, .iload_n 2, 1, 0, 0), (15, .iload 4, 2, 0, 0), (17, .ishr, 1, 0, 0), (18, .iconst 1, 1, 0, 0), (19, .iand, 1, 0, 0), (20, .iconst 1, 1, 0, 0), (21, .if_icmp .ne 30, 3, 51, 0), (24, .iload_n 1, 1, 0, 0), 
  (25, .bipush 46, 2, 0, 0), (27, .if_icmp .eq 17, 3, 44, 0), (30, .aload_n 0, 1, 0, 0), (31, .getfield 21, 3, 6, 3), (34, .iload 4, 2, 0, 0), (36, .iaload, 1, 0, 0), (37, .iload_n 1, 1, 0, 0), (38, .invokestatic 58, 3, 43, 1), 
  (41, .if_icmp .ne 10, 3, 51, 0), (44, .iload_n 3, 1, 0, 0), (45, .iconst 2, 1, 0, 0), (46, .iload 4, 2, 0, 0), (48, .ishl, 1, 0, 0), (49, .ior, 1, 0, 0), (50, .istore_n 3, 1, 0, 0), (51, .iinc 4 1, 3, 0, 0), 
  (54, .goto (-49), 3, 5, 0), (57, .iload_n 3, 1, 0, 0), (58, .ireturn, 1, 0, 0)]
abbrev hX6_wordEnds : xHd := (yX6_wordEnds, cX6_wordEnds, 5, some .int)
theorem kX6_wordEnds : xck hX6_wordEnds rX6_wordEnds = true := by decide +kernel
def rX7_become : List xRow := [(0, .aload_n 0, 1, 0, 0), (1, .aload_n 1, 1, 0, 0), (2, .getfield 27, 3, 7, 0), (5, .putfield 27, 3, 7, 0), (8, .aload_n 0, 1, 0, 0), (9, .aload_n 1, 1, 0, 0), (10, .getfield 31, 3, 7, 1), (13, .putfield 31, 3, 7, 1), 
  (16, .aload_n 0, 1, 0, 0), (17, .aload_n 1, 1, 0, 0), (18, .getfield 34, 3, 7, 2), (21, .putfield 34, 3, 7, 2), (24, .aload_n 0, 1, 0, 0), (25, .aload_n 1, 1, 0, 0), (26, .getfield 37, 3, 7, 3), (29, .putfield 37, 3, 7, 3), 
  (32, .aload_n 1, 1, 0, 0), (33, .getfield 9, 3, 7, 4), (36, .iconst 0, 1, 0, 0), (37, .aload_n 0, 1, 0, 0), (38, .getfield 9, 3, 7, 4), (41, .iconst 0, 1, 0, 0), (42, .bipush 8, 2, 0, 0), (44, .invokestatic 40, 3, 1000, 0), 
  (47, .aload_n 1, 1, 0, 0), (48, .getfield 15, 3, 7, 5), (51, .iconst 0, 1, 0, 0), (52, .aload_n 0, 1, 0, 0), (53, .getfield 15, 3, 7, 5), (56, .iconst 0, 1, 0, 0), (57, .bipush 8, 2, 0, 0), (59, .invokestatic 40, 3, 1000, 0), 
  (62, .aload_n 1, 1, 0, 0), (63, .getfield 18, 3, 7, 6), (66, .iconst 0, 1, 0, 0), (67, .aload_n 0, 1, 0, 0), (68, .getfield 18, 3, 7, 6), (71, .iconst 0, 1, 0, 0), (72, .bipush 80, 2, 0, 0), (74, .invokestatic 40, 3, 1000, 0), 
  (77, .aload_n 1, 1, 0, 0), (78, .getfield 21, 3, 7, 7), (81, .iconst 0, 1, 0, 0), (82, .aload_n 0, 1, 0, 0), (83, .getfield 21, 3, 7, 7), (86, .iconst 0, 1, 0, 0), (87, .iconst 4, 1, 0, 0), (88, .invokestatic 40, 3, 1000, 0), 
  (91, .aload_n 1, 1, 0, 0), (92, .getfield 24, 3, 7, 8), (95, .iconst 0, 1, 0, 0), (96, .aload_n 0, 1, 0, 0), (97, .getfield 24, 3, 7, 8), (100, .iconst 0, 1, 0, 0), (101, .iconst 4, 1, 0, 0), (102, .invokestatic 40, 3, 1000, 0), 
  (105, .return_, 1, 0, 0)]
abbrev hX7_become : xHd := (yX7_become, cX7_become, 2, none)
theorem kX7_become : xck hX7_become rX7_become = true := by decide +kernel
def rX7_clear : List xRow := [(0, .aload_n 0, 1, 0, 0), (1, .iconst 0, 1, 0, 0), (2, .putfield 27, 3, 7, 0), (5, .aload_n 0, 1, 0, 0), (6, .iconst 0, 1, 0, 0), (7, .putfield 31, 3, 7, 1), (10, .aload_n 0, 1, 0, 0), (11, .iconst 0, 1, 0, 0), 
  (12, .putfield 34, 3, 7, 2), (15, .aload_n 0, 1, 0, 0), (16, .iconst 0, 1, 0, 0), (17, .putfield 37, 3, 7, 3), (20, .return_, 1, 0, 0)]
abbrev hX7_clear : xHd := (yX7_clear, cX7_clear, 1, none)
theorem kX7_clear : xck hX7_clear rX7_clear = true := by decide +kernel
def rX7_addBird : List xRow := [(0, .aload_n 0, 1, 0, 0), (1, .getfield 9, 3, 7, 4), (4, .aload_n 0, 1, 0, 0), (5, .getfield 27, 3, 7, 0), (8, .iload_n 1, 1, 0, 0), (9, .iastore, 1, 0, 0), (10, .aload_n 0, 1, 0, 0), (11, .getfield 15, 3, 7, 5), 
  (14, .aload_n 0, 1, 0, 0), (15, .getfield 27, 3, 7, 0), (18, .iload_n 2, 1, 0, 0), (19, .iastore, 1, 0, 0), (20, .iconst 0, 1, 0, 0), (21, .istore_n 3, 1, 0, 0), (22, .iload_n 3, 1, 0, 0), (23, .bipush 10, 2, 0, 0), 
  (25, .if_icmp .ge 24, 3, 49, 0), (28, .aload_n 0, 1, 0, 0), (29, .getfield 18, 3, 7, 6), (32, .aload_n 0, 1, 0, 0), (33, .getfield 27, 3, 7, 0), (36, .bipush 10, 2, 0, 0), (38, .imul, 1, 0, 0), (39, .iload_n 3, 1, 0, 0), 
  (40, .iadd, 1, 0, 0), (41, .iconst 0, 1, 0, 0), (42, .iastore, 1, 0, 0), (43, .iinc 3 1, 3, 0, 0), (46, .goto (-24), 3, 22, 0), (49, .aload_n 0, 1, 0, 0), (50, .dup, 1, 0, 0), (51, .getfield 27, 3, 7, 0), 
  (54, .iconst 1, 1, 0, 0), (55, .iadd, 1, 0, 0), (56, .putfield 27, 3, 7, 0), (59, .return_, 1, 0, 0)]
abbrev hX7_addBird : xHd := (yX7_addBird, cX7_addBird, 4, none)
theorem kX7_addBird : xck hX7_addBird rX7_addBird = true := by decide +kernel
def rX7_addMan : List xRow := [(0, .aload_n 0, 1, 0, 0), (1, .getfield 21, 3, 7, 7), (4, .aload_n 0, 1, 0, 0), (5, .getfield 31, 3, 7, 1), (8, .iload_n 1, 1, 0, 0), (9, .iastore, 1, 0, 0), (10, .aload_n 0, 1, 0, 0), (11, .getfield 24, 3, 7, 8), 
  (14, .aload_n 0, 1, 0, 0), (15, .getfield 31, 3, 7, 1), (18, .iconst (-1), 1, 0, 0), (19, .iastore, 1, 0, 0), (20, .aload_n 0, 1, 0, 0), (21, .dup, 1, 0, 0), (22, .getfield 31, 3, 7, 1), (25, .iconst 1, 1, 0, 0), 
  (26, .iadd, 1, 0, 0), (27, .putfield 31, 3, 7, 1), (30, .return_, 1, 0, 0)]
abbrev hX7_addMan : xHd := (yX7_addMan, cX7_addMan, 2, none)
theorem kX7_addMan : xck hX7_addMan rX7_addMan = true := by decide +kernel
def rX7_isCovered : List xRow := [(0, .aload_n 0, 1, 0, 0), (1, .getfield 37, 3, 7, 3), (4, .iload_n 1, 1, 0, 0), (5, .ishr, 1, 0, 0), (6, .iconst 1, 1, 0, 0), (7, .iand, 1, 0, 0), (8, .iconst 1, 1, 0, 0), (9, .if_icmp .ne 7, 3, 16, 0), 
  (12, .iconst 1, 1, 0, 0), (13, .goto 4, 3, 17, 0), (16, .iconst 0, 1, 0, 0), (17, .ireturn, 1, 0, 0)]
abbrev hX7_isCovered : xHd := (yX7_isCovered, cX7_isCovered, 2, some .boolean)
theorem kX7_isCovered : xck hX7_isCovered rX7_isCovered = true := by decide +kernel
def rX7_knowledge : List xRow := [(0, .aload_n 0, 1, 0, 0), (1, .getfield 18, 3, 7, 6), (4, .iload_n 1, 1, 0, 0), (5, .bipush 10, 2, 0, 0), (7, .imul, 1, 0, 0), (8, .iload_n 2, 1, 0, 0), (9, .iadd, 1, 0, 0), (10, .iaload, 1, 0, 0), 
  (11, .ireturn, 1, 0, 0)]
abbrev hX7_knowledge : xHd := (yX7_knowledge, cX7_knowledge, 3, some .int)
theorem kX7_knowledge : xck hX7_knowledge rX7_knowledge = true := by decide +kernel
def rX7_allKnowledge : List xRow := [(0, .iconst 0, 1, 0, 0), (1, .istore_n 2, 1, 0, 0), (2, .iconst 0, 1, 0, 0), (3, .istore_n 3, 1, 0, 0), (4, .iload_n 3, 1, 0, 0), (5, .bipush 10, 2, 0, 0), (7, .if_icmp .ge 18, 3, 25, 0), (10, .iload_n 2, 1, 0, 0), 
  (11, .aload_n 0, 1, 0, 0), (12, .iload_n 1, 1, 0, 0), (13, .iload_n 3, 1, 0, 0), (14, .invokevirtual 46, 3, 60, 2), (17, .iadd, 1, 0, 0), (18, .istore_n 2, 1, 0, 0), (19, .iinc 3 1, 3, 0, 0), (22, .goto (-18), 3, 4, 0), 
  (25, .iload_n 2, 1, 0, 0), (26, .ireturn, 1, 0, 0)]
abbrev hX7_allKnowledge : xHd := (yX7_allKnowledge, cX7_allKnowledge, 4, some .int)
theorem kX7_allKnowledge : xck hX7_allKnowledge rX7_allKnowledge = true := by decide +kernel
def rX7_wellKnown : List xRow := [(0, .iconst 0, 1, 0, 0), (1, .istore_n 2, 1, 0, 0), (2, .iconst 0, 1, 0, 0), (3, .istore_n 3, 1, 0, 0), (4, .iload_n 3, 1, 0, 0), (5, .bipush 10, 2, 0, 0), (7, .if_icmp .ge 25, 3, 32, 0), (10, .aload_n 0, 1, 0, 0), 
  (11, .iload_n 1, 1, 0, 0), (12, .iload_n 3, 1, 0, 0), (13, .invokevirtual 46, 3, 60, 2), (16, .iconst 5, 1, 0, 0), (17, .if_icmp .lt 9, 3, 26, 0), (20, .iload_n 2, 1, 0, 0), (21, .iconst 1, 1, 0, 0), (22, .iload_n 3, 1, 0, 0), 
  (23, .ishl, 1, 0, 0), (24, .ior, 1, 0, 0), (25, .istore_n 2, 1, 0, 0), (26, .iinc 3 1, 3, 0, 0), (29, .goto (-25), 3, 4, 0), (32, .iload_n 2, 1, 0, 0), (33, .ireturn, 1, 0, 0)]
abbrev hX7_wellKnown : xHd := (yX7_wellKnown, cX7_wellKnown, 4, some .int)
theorem kX7_wellKnown : xck hX7_wellKnown rX7_wellKnown = true := by decide +kernel
def rX7_wellKnownBySome : List xRow := [(0, .iconst 0, 1, 0, 0), (1, .istore_n 1, 1, 0, 0), (2, .iconst 0, 1, 0, 0), (3, .istore_n 2, 1, 0, 0), (4, .iload_n 2, 1, 0, 0), (5, .aload_n 0, 1, 0, 0), (6, .getfield 27, 3, 7, 0), (9, .if_icmp .ge 17, 3, 26, 0), 
  (12, .iload_n 1, 1, 0, 0), (13, .aload_n 0, 1, 0, 0), (14, .iload_n 2, 1, 0, 0), (15, .invokevirtual 50, 3, 62, 1), (18, .ior, 1, 0, 0), (19, .istore_n 1, 1, 0, 0), (20, .iinc 2 1, 3, 0, 0), (23, .goto (-19), 3, 4, 0), 
  (26, .iload_n 1, 1, 0, 0), (27, .ireturn, 1, 0, 0)]
abbrev hX7_wellKnownBySome : xHd := (yX7_wellKnownBySome, cX7_wellKnownBySome, 3, some .int)
theorem kX7_wellKnownBySome : xck hX7_wellKnownBySome rX7_wellKnownBySome = true := by decide +kernel
def rX7_allWordsOfMen : List xRow := [(0, .iconst 0, 1, 0, 0), (1, .istore_n 1, 1, 0, 0), (2, .iconst 0, 1, 0, 0), (3, .istore_n 2, 1, 0, 0), (4, .iload_n 2, 1, 0, 0), (5, .aload_n 0, 1, 0, 0), (6, .getfield 31, 3, 7, 1), (9, .if_icmp .ge 21, 3, 30, 0), 
  (12, .iload_n 1, 1, 0, 0), (13, .aload_n 0, 1, 0, 0), (14, .getfield 21, 3, 7, 7), (17, .iload_n 2, 1, 0, 0), (18, .iaload, 1, 0, 0), (19, .invokestatic 54, 3, 223, 1), (22, .iadd, 1, 0, 0), (23, .istore_n 1, 1, 0, 0), 
  (24, .iinc 2 1, 3, 0, 0), (27, .goto (-23), 3, 4, 0), (30, .iload_n 1, 1, 0, 0), (31, .ireturn, 1, 0, 0)]
abbrev hX7_allWordsOfMen : xHd := (yX7_allWordsOfMen, cX7_allWordsOfMen, 3, some .int)
theorem kX7_allWordsOfMen : xck hX7_allWordsOfMen rX7_allWordsOfMen = true := by decide +kernel
def rX7_manBeside : List xRow := [(0, .iconst 0, 1, 0, 0), (1, .istore_n 2, 1, 0, 0), (2, .iload_n 2, 1, 0, 0), (3, .aload_n 0, 1, 0, 0), (4, .getfield 31, 3, 7, 1), (7, .if_icmp .ge 21, 3, 28, 0), (10, .aload_n 0, 1, 0, 0), (11, .getfield 24, 3, 7, 8), 
  (14, .iload_n 2, 1, 0, 0), (15, .iaload, 1, 0, 0), (16, .iload_n 1, 1, 0, 0), (17, .if_icmp .ne 5, 3, 22, 0), (20, .iload_n 2, 1, 0, 0), (21, .ireturn, 1, 0, 0), (22, .iinc 2 1, 3, 0, 0), (25, .goto (-23), 3, 2, 0), 
  (28, .iconst (-1), 1, 0, 0), (29, .ireturn, 1, 0, 0)]
abbrev hX7_manBeside : xHd := (yX7_manBeside, cX7_manBeside, 3, some .int)
theorem kX7_manBeside : xck hX7_manBeside rX7_manBeside = true := by decide +kernel
def rX7_seat : List xRow := [(0, .iload_n 2, 1, 0, 0), (1, .iconst (-1), 1, 0, 0), (2, .if_icmp .ne 7, 3, 9, 0), (5, .iconst (-1), 1, 0, 0), (6, .goto 8, 3, 14, 0), (9, .aload_n 0, 1, 0, 0), (10, .iload_n 2, 1, 0, 0), (11, .invokevirtual 59, 3, 65, 1), 
  (14, .istore_n 3, 1, 0, 0), (15, .iload_n 3, 1, 0, 0), (16, .iconst (-1), 1, 0, 0), (17, .if_icmp .eq 10, 3, 27, 0), (20, .aload_n 0, 1, 0, 0), (21, .getfield 24, 3, 7, 8), (24, .iload_n 3, 1, 0, 0), (25, .iconst (-1), 1, 0, 0), 
  (26, .iastore, 1, 0, 0), (27, .aload_n 0, 1, 0, 0), (28, .getfield 24, 3, 7, 8), (31, .iload_n 1, 1, 0, 0), (32, .iload_n 2, 1, 0, 0), (33, .iastore, 1, 0, 0), (34, .return_, 1, 0, 0)]
abbrev hX7_seat : xHd := (yX7_seat, cX7_seat, 4, none)
theorem kX7_seat : xck hX7_seat rX7_seat = true := by decide +kernel
def rX7_learn : List xRow := [(0, .aload_n 0, 1, 0, 0), (1, .getfield 18, 3, 7, 6), (4, .iload_n 1, 1, 0, 0), (5, .bipush 10, 2, 0, 0), (7, .imul, 1, 0, 0), (8, .iload_n 2, 1, 0, 0), (9, .iadd, 1, 0, 0), (10, .iaload, 1, 0, 0), 
  (11, .iload_n 3, 1, 0, 0), (12, .iadd, 1, 0, 0), (13, .istore 4, 2, 0, 0), (15, .aload_n 0, 1, 0, 0), (16, .getfield 18, 3, 7, 6), (19, .iload_n 1, 1, 0, 0), (20, .bipush 10, 2, 0, 0), (22, .imul, 1, 0, 0), 
  (23, .iload_n 2, 1, 0, 0), (24, .iadd, 1, 0, 0), (25, .iload 4, 2, 0, 0), (27, .bipush 9, 2, 0, 0), (29, .if_icmp .le 8, 3, 37, 0), (32, .bipush 9, 2, 0, 0), (34, .goto 5, 3, 39, 0), (37, .iload 4, 2, 0, 0), 
  (39, .iastore, 1, 0, 0), (40, .return_, 1, 0, 0)]
abbrev hX7_learn : xHd := (yX7_learn, cX7_learn, 5, none)
theorem kX7_learn : xck hX7_learn rX7_learn = true := by decide +kernel
def rX7_halve : List xRow := [(0, .iconst 0, 1, 0, 0), (1, .istore_n 2, 1, 0, 0), (2, .iload_n 2, 1, 0, 0), (3, .bipush 10, 2, 0, 0), (5, .if_icmp .ge 24, 3, 29, 0), (8, .aload_n 0, 1, 0, 0), (9, .getfield 18, 3, 7, 6), (12, .iload_n 1, 1, 0, 0), 
  (13, .bipush 10, 2, 0, 0), (15, .imul, 1, 0, 0), (16, .iload_n 2, 1, 0, 0), (17, .iadd, 1, 0, 0), (18, .dup2, 1, 0, 0), (19, .iaload, 1, 0, 0), (20, .iconst 2, 1, 0, 0), (21, .idiv, 1, 0, 0), 
  (22, .iastore, 1, 0, 0), (23, .iinc 2 1, 3, 0, 0), (26, .goto (-24), 3, 2, 0), (29, .return_, 1, 0, 0)]
abbrev hX7_halve : xHd := (yX7_halve, cX7_halve, 3, none)
theorem kX7_halve : xck hX7_halve rX7_halve = true := by decide +kernel
def rX7_hearable : List xRow := [(0, .aload_n 0, 1, 0, 0), (1, .aload_n 0, 1, 0, 0), (2, .getfield 15, 3, 7, 5), (5, .iload_n 1, 1, 0, 0), (6, .iaload, 1, 0, 0), (7, .invokevirtual 62, 3, 72, 1), (10, .iconst 1, 1, 0, 0), (11, .iload_n 1, 1, 0, 0), 
  (12, .ishl, 1, 0, 0), (13, .iconst (-1), 1, 0, 0), (14, .ixor, 1, 0, 0), (15, .iand, 1, 0, 0), (16, .ireturn, 1, 0, 0)]
abbrev hX7_hearable : xHd := (yX7_hearable, cX7_hearable, 2, some .int)
theorem kX7_hearable : xck hX7_hearable rX7_hearable = true := by decide +kernel
def rX7_passEvening : List xRow := [(0, .iconst 0, 1, 0, 0), (1, .istore_n 2, 1, 0, 0), (2, .iload_n 2, 1, 0, 0), (3, .aload_n 0, 1, 0, 0), (4, .getfield 31, 3, 7, 1), (7, .if_icmp .ge 14, 3, 21, 0), (10, .aload_n 0, 1, 0, 0), (11, .iload_n 2, 1, 0, 0), 
  (12, .invokevirtual 65, 3, 71, 1), (15, .iinc 2 1, 3, 0, 0), (18, .goto (-16), 3, 2, 0), (21, .aload_n 1, 1, 0, 0), (22, .invokevirtual 69, 3, 28, 0), (25, .iconst 0, 1, 0, 0), (26, .istore_n 2, 1, 0, 0), (27, .iload_n 2, 1, 0, 0), 
  (28, .iconst 4, 1, 0, 0), (29, .if_icmp .ge 30, 3, 59, 0), (32, .aload_n 0, 1, 0, 0), (33, .iload_n 2, 1, 0, 0), (34, .invokevirtual 62, 3, 72, 1), (37, .istore_n 3, 1, 0, 0), (38, .aload_n 0, 1, 0, 0), (39, .iload_n 3, 1, 0, 0), 
  (40, .invokevirtual 74, 3, 73, 1), (43, .ifCond .ne 10, 3, 53, 0), (46, .aload_n 0, 1, 0, 0), (47, .iload_n 2, 1, 0, 0), (48, .iload_n 3, 1, 0, 0), (49, .aload_n 1, 1, 0, 0), (50, .invokevirtual 78, 3, 74, 3), (53, .iinc 2 1, 3, 0, 0), 
  (56, .goto (-29), 3, 27, 0), (59, .aload_n 0, 1, 0, 0), (60, .getfield 34, 3, 7, 2), (63, .iconst 3, 1, 0, 0), (64, .irem, 1, 0, 0), (65, .iconst 2, 1, 0, 0), (66, .if_icmp .ne 24, 3, 90, 0), (69, .iconst 0, 1, 0, 0), 
  (70, .istore_n 2, 1, 0, 0), (71, .iload_n 2, 1, 0, 0), (72, .aload_n 0, 1, 0, 0), (73, .getfield 27, 3, 7, 0), (76, .if_icmp .ge 14, 3, 90, 0), (79, .aload_n 0, 1, 0, 0), (80, .iload_n 2, 1, 0, 0), (81, .invokevirtual 82, 3, 78, 1), 
  (84, .iinc 2 1, 3, 0, 0), (87, .goto (-16), 3, 71, 0), (90, .aload_n 0, 1, 0, 0), (91, .dup, 1, 0, 0), (92, .getfield 34, 3, 7, 2), (95, .iconst 1, 1, 0, 0), (96, .iadd, 1, 0, 0), (97, .putfield 34, 3, 7, 2), 
  (100, .return_, 1, 0, 0)]
abbrev hX7_passEvening : xHd := (yX7_passEvening, cX7_passEvening, 4, none)
theorem kX7_passEvening : xck hX7_passEvening rX7_passEvening = true := by decide +kernel
def rX7_handOver : List xRow := [(0, .aload_n 0, 1, 0, 0), (1, .getfield 24, 3, 7, 8), (4, .iload_n 1, 1, 0, 0), (5, .iaload, 1, 0, 0), (6, .istore_n 2, 1, 0, 0), (7, .iload_n 2, 1, 0, 0), (8, .iconst (-1), 1, 0, 0), (9, .if_icmp .eq 20, 3, 29, 0), 
  (12, .aload_n 0, 1, 0, 0), (13, .getfield 21, 3, 7, 7), (16, .iload_n 1, 1, 0, 0), (17, .iaload, 1, 0, 0), (18, .ifCond .eq 11, 3, 29, 0), (21, .aload_n 0, 1, 0, 0), (22, .iload_n 2, 1, 0, 0), (23, .invokevirtual 85, 3, 59, 1), 
  (26, .ifCond .eq 4, 3, 30, 0), (29, .return_, 1, 0, 0), (30, .getstatic 88, 3, 2, 1), (33, .aload_n 0, 1, 0, 0), (34, .getfield 9, 3, 7, 4), (37, .iload_n 2, 1, 0, 0), (38, .iaload, 1, 0, 0), (39, .iaload, 1, 0, 0), 
  (40, .istore_n 3, 1, 0, 0), (41, .iload_n 3, 1, 0, 0), (42, .ifCond .le 35, 3, 77, 0), (45, .aload_n 0, 1, 0, 0), (46, .iload_n 2, 1, 0, 0), (47, .aload_n 0, 1, 0, 0), (48, .getfield 21, 3, 7, 7), (51, .iload_n 1, 1, 0, 0), 
  (52, .iaload, 1, 0, 0), (53, .invokestatic 91, 3, 222, 1), (56, .iload_n 3, 1, 0, 0), (57, .invokevirtual 94, 3, 67, 3), (60, .aload_n 0, 1, 0, 0), (61, .getfield 21, 3, 7, 7), (64, .iload_n 1, 1, 0, 0), (65, .dup2, 1, 0, 0), 
  (66, .iaload, 1, 0, 0), (67, .aload_n 0, 1, 0, 0), (68, .getfield 21, 3, 7, 7), (71, .iload_n 1, 1, 0, 0), (72, .iaload, 1, 0, 0), (73, .iconst 1, 1, 0, 0), (74, .isub, 1, 0, 0), (75, .iand, 1, 0, 0), 
  (76, .iastore, 1, 0, 0), (77, .return_, 1, 0, 0)]
abbrev hX7_handOver : xHd := (yX7_handOver, cX7_handOver, 4, none)
theorem kX7_handOver : xck hX7_handOver rX7_handOver = true := by decide +kernel
def rX7_awakeOn : List xRow := [(0, .iconst 0, 1, 0, 0), (1, .istore_n 2, 1, 0, 0), (2, .iconst 0, 1, 0, 0), (3, .istore_n 3, 1, 0, 0), (4, .iload_n 3, 1, 0, 0), (5, .aload_n 0, 1, 0, 0), (6, .getfield 27, 3, 7, 0), (9, .if_icmp .ge 25, 3, 34, 0), 
  (12, .aload_n 0, 1, 0, 0), (13, .getfield 15, 3, 7, 5), (16, .iload_n 3, 1, 0, 0), (17, .iaload, 1, 0, 0), (18, .iload_n 1, 1, 0, 0), (19, .if_icmp .ne 9, 3, 28, 0), (22, .iload_n 2, 1, 0, 0), (23, .iconst 1, 1, 0, 0), 
  (24, .iload_n 3, 1, 0, 0), (25, .ishl, 1, 0, 0), (26, .ior, 1, 0, 0), (27, .istore_n 2, 1, 0, 0), (28, .iinc 3 1, 3, 0, 0), (31, .goto (-27), 3, 4, 0), (34, .iload_n 2, 1, 0, 0), (35, .aload_n 0, 1, 0, 0), 
  (36, .getfield 37, 3, 7, 3), (39, .iconst (-1), 1, 0, 0), (40, .ixor, 1, 0, 0), (41, .iand, 1, 0, 0), (42, .ireturn, 1, 0, 0)]
abbrev hX7_awakeOn : xHd := (yX7_awakeOn, cX7_awakeOn, 4, some .int)
theorem kX7_awakeOn : xck hX7_awakeOn rX7_awakeOn = true := by decide +kernel
def rX7_isSilenced : List xRow := [(0, .iconst 0, 1, 0, 0), (1, .istore_n 2, 1, 0, 0), (2, .iload_n 2, 1, 0, 0), (3, .aload_n 0, 1, 0, 0), (4, .getfield 27, 3, 7, 0), (7, .if_icmp .ge 30, 3, 37, 0), (10, .iload_n 1, 1, 0, 0), (11, .iload_n 2, 1, 0, 0), 
  (12, .ishr, 1, 0, 0), (13, .iconst 1, 1, 0, 0), (14, .iand, 1, 0, 0), (15, .iconst 1, 1, 0, 0), (16, .if_icmp .ne 15, 3, 31, 0), (19, .aload_n 0, 1, 0, 0), (20, .getfield 9, 3, 7, 4), (23, .iload_n 2, 1, 0, 0), 
  (24, .iaload, 1, 0, 0), (25, .iconst 3, 1, 0, 0), (26, .if_icmp .ne 5, 3, 31, 0), (29, .iconst 1, 1, 0, 0), (30, .ireturn, 1, 0, 0), (31, .iinc 2 1, 3, 0, 0), (34, .goto (-32), 3, 2, 0), (37, .iconst 0, 1, 0, 0), 
  (38, .ireturn, 1, 0, 0)]
abbrev hX7_isSilenced : xHd := (yX7_isSilenced, cX7_isSilenced, 3, some .boolean)
theorem kX7_isSilenced : xck hX7_isSilenced rX7_isSilenced = true := by decide +kernel
def rX7_speakOn : List xRow := [(0, .iconst 0, 1, 0, 0), (1, .istore 4, 2, 0, 0), (3, .iload 4, 2, 0, 0), (5, .aload_n 0, 1, 0, 0), (6, .getfield 27, 3, 7, 0), (9, .if_icmp .ge 35, 3, 44, 0), (12, .iload_n 2, 1, 0, 0), (13, .iload 4, 2, 0, 0), 
  (15, .ishr, 1, 0, 0), (16, .iconst 1, 1, 0, 0), (17, .iand, 1, 0, 0), (18, .iconst 1, 1, 0, 0), (19, .if_icmp .ne 19, 3, 38, 0), (22, .aload_n 0, 1, 0, 0), (23, .iload 4, 2, 0, 0), (25, .iload_n 1, 1, 0, 0), 
  (26, .iload_n 2, 1, 0, 0), (27, .iconst 1, 1, 0, 0), (28, .iload 4, 2, 0, 0), (30, .ishl, 1, 0, 0), (31, .iconst (-1), 1, 0, 0), (32, .ixor, 1, 0, 0), (33, .iand, 1, 0, 0), (34, .aload_n 3, 1, 0, 0), 
  (35, .invokevirtual 98, 3, 75, 4), (38, .iinc 4 1, 3, 0, 0), (41, .goto (-38), 3, 3, 0), (44, .return_, 1, 0, 0)]
abbrev hX7_speakOn : xHd := (yX7_speakOn, cX7_speakOn, 5, none)
theorem kX7_speakOn : xck hX7_speakOn rX7_speakOn = true := by decide +kernel
def rX7_speak : List xRow := [(0, .iconst 0, 1, 0, 0), (1, .istore 5, 2, 0, 0), (3, .iconst 0, 1, 0, 0), (4, .istore 6, 2, 0, 0), (6, .iload 6, 2, 0, 0), (8, .getstatic 102, 3, 3, 1), (11, .aload_n 0, 1, 0, 0), (12, .getfield 9, 3, 7, 4), 
  (15, .iload_n 1, 1, 0, 0), (16, .iaload, 1, 0, 0), (17, .iaload, 1, 0, 0), (18, .if_icmp .ge 49, 3, 67, 0), (21, .aload_n 0, 1, 0, 0), (22, .iload_n 1, 1, 0, 0), (23, .iload 5, 2, 0, 0), (25, .invokevirtual 105, 3, 76, 2), 
  (28, .istore 7, 2, 0, 0), (30, .iload 7, 2, 0, 0), (32, .iconst (-1), 1, 0, 0), (33, .if_icmp .ne 4, 3, 37, 0), (36, .return_, 1, 0, 0), (37, .iload 5, 2, 0, 0), (39, .iconst 1, 1, 0, 0), (40, .iload 7, 2, 0, 0), 
  (42, .ishl, 1, 0, 0), (43, .ior, 1, 0, 0), (44, .istore 5, 2, 0, 0), (46, .aload 4, 2, 0, 0), (48, .iload_n 2, 1, 0, 0), (49, .iload 7, 2, 0, 0), (51, .invokevirtual 108, 3, 29, 2), (54, .aload_n 0, 1, 0, 0), 
  (55, .iload 7, 2, 0, 0), (57, .iload_n 3, 1, 0, 0), (58, .invokevirtual 112, 3, 77, 2), (61, .iinc 6 1, 3, 0, 0), (64, .goto (-58), 3, 6, 0), (67, .return_, 1, 0, 0)]
abbrev hX7_speak : xHd := (yX7_speak, cX7_speak, 8, none)
theorem kX7_speak : xck hX7_speak rX7_speak = true := by decide +kernel
def rX7_bestKnown : List xRow := [(0, .iconst (-1), 1, 0, 0), (1, .istore_n 3, 1, 0, 0), (2, .iconst 0, 1, 0, 0), (3, .istore 4, 2, 0, 0), (5, .iconst 0, 1, 0, 0), (6, .istore 5, 2, 0, 0), (8, .iload 5, 2, 0, 0), (10, .bipush 10, 2, 0, 0), 
  (12, .if_icmp .ge 46, 3, 58, 0), (15, .aload_n 0, 1, 0, 0), (16, .getfield 18, 3, 7, 6), (19, .iload_n 1, 1, 0, 0), (20, .bipush 10, 2, 0, 0), (22, .imul, 1, 0, 0), (23, .iload 5, 2, 0, 0), (25, .iadd, 1, 0, 0), 
  (26, .iaload, 1, 0, 0), (27, .istore 6, 2, 0, 0), (29, .iload 6, 2, 0, 0), (31, .iload 4, 2, 0, 0), (33, .if_icmp .le 19, 3, 52, 0), (36, .iload_n 2, 1, 0, 0), (37, .iload 5, 2, 0, 0), (39, .ishr, 1, 0, 0), 
  (40, .iconst 1, 1, 0, 0), (41, .iand, 1, 0, 0), (42, .ifCond .ne 10, 3, 52, 0), (45, .iload 6, 2, 0, 0), (47, .istore 4, 2, 0, 0), (49, .iload 5, 2, 0, 0), (51, .istore_n 3, 1, 0, 0), (52, .iinc 5 1, 3, 0, 0), 
  (55, .goto (-47), 3, 8, 0), (58, .iload_n 3, 1, 0, 0), (59, .ireturn, 1, 0, 0)]
abbrev hX7_bestKnown : xHd := (yX7_bestKnown, cX7_bestKnown, 7, some .int)
theorem kX7_bestKnown : xck hX7_bestKnown rX7_bestKnown = true := by decide +kernel
def rX7_spread : List xRow := [(0, .iconst 0, 1, 0, 0), (1, .istore_n 3, 1, 0, 0), (2, .iload_n 3, 1, 0, 0), (3, .aload_n 0, 1, 0, 0), (4, .getfield 27, 3, 7, 0), (7, .if_icmp .ge 34, 3, 41, 0), (10, .iload_n 2, 1, 0, 0), (11, .iload_n 3, 1, 0, 0), 
  (12, .ishr, 1, 0, 0), (13, .iconst 1, 1, 0, 0), (14, .iand, 1, 0, 0), (15, .iconst 1, 1, 0, 0), (16, .if_icmp .ne 19, 3, 35, 0), (19, .aload_n 0, 1, 0, 0), (20, .iload_n 3, 1, 0, 0), (21, .iload_n 1, 1, 0, 0), 
  (22, .getstatic 115, 3, 1, 1), (25, .aload_n 0, 1, 0, 0), (26, .getfield 9, 3, 7, 4), (29, .iload_n 3, 1, 0, 0), (30, .iaload, 1, 0, 0), (31, .iaload, 1, 0, 0), (32, .invokevirtual 94, 3, 67, 3), (35, .iinc 3 1, 3, 0, 0), 
  (38, .goto (-36), 3, 2, 0), (41, .return_, 1, 0, 0)]
abbrev hX7_spread : xHd := (yX7_spread, cX7_spread, 4, none)
theorem kX7_spread : xck hX7_spread rX7_spread = true := by decide +kernel
def rX7_lose : List xRow := [(0, .aload_n 0, 1, 0, 0), (1, .iload_n 1, 1, 0, 0), (2, .invokevirtual 85, 3, 59, 1), (5, .ifCond .eq 4, 3, 9, 0), (8, .return_, 1, 0, 0), (9, .iconst 0, 1, 0, 0), (10, .istore_n 2, 1, 0, 0), (11, .iload_n 2, 1, 0, 0), 
  (12, .bipush 10, 2, 0, 0), (14, .if_icmp .ge 53, 3, 67, 0), (17, .aload_n 0, 1, 0, 0), (18, .iload_n 1, 1, 0, 0), (19, .iload_n 2, 1, 0, 0), (20, .invokevirtual 46, 3, 60, 2), (23, .istore_n 3, 1, 0, 0), (24, .iload_n 3, 1, 0, 0), 
  (25, .iconst 1, 1, 0, 0), (26, .if_icmp .lt 35, 3, 61, 0), (29, .iload_n 3, 1, 0, 0), (30, .iconst 5, 1, 0, 0), (31, .if_icmp .ge 30, 3, 61, 0), (34, .aload_n 0, 1, 0, 0), (35, .getfield 18, 3, 7, 6), (38, .iload_n 1, 1, 0, 0), 
  (39, .bipush 10, 2, 0, 0), (41, .imul, 1, 0, 0), (42, .iload_n 2, 1, 0, 0), (43, .iadd, 1, 0, 0), (44, .iconst 0, 1, 0, 0), (45, .iload_n 3, 1, 0, 0), (46, .getstatic 118, 3, 4, 1), (49, .aload_n 0, 1, 0, 0), 
  (50, .getfield 9, 3, 7, 4), (53, .iload_n 1, 1, 0, 0), (54, .iaload, 1, 0, 0), (55, .iaload, 1, 0, 0), (56, .isub, 1, 0, 0), (57, .invokestatic 121, 3, 224, 2), (60, .iastore, 1, 0, 0), (61, .iinc 2 1, 3, 0, 0), 
  (64, .goto (-53), 3, 11, 0), (67, .return_, 1, 0, 0)]
abbrev hX7_lose : xHd := (yX7_lose, cX7_lose, 4, none)
theorem kX7_lose : xck hX7_lose rX7_lose = true := by decide +kernel
