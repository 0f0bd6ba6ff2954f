def rX9_in : List xRow := [(0, .lload_n 0, 1, 0, 0), (1, .lload_n 2, 1, 0, 0), (2, .lcmp, 1, 0, 0), (3, .ifCond .lt 14, 3, 17, 0), (6, .lload_n 0, 1, 0, 0), (7, .lload 4, 2, 0, 0), (9, .lcmp, 1, 0, 0), (10, .ifCond .gt 7, 3, 17, 0), 
  (13, .iconst 1, 1, 0, 0), (14, .goto 4, 3, 18, 0), (17, .iconst 0, 1, 0, 0), (18, .ireturn, 1, 0, 0)]
abbrev hX9_in : xHd := (yX9_in, cX9_in, 6, some .boolean)
theorem kX9_in : xck hX9_in rX9_in = true := by decide +kernel
def rX9_has : List xRow := [(0, .iload_n 0, 1, 0, 0), (1, .iload_n 1, 1, 0, 0), (2, .ishr, 1, 0, 0), (3, .iconst 1, 1, 0, 0), (4, .iand, 1, 0, 0), (5, .iconst 1, 1, 0, 0), (6, .if_icmp .ne 7, 3, 13, 0), (9, .iconst 1, 1, 0, 0), 
  (10, .goto 4, 3, 14, 0), (13, .iconst 0, 1, 0, 0), (14, .ireturn, 1, 0, 0)]
abbrev hX9_has : xHd := (yX9_has, cX9_has, 2, some .boolean)
theorem kX9_has : xck hX9_has rX9_has = true := by decide +kernel
def rX9_bits : List xRow := [(0, .iconst 0, 1, 0, 0), (1, .istore_n 1, 1, 0, 0), (2, .iconst 0, 1, 0, 0), (3, .istore_n 2, 1, 0, 0), (4, .iload_n 2, 1, 0, 0), (5, .bipush 10, 2, 0, 0), (7, .if_icmp .ge 17, 3, 24, 0), (10, .iload_n 1, 1, 0, 0), 
  (11, .iload_n 0, 1, 0, 0), (12, .iload_n 2, 1, 0, 0), (13, .ishr, 1, 0, 0), (14, .iconst 1, 1, 0, 0), (15, .iand, 1, 0, 0), (16, .iadd, 1, 0, 0), (17, .istore_n 1, 1, 0, 0), (18, .iinc 2 1, 3, 0, 0), 
  (21, .goto (-17), 3, 4, 0), (24, .iload_n 1, 1, 0, 0), (25, .ireturn, 1, 0, 0)]
abbrev hX9_bits : xHd := (yX9_bits, cX9_bits, 3, some .int)
theorem kX9_bits : xck hX9_bits rX9_bits = true := by decide +kernel
def rX9_write : List xRow := [(0, .iload_n 1, 1, 0, 0), (1, .i2l, 1, 0, 0), (2, .lconst 0, 1, 0, 0), (3, .ldc2_w 107, 3, 255, 0), (6, .invokestatic 109, 3, 130, 3), (9, .ifCond .ne 6, 3, 15, 0), (12, .bipush (-3), 2, 0, 0), (14, .ireturn, 1, 0, 0), 
  (15, .aload_n 0, 1, 0, 0), (16, .getfield 113, 3, 9, 4), (19, .sipush 200, 3, 0, 0), (22, .if_icmp .ne 6, 3, 28, 0), (25, .bipush (-5), 2, 0, 0), (27, .ireturn, 1, 0, 0), (28, .aload_n 0, 1, 0, 0), (29, .getfield 17, 3, 9, 3), 
  (32, .aload_n 0, 1, 0, 0), (33, .getfield 113, 3, 9, 4), (36, .iload_n 1, 1, 0, 0), (37, .iastore, 1, 0, 0), (38, .aload_n 0, 1, 0, 0), (39, .dup, 1, 0, 0), (40, .getfield 113, 3, 9, 4), (43, .iconst 1, 1, 0, 0), 
  (44, .iadd, 1, 0, 0), (45, .putfield 113, 3, 9, 4), (48, .aload_n 0, 1, 0, 0), (49, .getfield 113, 3, 9, 4), (52, .ireturn, 1, 0, 0)]
abbrev hX9_write : xHd := (yX9_write, cX9_write, 2, some .int)
theorem kX9_write : xck hX9_write rX9_write = true := by decide +kernel
def rX9_erase : List xRow := [(0, .aload_n 0, 1, 0, 0), (1, .getfield 113, 3, 9, 4), (4, .istore_n 1, 1, 0, 0), (5, .aload_n 0, 1, 0, 0), (6, .iconst 0, 1, 0, 0), (7, .putfield 113, 3, 9, 4), (10, .iload_n 1, 1, 0, 0), (11, .ireturn, 1, 0, 0)]
abbrev hX9_erase : xHd := (yX9_erase, cX9_erase, 2, some .int)
theorem kX9_erase : xck hX9_erase rX9_erase = true := by decide +kernel
def rX9_isLetter : List xRow := [(0, .iload_n 0, 1, 0, 0), (1, .i2l, 1, 0, 0), (2, .ldc2_w 117, 3, 97, 0), (5, .ldc2_w 119, 3, 122, 0), (8, .invokestatic 109, 3, 130, 3), (11, .ireturn, 1, 0, 0)]
abbrev hX9_isLetter : xHd := (yX9_isLetter, cX9_isLetter, 1, some .boolean)
theorem kX9_isLetter : xck hX9_isLetter rX9_isLetter = true := by decide +kernel
def rX9_isDigit : List xRow := [(0, .iload_n 0, 1, 0, 0), (1, .i2l, 1, 0, 0), (2, .ldc2_w 121, 3, 48, 0), (5, .ldc2_w 123, 3, 57, 0), (8, .invokestatic 109, 3, 130, 3), (11, .ireturn, 1, 0, 0)]
abbrev hX9_isDigit : xHd := (yX9_isDigit, cX9_isDigit, 1, some .boolean)
theorem kX9_isDigit : xck hX9_isDigit rX9_isDigit = true := by decide +kernel
def rX9_nextToken : List xRow := [(0, .aload_n 0, 1, 0, 0), (1, .aload_n 0, 1, 0, 0), (2, .getfield 125, 3, 9, 17), (5, .putfield 128, 3, 9, 16), (8, .aload_n 0, 1, 0, 0), (9, .getfield 128, 3, 9, 16), (12, .aload_n 0, 1, 0, 0), (13, .getfield 113, 3, 9, 4), 
  (16, .if_icmp .ge 30, 3, 46, 0), (19, .aload_n 0, 1, 0, 0), (20, .getfield 17, 3, 9, 3), (23, .aload_n 0, 1, 0, 0), (24, .getfield 128, 3, 9, 16), (27, .iaload, 1, 0, 0), (28, .bipush 32, 2, 0, 0), (30, .if_icmp .ne 16, 3, 46, 0), 
  (33, .aload_n 0, 1, 0, 0), (34, .dup, 1, 0, 0), (35, .getfield 128, 3, 9, 16), (38, .iconst 1, 1, 0, 0), (39, .iadd, 1, 0, 0), (40, .putfield 128, 3, 9, 16), (43, .goto (-35), 3, 8, 0), (46, .aload_n 0, 1, 0, 0), 
  (47, .aload_n 0, 1, 0, 0), (48, .getfield 128, 3, 9, 16), (51, .aload_n 0, 1, 0, 0), (52, .getfield 113, 3, 9, 4), (55, .if_icmp .ge 12, 3, 67, 0), (58, .aload_n 0, 1, 0, 0), (59, .getfield 128, 3, 9, 16), (62, .iconst 1, 1, 0, 0), 
  (63, .iadd, 1, 0, 0), (64, .goto 7, 3, 71, 0), (67, .aload_n 0, 1, 0, 0), (68, .getfield 128, 3, 9, 16), (71, .putfield 125, 3, 9, 17), (74, .aload_n 0, 1, 0, 0), (75, .getfield 128, 3, 9, 16), (78, .aload_n 0, 1, 0, 0), 
  (79, .getfield 113, 3, 9, 4), (82, .if_icmp .ge 57, 3, 139, 0), (85, .aload_n 0, 1, 0, 0), (86, .getfield 17, 3, 9, 3), (89, .aload_n 0, 1, 0, 0), (90, .getfield 128, 3, 9, 16), (93, .iaload, 1, 0, 0), (94, .invokestatic 131, 3, 135, 1), 
  (97, .ifCond .eq 42, 3, 139, 0), (100, .aload_n 0, 1, 0, 0), (101, .getfield 125, 3, 9, 17), (104, .aload_n 0, 1, 0, 0), (105, .getfield 113, 3, 9, 4), (108, .if_icmp .ge 96, 3, 204, 0), (111, .aload_n 0, 1, 0, 0), (112, .getfield 17, 3, 9, 3), 
  (115, .aload_n 0, 1, 0, 0), (116, .getfield 125, 3, 9, 17), (119, .iaload, 1, 0, 0), (120, .invokestatic 131, 3, 135, 1), (123, .ifCond .eq 81, 3, 204, 0), (126, .aload_n 0, 1, 0, 0), (127, .dup, 1, 0, 0), (128, .getfield 125, 3, 9, 17), 
  (131, .iconst 1, 1, 0, 0), (132, .iadd, 1, 0, 0), (133, .putfield 125, 3, 9, 17), (136, .goto (-36), 3, 100, 0), (139, .aload_n 0, 1, 0, 0), (140, .getfield 128, 3, 9, 16), (143, .aload_n 0, 1, 0, 0), (144, .getfield 113, 3, 9, 4), 
  (147, .if_icmp .ge 57, 3, 204, 0), (150, .aload_n 0, 1, 0, 0), (151, .getfield 17, 3, 9, 3), (154, .aload_n 0, 1, 0, 0), (155, .getfield 128, 3, 9, 16), (158, .iaload, 1, 0, 0), (159, .invokestatic 135, 3, 136, 1), (162, .ifCond .eq 42, 3, 204, 0), 
  (165, .aload_n 0, 1, 0, 0), (166, .getfield 125, 3, 9, 17), (169, .aload_n 0, 1, 0, 0), (170, .getfield 113, 3, 9, 4), (173, .if_icmp .ge 31, 3, 204, 0), (176, .aload_n 0, 1, 0, 0), (177, .getfield 17, 3, 9, 3), (180, .aload_n 0, 1, 0, 0), 
  (181, .getfield 125, 3, 9, 17), (184, .iaload, 1, 0, 0), (185, .invokestatic 135, 3, 136, 1), (188, .ifCond .eq 16, 3, 204, 0), (191, .aload_n 0, 1, 0, 0), (192, .dup, 1, 0, 0), (193, .getfield 125, 3, 9, 17), (196, .iconst 1, 1, 0, 0), 
  (197, .iadd, 1, 0, 0), (198, .putfield 125, 3, 9, 17), (201, .goto (-36), 3, 165, 0), (204, .return_, 1, 0, 0)]
abbrev hX9_nextToken : xHd := (yX9_nextToken, cX9_nextToken, 1, none)
theorem kX9_nextToken : xck hX9_nextToken rX9_nextToken = true := by decide +kernel
def rX9_isWord : List xRow := [(0, .aload_n 0, 1, 0, 0), (1, .getfield 125, 3, 9, 17), (4, .aload_n 0, 1, 0, 0), (5, .getfield 128, 3, 9, 16), (8, .isub, 1, 0, 0), (9, .aload_n 1, 1, 0, 0), (10, .arraylength, 1, 0, 0), (11, .if_icmp .ne 7, 3, 18, 0), 
  (14, .iconst 1, 1, 0, 0), (15, .goto 4, 3, 19, 0), (18, .iconst 0, 1, 0, 0), (19, .istore_n 2, 1, 0, 0), (20, .iconst 0, 1, 0, 0), (21, .istore_n 3, 1, 0, 0), (22, .iload_n 3, 1, 0, 0), (23, .aload_n 1, 1, 0, 0), 
  (24, .arraylength, 1, 0, 0), (25, .if_icmp .ge 36, 3, 61, 0), (28, .iload_n 2, 1, 0, 0), (29, .ifCond .eq 32, 3, 61, 0), (32, .aload_n 0, 1, 0, 0), (33, .getfield 17, 3, 9, 3), (36, .aload_n 0, 1, 0, 0), (37, .getfield 128, 3, 9, 16), 
  (40, .iload_n 3, 1, 0, 0), (41, .iadd, 1, 0, 0), (42, .iaload, 1, 0, 0), (43, .aload_n 1, 1, 0, 0), (44, .iload_n 3, 1, 0, 0), (45, .iaload, 1, 0, 0), (46, .if_icmp .ne 7, 3, 53, 0), (49, .iconst 1, 1, 0, 0), 
  (50, .goto 4, 3, 54, 0), (53, .iconst 0, 1, 0, 0), (54, .istore_n 2, 1, 0, 0), (55, .iinc 3 1, 3, 0, 0), (58, .goto (-36), 3, 22, 0), (61, .iload_n 2, 1, 0, 0), (62, .ireturn, 1, 0, 0)]
abbrev hX9_isWord : xHd := (yX9_isWord, cX9_isWord, 4, some .boolean)
theorem kX9_isWord : xck hX9_isWord rX9_isWord = true := by decide +kernel
def rX9_numberHere : List xRow := [(0, .aload_n 0, 1, 0, 0), (1, .getfield 128, 3, 9, 16), (4, .aload_n 0, 1, 0, 0), (5, .getfield 113, 3, 9, 4), (8, .if_icmp .ge 51, 3, 59, 0), (11, .aload_n 0, 1, 0, 0), (12, .getfield 17, 3, 9, 3), (15, .aload_n 0, 1, 0, 0), 
  (16, .getfield 128, 3, 9, 16), (19, .iaload, 1, 0, 0), (20, .invokestatic 135, 3, 136, 1), (23, .ifCond .eq 36, 3, 59, 0), (26, .aload_n 0, 1, 0, 0), (27, .getfield 125, 3, 9, 17), (30, .aload_n 0, 1, 0, 0), (31, .getfield 128, 3, 9, 16), 
  (34, .isub, 1, 0, 0), (35, .iconst 1, 1, 0, 0), (36, .if_icmp .ne 23, 3, 59, 0), (39, .aload_n 0, 1, 0, 0), (40, .getfield 17, 3, 9, 3), (43, .aload_n 0, 1, 0, 0), (44, .getfield 128, 3, 9, 16), (47, .iaload, 1, 0, 0), 
  (48, .bipush 48, 2, 0, 0), (50, .isub, 1, 0, 0), (51, .iload_n 1, 1, 0, 0), (52, .if_icmp .ge 7, 3, 59, 0), (55, .iconst 1, 1, 0, 0), (56, .goto 4, 3, 60, 0), (59, .iconst 0, 1, 0, 0), (60, .istore_n 2, 1, 0, 0), 
  (61, .iload_n 2, 1, 0, 0), (62, .ifCond .eq 18, 3, 80, 0), (65, .aload_n 0, 1, 0, 0), (66, .getfield 17, 3, 9, 3), (69, .aload_n 0, 1, 0, 0), (70, .getfield 128, 3, 9, 16), (73, .iaload, 1, 0, 0), (74, .bipush 48, 2, 0, 0), 
  (76, .isub, 1, 0, 0), (77, .goto 4, 3, 81, 0), (80, .iconst (-1), 1, 0, 0), (81, .ireturn, 1, 0, 0)]
abbrev hX9_numberHere : xHd := (yX9_numberHere, cX9_numberHere, 3, some .int)
theorem kX9_numberHere : xck hX9_numberHere rX9_numberHere = true := by decide +kernel
def rX9_number : List xRow := [(0, .aload_n 0, 1, 0, 0), (1, .iload_n 1, 1, 0, 0), (2, .invokevirtual 138, 3, 139, 1), (5, .istore_n 2, 1, 0, 0), (6, .iload_n 2, 1, 0, 0), (7, .iconst (-1), 1, 0, 0), (8, .if_icmp .eq 7, 3, 15, 0), (11, .aload_n 0, 1, 0, 0), 
  (12, .invokevirtual 142, 3, 137, 0), (15, .iload_n 2, 1, 0, 0), (16, .ireturn, 1, 0, 0)]
abbrev hX9_number : xHd := (yX9_number, cX9_number, 3, some .int)
theorem kX9_number : xck hX9_number rX9_number = true := by decide +kernel
def rX9_words : List xRow := [(0, .iconst 0, 1, 0, 0), (1, .istore_n 2, 1, 0, 0), (2, .aload_n 0, 1, 0, 0), (3, .getfield 128, 3, 9, 16), (6, .aload_n 0, 1, 0, 0), (7, .getfield 113, 3, 9, 4), (10, .if_icmp .ge 35, 3, 45, 0), (13, .aload_n 0, 1, 0, 0), 
  (14, .getfield 17, 3, 9, 3), (17, .aload_n 0, 1, 0, 0), (18, .getfield 128, 3, 9, 16), (21, .iaload, 1, 0, 0), (22, .invokestatic 131, 3, 135, 1), (25, .ifCond .eq 20, 3, 45, 0), (28, .aload_n 0, 1, 0, 0), (29, .getfield 125, 3, 9, 17), 
  (32, .aload_n 0, 1, 0, 0), (33, .getfield 128, 3, 9, 16), (36, .isub, 1, 0, 0), (37, .iload_n 1, 1, 0, 0), (38, .if_icmp .gt 7, 3, 45, 0), (41, .iconst 1, 1, 0, 0), (42, .goto 4, 3, 46, 0), (45, .iconst 0, 1, 0, 0), 
  (46, .istore_n 3, 1, 0, 0), (47, .bipush 96, 2, 0, 0), (49, .istore 4, 2, 0, 0), (51, .aload_n 0, 1, 0, 0), (52, .getfield 128, 3, 9, 16), (55, .istore 5, 2, 0, 0), (57, .iload 5, 2, 0, 0), (59, .aload_n 0, 1, 0, 0), 
  (60, .getfield 125, 3, 9, 17), (63, .if_icmp .ge 75, 3, 138, 0), (66, .iload_n 3, 1, 0, 0), (67, .ifCond .eq 71, 3, 138, 0), (70, .aload_n 0, 1, 0, 0), (71, .getfield 17, 3, 9, 3), (74, .iload 5, 2, 0, 0), (76, .iaload, 1, 0, 0), 
  (77, .iload 4, 2, 0, 0), (79, .if_icmp .le 19, 3, 98, 0), (82, .aload_n 0, 1, 0, 0), (83, .getfield 17, 3, 9, 3), (86, .iload 5, 2, 0, 0), (88, .iaload, 1, 0, 0), (89, .bipush 107, 2, 0, 0), (91, .if_icmp .ge 7, 3, 98, 0), 
  (94, .iconst 1, 1, 0, 0), (95, .goto 4, 3, 99, 0), (98, .iconst 0, 1, 0, 0), (99, .istore_n 3, 1, 0, 0), (100, .aload_n 0, 1, 0, 0), (101, .getfield 17, 3, 9, 3), (104, .iload 5, 2, 0, 0), (106, .iaload, 1, 0, 0), 
  (107, .istore 4, 2, 0, 0), (109, .iload_n 2, 1, 0, 0), (110, .iload_n 3, 1, 0, 0), (111, .ifCond .eq 18, 3, 129, 0), (114, .iconst 1, 1, 0, 0), (115, .aload_n 0, 1, 0, 0), (116, .getfield 17, 3, 9, 3), (119, .iload 5, 2, 0, 0), 
  (121, .iaload, 1, 0, 0), (122, .bipush 97, 2, 0, 0), (124, .isub, 1, 0, 0), (125, .ishl, 1, 0, 0), (126, .goto 4, 3, 130, 0), (129, .iconst 0, 1, 0, 0), (130, .ior, 1, 0, 0), (131, .istore_n 2, 1, 0, 0), 
  (132, .iinc 5 1, 3, 0, 0), (135, .goto (-78), 3, 57, 0), (138, .iload_n 3, 1, 0, 0), (139, .ifCond .eq 7, 3, 146, 0), (142, .aload_n 0, 1, 0, 0), (143, .invokevirtual 142, 3, 137, 0), (146, .iload_n 3, 1, 0, 0), (147, .ifCond .eq 7, 3, 154, 0), 
  (150, .iload_n 2, 1, 0, 0), (151, .goto 4, 3, 155, 0), (154, .iconst 0, 1, 0, 0), (155, .ireturn, 1, 0, 0)]
abbrev hX9_words : xHd := (yX9_words, cX9_words, 6, some .int)
theorem kX9_words : xck hX9_words rX9_words = true := by decide +kernel
def rX9_kindHere : List xRow := [(0, .aload_n 0, 1, 0, 0), (1, .aload_n 0, 1, 0, 0), (2, .getfield 53, 3, 9, 24), (5, .invokevirtual 145, 3, 138, 1), (8, .ifCond .eq 7, 3, 15, 0), (11, .iconst 0, 1, 0, 0), (12, .goto 64, 3, 76, 0), (15, .aload_n 0, 1, 0, 0), 
  (16, .aload_n 0, 1, 0, 0), (17, .getfield 56, 3, 9, 25), (20, .invokevirtual 145, 3, 138, 1), (23, .ifCond .eq 7, 3, 30, 0), (26, .iconst 1, 1, 0, 0), (27, .goto 49, 3, 76, 0), (30, .aload_n 0, 1, 0, 0), (31, .aload_n 0, 1, 0, 0), 
  (32, .getfield 59, 3, 9, 26), (35, .invokevirtual 145, 3, 138, 1), (38, .ifCond .eq 7, 3, 45, 0), (41, .iconst 2, 1, 0, 0), (42, .goto 34, 3, 76, 0), (45, .aload_n 0, 1, 0, 0), (46, .aload_n 0, 1, 0, 0), (47, .getfield 62, 3, 9, 27), 
  (50, .invokevirtual 145, 3, 138, 1), (53, .ifCond .eq 7, 3, 60, 0), (56, .iconst 3, 1, 0, 0), (57, .goto 19, 3, 76, 0), (60, .aload_n 0, 1, 0, 0), (61, .aload_n 0, 1, 0, 0), (62, .getfield 65, 3, 9, 28), (65, .invokevirtual 145, 3, 138, 1), 
  (68, .ifCond .eq 7, 3, 75, 0), (71, .iconst 4, 1, 0, 0), (72, .goto 4, 3, 76, 0), (75, .iconst (-1), 1, 0, 0), (76, .ireturn, 1, 0, 0)]
abbrev hX9_kindHere : xHd := (yX9_kindHere, cX9_kindHere, 1, some .int)
theorem kX9_kindHere : xck hX9_kindHere rX9_kindHere = true := by decide +kernel
def rX9_readsBird : List xRow := [(0, .aload_n 0, 1, 0, 0), (1, .getfield 149, 3, 9, 18), (4, .bipush 8, 2, 0, 0), (6, .if_icmp .ne 5, 3, 11, 0), (9, .iconst 0, 1, 0, 0), (10, .ireturn, 1, 0, 0), (11, .aload_n 0, 1, 0, 0), (12, .invokevirtual 142, 3, 137, 0), 
  (15, .aload_n 0, 1, 0, 0), (16, .iconst 4, 1, 0, 0), (17, .invokevirtual 152, 3, 140, 1), (20, .istore_n 2, 1, 0, 0), (21, .iload_n 2, 1, 0, 0), (22, .iconst (-1), 1, 0, 0), (23, .if_icmp .ne 5, 3, 28, 0), (26, .iconst 0, 1, 0, 0), 
  (27, .ireturn, 1, 0, 0), (28, .aload_n 0, 1, 0, 0), (29, .getfield 155, 3, 9, 22), (32, .ifCond .eq 40, 3, 72, 0), (35, .aload_n 0, 1, 0, 0), (36, .getfield 7, 3, 9, 0), (39, .bipush 112, 2, 0, 0), (41, .aload_n 0, 1, 0, 0), 
  (42, .getfield 149, 3, 9, 18), (45, .iadd, 1, 0, 0), (46, .iload_n 1, 1, 0, 0), (47, .iastore, 1, 0, 0), (48, .aload_n 0, 1, 0, 0), (49, .getfield 7, 3, 9, 0), (52, .bipush 120, 2, 0, 0), (54, .aload_n 0, 1, 0, 0), 
  (55, .getfield 149, 3, 9, 18), (58, .iadd, 1, 0, 0), (59, .iload_n 2, 1, 0, 0), (60, .iastore, 1, 0, 0), (61, .aload_n 0, 1, 0, 0), (62, .getfield 7, 3, 9, 0), (65, .bipush 108, 2, 0, 0), (67, .dup2, 1, 0, 0), 
  (68, .iaload, 1, 0, 0), (69, .iconst 1, 1, 0, 0), (70, .iadd, 1, 0, 0), (71, .iastore, 1, 0, 0), (72, .aload_n 0, 1, 0, 0), (73, .dup, 1, 0, 0), (74, .getfield 149, 3, 9, 18), (77, .iconst 1, 1, 0, 0), 
  (78, .iadd, 1, 0, 0), (79, .putfield 149, 3, 9, 18), (82, .iconst 1, 1, 0, 0), (83, .ireturn, 1, 0, 0)]
abbrev hX9_readsBird : xHd := (yX9_readsBird, cX9_readsBird, 3, some .boolean)
theorem kX9_readsBird : xck hX9_readsBird rX9_readsBird = true := by decide +kernel
def rX9_readsMan : List xRow := [(0, .aload_n 0, 1, 0, 0), (1, .getfield 159, 3, 9, 19), (4, .iconst 4, 1, 0, 0), (5, .if_icmp .ne 5, 3, 10, 0), (8, .iconst 0, 1, 0, 0), (9, .ireturn, 1, 0, 0), (10, .aload_n 0, 1, 0, 0), (11, .invokevirtual 142, 3, 137, 0), 
  (14, .aload_n 0, 1, 0, 0), (15, .bipush 10, 2, 0, 0), (17, .invokevirtual 162, 3, 141, 1), (20, .istore_n 1, 1, 0, 0), (21, .iload_n 1, 1, 0, 0), (22, .ifCond .ne 5, 3, 27, 0), (25, .iconst 0, 1, 0, 0), (26, .ireturn, 1, 0, 0), 
  (27, .aload_n 0, 1, 0, 0), (28, .getfield 155, 3, 9, 22), (31, .ifCond .eq 42, 3, 73, 0), (34, .aload_n 0, 1, 0, 0), (35, .getfield 7, 3, 9, 0), (38, .sipush 208, 3, 0, 0), (41, .aload_n 0, 1, 0, 0), (42, .getfield 159, 3, 9, 19), 
  (45, .iadd, 1, 0, 0), (46, .iload_n 1, 1, 0, 0), (47, .iastore, 1, 0, 0), (48, .aload_n 0, 1, 0, 0), (49, .getfield 7, 3, 9, 0), (52, .sipush 212, 3, 0, 0), (55, .aload_n 0, 1, 0, 0), (56, .getfield 159, 3, 9, 19), 
  (59, .iadd, 1, 0, 0), (60, .iconst (-1), 1, 0, 0), (61, .iastore, 1, 0, 0), (62, .aload_n 0, 1, 0, 0), (63, .getfield 7, 3, 9, 0), (66, .bipush 109, 2, 0, 0), (68, .dup2, 1, 0, 0), (69, .iaload, 1, 0, 0), 
  (70, .iconst 1, 1, 0, 0), (71, .iadd, 1, 0, 0), (72, .iastore, 1, 0, 0), (73, .aload_n 0, 1, 0, 0), (74, .getfield 47, 3, 9, 20), (77, .aload_n 0, 1, 0, 0), (78, .getfield 159, 3, 9, 19), (81, .iconst (-1), 1, 0, 0), 
  (82, .iastore, 1, 0, 0), (83, .aload_n 0, 1, 0, 0), (84, .dup, 1, 0, 0), (85, .getfield 159, 3, 9, 19), (88, .iconst 1, 1, 0, 0), (89, .iadd, 1, 0, 0), (90, .putfield 159, 3, 9, 19), (93, .iconst 1, 1, 0, 0), 
  (94, .ireturn, 1, 0, 0)]
abbrev hX9_readsMan : xHd := (yX9_readsMan, cX9_readsMan, 2, some .boolean)
theorem kX9_readsMan : xck hX9_readsMan rX9_readsMan = true := by decide +kernel
def rX9_readsKnows : List xRow := [(0, .aload_n 0, 1, 0, 0), (1, .invokevirtual 142, 3, 137, 0), (4, .aload_n 0, 1, 0, 0), (5, .aload_n 0, 1, 0, 0), (6, .getfield 149, 3, 9, 18), (9, .invokevirtual 152, 3, 140, 1), (12, .istore_n 1, 1, 0, 0), (13, .iload_n 1, 1, 0, 0), 
  (14, .iconst (-1), 1, 0, 0), (15, .if_icmp .ne 7, 3, 22, 0), (18, .iconst 0, 1, 0, 0), (19, .goto 8, 3, 27, 0), (22, .aload_n 0, 1, 0, 0), (23, .iconst 1, 1, 0, 0), (24, .invokevirtual 162, 3, 141, 1), (27, .istore_n 2, 1, 0, 0), 
  (28, .iload_n 2, 1, 0, 0), (29, .ifCond .ne 7, 3, 36, 0), (32, .iconst (-1), 1, 0, 0), (33, .goto 9, 3, 42, 0), (36, .aload_n 0, 1, 0, 0), (37, .bipush 10, 2, 0, 0), (39, .invokevirtual 152, 3, 140, 1), (42, .istore_n 3, 1, 0, 0), 
  (43, .iload_n 3, 1, 0, 0), (44, .iconst (-1), 1, 0, 0), (45, .if_icmp .ne 5, 3, 50, 0), (48, .iconst 0, 1, 0, 0), (49, .ireturn, 1, 0, 0), (50, .iconst 0, 1, 0, 0), (51, .istore 4, 2, 0, 0), (53, .iload 4, 2, 0, 0), 
  (55, .bipush 10, 2, 0, 0), (57, .if_icmp .ge 61, 3, 118, 0), (60, .aload_n 0, 1, 0, 0), (61, .getfield 155, 3, 9, 22), (64, .ifCond .eq 54, 3, 118, 0), (67, .aload_n 0, 1, 0, 0), (68, .getfield 7, 3, 9, 0), (71, .sipush 128, 3, 0, 0), 
  (74, .bipush 10, 2, 0, 0), (76, .iload_n 1, 1, 0, 0), (77, .imul, 1, 0, 0), (78, .iadd, 1, 0, 0), (79, .iload 4, 2, 0, 0), (81, .iadd, 1, 0, 0), (82, .iload_n 2, 1, 0, 0), (83, .iload 4, 2, 0, 0), 
  (85, .invokestatic 165, 3, 131, 2), (88, .ifCond .eq 7, 3, 95, 0), (91, .iload_n 3, 1, 0, 0), (92, .goto 19, 3, 111, 0), (95, .aload_n 0, 1, 0, 0), (96, .getfield 7, 3, 9, 0), (99, .sipush 128, 3, 0, 0), (102, .bipush 10, 2, 0, 0), 
  (104, .iload_n 1, 1, 0, 0), (105, .imul, 1, 0, 0), (106, .iadd, 1, 0, 0), (107, .iload 4, 2, 0, 0), (109, .iadd, 1, 0, 0), (110, .iaload, 1, 0, 0), (111, .iastore, 1, 0, 0), (112, .iinc 4 1, 3, 0, 0), 
  (115, .goto (-62), 3, 53, 0), (118, .iconst 1, 1, 0, 0), (119, .ireturn, 1, 0, 0)]
abbrev hX9_readsKnows : xHd := (yX9_readsKnows, cX9_readsKnows, 5, some .boolean)
theorem kX9_readsKnows : xck hX9_readsKnows rX9_readsKnows = true := by decide +kernel
def rX9_readsSits : List xRow := [(0, .aload_n 0, 1, 0, 0), (1, .invokevirtual 142, 3, 137, 0), (4, .aload_n 0, 1, 0, 0), (5, .aload_n 0, 1, 0, 0), (6, .getfield 159, 3, 9, 19), (9, .invokevirtual 152, 3, 140, 1), (12, .istore_n 1, 1, 0, 0), (13, .iload_n 1, 1, 0, 0), 
  (14, .iconst (-1), 1, 0, 0), (15, .if_icmp .ne 7, 3, 22, 0), (18, .iconst (-1), 1, 0, 0), (19, .goto 11, 3, 30, 0), (22, .aload_n 0, 1, 0, 0), (23, .aload_n 0, 1, 0, 0), (24, .getfield 149, 3, 9, 18), (27, .invokevirtual 138, 3, 139, 1), 
  (30, .istore_n 2, 1, 0, 0), (31, .iload_n 2, 1, 0, 0), (32, .iconst (-1), 1, 0, 0), (33, .if_icmp .eq 7, 3, 40, 0), (36, .iconst 1, 1, 0, 0), (37, .goto 4, 3, 41, 0), (40, .iconst 0, 1, 0, 0), (41, .istore_n 3, 1, 0, 0), 
  (42, .iconst 0, 1, 0, 0), (43, .istore 4, 2, 0, 0), (45, .iload 4, 2, 0, 0), (47, .aload_n 0, 1, 0, 0), (48, .getfield 159, 3, 9, 19), (51, .if_icmp .ge 36, 3, 87, 0), (54, .iload_n 3, 1, 0, 0), (55, .ifCond .eq 32, 3, 87, 0), 
  (58, .iload 4, 2, 0, 0), (60, .iload_n 1, 1, 0, 0), (61, .if_icmp .eq 14, 3, 75, 0), (64, .aload_n 0, 1, 0, 0), (65, .getfield 47, 3, 9, 20), (68, .iload 4, 2, 0, 0), (70, .iaload, 1, 0, 0), (71, .iload_n 2, 1, 0, 0), 
  (72, .if_icmp .eq 7, 3, 79, 0), (75, .iconst 1, 1, 0, 0), (76, .goto 4, 3, 80, 0), (79, .iconst 0, 1, 0, 0), (80, .istore_n 3, 1, 0, 0), (81, .iinc 4 1, 3, 0, 0), (84, .goto (-39), 3, 45, 0), (87, .iload_n 3, 1, 0, 0), 
  (88, .ifCond .ne 5, 3, 93, 0), (91, .iconst 0, 1, 0, 0), (92, .ireturn, 1, 0, 0), (93, .aload_n 0, 1, 0, 0), (94, .invokevirtual 142, 3, 137, 0), (97, .aload_n 0, 1, 0, 0), (98, .getfield 47, 3, 9, 20), (101, .iload_n 1, 1, 0, 0), 
  (102, .iload_n 2, 1, 0, 0), (103, .iastore, 1, 0, 0), (104, .aload_n 0, 1, 0, 0), (105, .getfield 7, 3, 9, 0), (108, .sipush 212, 3, 0, 0), (111, .iload_n 1, 1, 0, 0), (112, .iadd, 1, 0, 0), (113, .aload_n 0, 1, 0, 0), 
  (114, .getfield 155, 3, 9, 22), (117, .ifCond .eq 7, 3, 124, 0), (120, .iload_n 2, 1, 0, 0), (121, .goto 13, 3, 134, 0), (124, .aload_n 0, 1, 0, 0), (125, .getfield 7, 3, 9, 0), (128, .sipush 212, 3, 0, 0), (131, .iload_n 1, 1, 0, 0), 
  (132, .iadd, 1, 0, 0), (133, .iaload, 1, 0, 0), (134, .iastore, 1, 0, 0), (135, .iconst 1, 1, 0, 0), (136, .ireturn, 1, 0, 0)]
abbrev hX9_readsSits : xHd := (yX9_readsSits, cX9_readsSits, 5, some .boolean)
theorem kX9_readsSits : xck hX9_readsSits rX9_readsSits = true := by decide +kernel
def rX9_readsCover : List xRow := [(0, .aload_n 0, 1, 0, 0), (1, .invokevirtual 142, 3, 137, 0), (4, .aload_n 0, 1, 0, 0), (5, .aload_n 0, 1, 0, 0), (6, .getfield 149, 3, 9, 18), (9, .invokevirtual 152, 3, 140, 1), (12, .istore_n 1, 1, 0, 0), (13, .aload_n 0, 1, 0, 0), 
  (14, .getfield 7, 3, 9, 0), (17, .bipush 111, 2, 0, 0), (19, .dup2, 1, 0, 0), (20, .iaload, 1, 0, 0), (21, .aload_n 0, 1, 0, 0), (22, .getfield 155, 3, 9, 22), (25, .ifCond .eq 14, 3, 39, 0), (28, .iload_n 1, 1, 0, 0), 
  (29, .iconst (-1), 1, 0, 0), (30, .if_icmp .eq 9, 3, 39, 0), (33, .iconst 1, 1, 0, 0), (34, .iload_n 1, 1, 0, 0), (35, .ishl, 1, 0, 0), (36, .goto 4, 3, 40, 0), (39, .iconst 0, 1, 0, 0), (40, .ior, 1, 0, 0), 
  (41, .iastore, 1, 0, 0), (42, .iload_n 1, 1, 0, 0), (43, .iconst (-1), 1, 0, 0), (44, .if_icmp .eq 7, 3, 51, 0), (47, .iconst 1, 1, 0, 0), (48, .goto 4, 3, 52, 0), (51, .iconst 0, 1, 0, 0), (52, .ireturn, 1, 0, 0)]
abbrev hX9_readsCover : xHd := (yX9_readsCover, cX9_readsCover, 2, some .boolean)
theorem kX9_readsCover : xck hX9_readsCover rX9_readsCover = true := by decide +kernel
def rX9_readsHarbour : List xRow := [(0, .aload_n 0, 1, 0, 0), (1, .invokevirtual 142, 3, 137, 0), (4, .aload_n 0, 1, 0, 0), (5, .iconst 0, 1, 0, 0), (6, .putfield 149, 3, 9, 18), (9, .aload_n 0, 1, 0, 0), (10, .iconst 0, 1, 0, 0), (11, .putfield 159, 3, 9, 19), 
  (14, .iconst 0, 1, 0, 0), (15, .istore_n 1, 1, 0, 0), (16, .iload_n 1, 1, 0, 0), (17, .bipush 108, 2, 0, 0), (19, .if_icmp .ge 26, 3, 45, 0), (22, .aload_n 0, 1, 0, 0), (23, .getfield 155, 3, 9, 22), (26, .ifCond .eq 19, 3, 45, 0), 
  (29, .aload_n 0, 1, 0, 0), (30, .getfield 7, 3, 9, 0), (33, .bipush 108, 2, 0, 0), (35, .iload_n 1, 1, 0, 0), (36, .iadd, 1, 0, 0), (37, .iconst 0, 1, 0, 0), (38, .iastore, 1, 0, 0), (39, .iinc 1 1, 3, 0, 0), 
  (42, .goto (-26), 3, 16, 0), (45, .iconst 1, 1, 0, 0), (46, .ireturn, 1, 0, 0)]
abbrev hX9_readsHarbour : xHd := (yX9_readsHarbour, cX9_readsHarbour, 2, some .boolean)
theorem kX9_readsHarbour : xck hX9_readsHarbour rX9_readsHarbour = true := by decide +kernel
def rX9_readsClause : List xRow := [(0, .aload_n 0, 1, 0, 0), (1, .invokevirtual 169, 3, 142, 0), (4, .iconst (-1), 1, 0, 0), (5, .if_icmp .eq 12, 3, 17, 0), (8, .aload_n 0, 1, 0, 0), (9, .aload_n 0, 1, 0, 0), (10, .invokevirtual 169, 3, 142, 0), (13, .invokevirtual 173, 3, 143, 1), 
  (16, .ireturn, 1, 0, 0), (17, .aload_n 0, 1, 0, 0), (18, .aload_n 0, 1, 0, 0), (19, .getfield 68, 3, 9, 29), (22, .invokevirtual 145, 3, 138, 1), (25, .ifCond .eq 8, 3, 33, 0), (28, .aload_n 0, 1, 0, 0), (29, .invokevirtual 176, 3, 144, 0), 
  (32, .ireturn, 1, 0, 0), (33, .aload_n 0, 1, 0, 0), (34, .aload_n 0, 1, 0, 0), (35, .getfield 50, 3, 9, 23), (38, .invokevirtual 145, 3, 138, 1), (41, .ifCond .eq 10, 3, 51, 0), (44, .aload_n 0, 1, 0, 0), (45, .invokevirtual 180, 3, 148, 0), 
  (48, .goto 62, 3, 110, 0), (51, .aload_n 0, 1, 0, 0), (52, .aload_n 0, 1, 0, 0), (53, .getfield 71, 3, 9, 30), (56, .invokevirtual 145, 3, 138, 1), (59, .ifCond .eq 10, 3, 69, 0), (62, .aload_n 0, 1, 0, 0), (63, .invokevirtual 183, 3, 145, 0), 
  (66, .goto 44, 3, 110, 0), (69, .aload_n 0, 1, 0, 0), (70, .aload_n 0, 1, 0, 0), (71, .getfield 74, 3, 9, 31), (74, .invokevirtual 145, 3, 138, 1), (77, .ifCond .eq 10, 3, 87, 0), (80, .aload_n 0, 1, 0, 0), (81, .invokevirtual 186, 3, 146, 0), 
  (84, .goto 26, 3, 110, 0), (87, .aload_n 0, 1, 0, 0), (88, .aload_n 0, 1, 0, 0), (89, .getfield 77, 3, 9, 32), (92, .invokevirtual 145, 3, 138, 1), (95, .ifCond .eq 14, 3, 109, 0), (98, .aload_n 0, 1, 0, 0), (99, .invokevirtual 189, 3, 147, 0), 
  (102, .ifCond .eq 7, 3, 109, 0), (105, .iconst 1, 1, 0, 0), (106, .goto 4, 3, 110, 0), (109, .iconst 0, 1, 0, 0), (110, .ireturn, 1, 0, 0)]
abbrev hX9_readsClause : xHd := (yX9_readsClause, cX9_readsClause, 1, some .boolean)
theorem kX9_readsClause : xck hX9_readsClause rX9_readsClause = true := by decide +kernel
def rX9_reads : List xRow := [(0, .aload_n 0, 1, 0, 0), (1, .iload_n 1, 1, 0, 0), (2, .putfield 155, 3, 9, 122), (5, .aload_n 0, 1, 0, 0), (6, .iconst 0, 1, 0, 0), (7, .putfield 125, 3, 9, 17), (10, .aload_n 0, 1, 0, 0), (11, .iconst 1, 1, 0, 0), 
  (12, .putfield 192, 3, 9, 21), (15, .aload_n 0, 1, 0, 0), (16, .aload_n 0, 1, 0, 0), (17, .getfield 7, 3, 9, 0), (20, .bipush 108, 2, 0, 0), (22, .iaload, 1, 0, 0), (23, .putfield 149, 3, 9, 18), (26, .aload_n 0, 1, 0, 0), 
  (27, .aload_n 0, 1, 0, 0), (28, .getfield 7, 3, 9, 0), (31, .bipush 109, 2, 0, 0), (33, .iaload, 1, 0, 0), (34, .putfield 159, 3, 9, 19), (37, .iconst 0, 1, 0, 0), (38, .istore_n 2, 1, 0, 0), (39, .iload_n 2, 1, 0, 0), 
  (40, .iconst 4, 1, 0, 0), (41, .if_icmp .ge 25, 3, 66, 0), (44, .aload_n 0, 1, 0, 0), (45, .getfield 47, 3, 9, 20), (48, .iload_n 2, 1, 0, 0), (49, .aload_n 0, 1, 0, 0), (50, .getfield 7, 3, 9, 0), (53, .sipush 212, 3, 0, 0), 
  (56, .iload_n 2, 1, 0, 0), (57, .iadd, 1, 0, 0), (58, .iaload, 1, 0, 0), (59, .iastore, 1, 0, 0), (60, .iinc 2 1, 3, 0, 0), (63, .goto (-24), 3, 39, 0), (66, .aload_n 0, 1, 0, 0), (67, .invokevirtual 142, 3, 137, 0), 
  (70, .aload_n 0, 1, 0, 0), (71, .invokevirtual 195, 3, 149, 0), (74, .istore_n 2, 1, 0, 0), (75, .iload_n 2, 1, 0, 0), (76, .ifCond .eq 69, 3, 145, 0), (79, .aload_n 0, 1, 0, 0), (80, .getfield 128, 3, 9, 16), (83, .aload_n 0, 1, 0, 0), 
  (84, .getfield 113, 3, 9, 4), (87, .if_icmp .ge 58, 3, 145, 0), (90, .aload_n 0, 1, 0, 0), (91, .getfield 192, 3, 9, 21), (94, .bipush 20, 2, 0, 0), (96, .if_icmp .ge 21, 3, 117, 0), (99, .aload_n 0, 1, 0, 0), (100, .getfield 17, 3, 9, 3), 
  (103, .aload_n 0, 1, 0, 0), (104, .getfield 128, 3, 9, 16), (107, .iaload, 1, 0, 0), (108, .bipush 59, 2, 0, 0), (110, .if_icmp .ne 7, 3, 117, 0), (113, .iconst 1, 1, 0, 0), (114, .goto 4, 3, 118, 0), (117, .iconst 0, 1, 0, 0), 
  (118, .istore_n 2, 1, 0, 0), (119, .iload_n 2, 1, 0, 0), (120, .ifCond .eq (-45), 3, 75, 0), (123, .aload_n 0, 1, 0, 0), (124, .invokevirtual 142, 3, 137, 0), (127, .aload_n 0, 1, 0, 0), (128, .invokevirtual 195, 3, 149, 0), (131, .istore_n 2, 1, 0, 0), 
  (132, .aload_n 0, 1, 0, 0), (133, .dup, 1, 0, 0), (134, .getfield 192, 3, 9, 21), (137, .iconst 1, 1, 0, 0), (138, .iadd, 1, 0, 0), (139, .putfield 192, 3, 9, 21), (142, .goto (-67), 3, 75, 0), (145, .iload_n 2, 1, 0, 0), 
  (146, .ireturn, 1, 0, 0)]
abbrev hX9_reads : xHd := (yX9_reads, cX9_reads, 3, some .boolean)
theorem kX9_reads : xck hX9_reads rX9_reads = true := by decide +kernel
def rX9_copyHarbour : List xRow := [(0, .iconst 0, 1, 0, 0), (1, .istore_n 3, 1, 0, 0), (2, .iload_n 3, 1, 0, 0), (3, .bipush 108, 2, 0, 0), (5, .if_icmp .ge 25, 3, 30, 0), (8, .aload_n 0, 1, 0, 0), (9, .getfield 7, 3, 9, 0), (12, .iload_n 2, 1, 0, 0), 
  (13, .iload_n 3, 1, 0, 0), (14, .iadd, 1, 0, 0), (15, .aload_n 0, 1, 0, 0), (16, .getfield 7, 3, 9, 0), (19, .iload_n 1, 1, 0, 0), (20, .iload_n 3, 1, 0, 0), (21, .iadd, 1, 0, 0), (22, .iaload, 1, 0, 0), 
  (23, .iastore, 1, 0, 0), (24, .iinc 3 1, 3, 0, 0), (27, .goto (-25), 3, 2, 0), (30, .return_, 1, 0, 0)]
abbrev hX9_copyHarbour : xHd := (yX9_copyHarbour, cX9_copyHarbour, 4, none)
theorem kX9_copyHarbour : xck hX9_copyHarbour rX9_copyHarbour = true := by decide +kernel
def rX9_harbour : List xRow := [(0, .aload_n 0, 1, 0, 0), (1, .iconst 0, 1, 0, 0), (2, .invokevirtual 198, 3, 150, 1), (5, .ifCond .ne 6, 3, 11, 0), (8, .bipush (-4), 2, 0, 0), (10, .ireturn, 1, 0, 0), (11, .aload_n 0, 1, 0, 0), (12, .iconst 1, 1, 0, 0), 
  (13, .invokevirtual 198, 3, 150, 1), (16, .pop, 1, 0, 0), (17, .aload_n 0, 1, 0, 0), (18, .iconst 0, 1, 0, 0), (19, .putfield 113, 3, 9, 4), (22, .aload_n 0, 1, 0, 0), (23, .bipush 108, 2, 0, 0), (25, .iconst 0, 1, 0, 0), 
  (26, .invokevirtual 202, 3, 151, 2), (29, .aload_n 0, 1, 0, 0), (30, .iconst 0, 1, 0, 0), (31, .putfield 206, 3, 9, 1), (34, .aload_n 0, 1, 0, 0), (35, .getfield 13, 3, 9, 2), (38, .iconst 0, 1, 0, 0), (39, .iconst 0, 1, 0, 0), 
  (40, .bastore, 1, 0, 0), (41, .aload_n 0, 1, 0, 0), (42, .getfield 13, 3, 9, 2), (45, .iconst 1, 1, 0, 0), (46, .iconst 0, 1, 0, 0), (47, .bastore, 1, 0, 0), (48, .aload_n 0, 1, 0, 0), (49, .iconst 0, 1, 0, 0), 
  (50, .putfield 209, 3, 9, 5), (53, .aload_n 0, 1, 0, 0), (54, .getfield 192, 3, 9, 21), (57, .ireturn, 1, 0, 0)]
abbrev hX9_harbour : xHd := (yX9_harbour, cX9_harbour, 1, some .int)
theorem kX9_harbour : xck hX9_harbour rX9_harbour = true := by decide +kernel
def rX9_tongueFault : List xRow := [(0, .iconst 1, 1, 0, 0), (1, .istore_n 1, 1, 0, 0), (2, .iconst 0, 1, 0, 0), (3, .istore_n 2, 1, 0, 0), (4, .iconst 0, 1, 0, 0), (5, .istore_n 3, 1, 0, 0), (6, .iconst 0, 1, 0, 0), (7, .istore 4, 2, 0, 0), 
  (9, .iload 4, 2, 0, 0), (11, .aload_n 0, 1, 0, 0), (12, .getfield 113, 3, 9, 4), (15, .if_icmp .ge 184, 3, 199, 0), (18, .aload_n 0, 1, 0, 0), (19, .getfield 17, 3, 9, 3), (22, .iload 4, 2, 0, 0), (24, .iaload, 1, 0, 0), 
  (25, .istore 5, 2, 0, 0), (27, .iload 5, 2, 0, 0), (29, .bipush 32, 2, 0, 0), (31, .if_icmp .eq 162, 3, 193, 0), (34, .iload 5, 2, 0, 0), (36, .i2l, 1, 0, 0), (37, .ldc2_w 117, 3, 97, 0), (40, .ldc2_w 212, 3, 106, 0), 
  (43, .invokestatic 109, 3, 130, 3), (46, .ifCond .ne 10, 3, 56, 0), (49, .iload 5, 2, 0, 0), (51, .bipush 46, 2, 0, 0), (53, .if_icmp .ne 7, 3, 60, 0), (56, .iconst 1, 1, 0, 0), (57, .goto 4, 3, 61, 0), (60, .iconst 0, 1, 0, 0), 
  (61, .istore 6, 2, 0, 0), (63, .iload 6, 2, 0, 0), (65, .ifCond .ne 49, 3, 114, 0), (68, .iload 5, 2, 0, 0), (70, .bipush 40, 2, 0, 0), (72, .if_icmp .ne 9, 3, 81, 0), (75, .iload_n 3, 1, 0, 0), (76, .bipush 6, 2, 0, 0), 
  (78, .if_icmp .lt 36, 3, 114, 0), (81, .iload_n 1, 1, 0, 0), (82, .ifCond .ne 36, 3, 118, 0), (85, .iload 5, 2, 0, 0), (87, .bipush 124, 2, 0, 0), (89, .if_icmp .eq 25, 3, 114, 0), (92, .iload 5, 2, 0, 0), (94, .bipush 41, 2, 0, 0), 
  (96, .if_icmp .ne 7, 3, 103, 0), (99, .iload_n 3, 1, 0, 0), (100, .ifCond .gt 14, 3, 114, 0), (103, .iload 5, 2, 0, 0), (105, .bipush 42, 2, 0, 0), (107, .if_icmp .ne 11, 3, 118, 0), (110, .iload_n 2, 1, 0, 0), (111, .ifCond .eq 7, 3, 118, 0), 
  (114, .iconst 1, 1, 0, 0), (115, .goto 4, 3, 119, 0), (118, .iconst 0, 1, 0, 0), (119, .istore 7, 2, 0, 0), (121, .iload 7, 2, 0, 0), (123, .ifCond .ne 6, 3, 129, 0), (126, .iload 4, 2, 0, 0), (128, .ireturn, 1, 0, 0), 
  (129, .iload_n 3, 1, 0, 0), (130, .iload 5, 2, 0, 0), (132, .bipush 40, 2, 0, 0), (134, .if_icmp .ne 7, 3, 141, 0), (137, .iconst 1, 1, 0, 0), (138, .goto 15, 3, 153, 0), (141, .iload 5, 2, 0, 0), (143, .bipush 41, 2, 0, 0), 
  (145, .if_icmp .ne 7, 3, 152, 0), (148, .iconst (-1), 1, 0, 0), (149, .goto 4, 3, 153, 0), (152, .iconst 0, 1, 0, 0), (153, .iadd, 1, 0, 0), (154, .istore_n 3, 1, 0, 0), (155, .iload 5, 2, 0, 0), (157, .bipush 40, 2, 0, 0), 
  (159, .if_icmp .eq 10, 3, 169, 0), (162, .iload 5, 2, 0, 0), (164, .bipush 124, 2, 0, 0), (166, .if_icmp .ne 7, 3, 173, 0), (169, .iconst 1, 1, 0, 0), (170, .goto 4, 3, 174, 0), (173, .iconst 0, 1, 0, 0), (174, .istore_n 1, 1, 0, 0), 
  (175, .iload 6, 2, 0, 0), (177, .ifCond .ne 10, 3, 187, 0), (180, .iload 5, 2, 0, 0), (182, .bipush 41, 2, 0, 0), (184, .if_icmp .ne 7, 3, 191, 0), (187, .iconst 1, 1, 0, 0), (188, .goto 4, 3, 192, 0), (191, .iconst 0, 1, 0, 0), 
  (192, .istore_n 2, 1, 0, 0), (193, .iinc 4 1, 3, 0, 0), (196, .goto (-187), 3, 9, 0), (199, .iload_n 1, 1, 0, 0), (200, .ifCond .ne 7, 3, 207, 0), (203, .iload_n 3, 1, 0, 0), (204, .ifCond .le 10, 3, 214, 0), (207, .aload_n 0, 1, 0, 0), 
  (208, .getfield 113, 3, 9, 4), (211, .goto 4, 3, 215, 0), (214, .iconst (-1), 1, 0, 0), (215, .ireturn, 1, 0, 0)]
abbrev hX9_tongueFault : xHd := (yX9_tongueFault, cX9_tongueFault, 8, some .int)
theorem kX9_tongueFault : xck hX9_tongueFault rX9_tongueFault = true := by decide +kernel
def rX9_fault : List xRow := [(0, .iload_n 1, 1, 0, 0), (1, .i2l, 1, 0, 0), (2, .lconst 0, 1, 0, 0), (3, .lconst 1, 1, 0, 0), (4, .invokestatic 109, 3, 130, 3), (7, .ifCond .ne 6, 3, 13, 0), (10, .bipush (-3), 2, 0, 0), (12, .ireturn, 1, 0, 0), 
  (13, .iload_n 1, 1, 0, 0), (14, .iconst 1, 1, 0, 0), (15, .if_icmp .ne 8, 3, 23, 0), (18, .aload_n 0, 1, 0, 0), (19, .invokevirtual 214, 3, 153, 0), (22, .ireturn, 1, 0, 0), (23, .aload_n 0, 1, 0, 0), (24, .iconst 0, 1, 0, 0), 
  (25, .invokevirtual 198, 3, 150, 1), (28, .ifCond .eq 7, 3, 35, 0), (31, .iconst (-1), 1, 0, 0), (32, .goto 7, 3, 39, 0), (35, .aload_n 0, 1, 0, 0), (36, .getfield 128, 3, 9, 16), (39, .ireturn, 1, 0, 0)]
abbrev hX9_fault : xHd := (yX9_fault, cX9_fault, 2, some .int)
theorem kX9_fault : xck hX9_fault rX9_fault = true := by decide +kernel
def rX9_layTongue : List xRow := [(0, .iconst 0, 1, 0, 0), (1, .istore_n 1, 1, 0, 0), (2, .iconst 0, 1, 0, 0), (3, .istore_n 2, 1, 0, 0), (4, .iload_n 2, 1, 0, 0), (5, .aload_n 0, 1, 0, 0), (6, .getfield 217, 3, 9, 9), (9, .if_icmp .ge 121, 3, 130, 0), 
  (12, .aload_n 0, 1, 0, 0), (13, .getfield 29, 3, 9, 10), (16, .iload_n 2, 1, 0, 0), (17, .iaload, 1, 0, 0), (18, .istore_n 3, 1, 0, 0), (19, .aload_n 0, 1, 0, 0), (20, .getfield 35, 3, 9, 12), (23, .iload_n 2, 1, 0, 0), 
  (24, .iload_n 2, 1, 0, 0), (25, .iastore, 1, 0, 0), (26, .iload_n 3, 1, 0, 0), (27, .bipush 40, 2, 0, 0), (29, .if_icmp .ne 16, 3, 45, 0), (32, .aload_n 0, 1, 0, 0), (33, .getfield 80, 3, 9, 33), (36, .iload_n 1, 1, 0, 0), 
  (37, .iload_n 2, 1, 0, 0), (38, .iastore, 1, 0, 0), (39, .iinc 1 1, 3, 0, 0), (42, .goto 82, 3, 124, 0), (45, .iload_n 3, 1, 0, 0), (46, .bipush 41, 2, 0, 0), (48, .if_icmp .ne 33, 3, 81, 0), (51, .iinc 1 (-1), 3, 0, 0), 
  (54, .aload_n 0, 1, 0, 0), (55, .getfield 35, 3, 9, 12), (58, .iload_n 2, 1, 0, 0), (59, .aload_n 0, 1, 0, 0), (60, .getfield 80, 3, 9, 33), (63, .iload_n 1, 1, 0, 0), (64, .iaload, 1, 0, 0), (65, .iastore, 1, 0, 0), 
  (66, .aload_n 0, 1, 0, 0), (67, .getfield 32, 3, 9, 11), (70, .aload_n 0, 1, 0, 0), (71, .getfield 80, 3, 9, 33), (74, .iload_n 1, 1, 0, 0), (75, .iaload, 1, 0, 0), (76, .iload_n 2, 1, 0, 0), (77, .iastore, 1, 0, 0), 
  (78, .goto 46, 3, 124, 0), (81, .iload_n 3, 1, 0, 0), (82, .bipush 124, 2, 0, 0), (84, .if_icmp .ne 20, 3, 104, 0), (87, .aload_n 0, 1, 0, 0), (88, .getfield 35, 3, 9, 12), (91, .iload_n 2, 1, 0, 0), (92, .aload_n 0, 1, 0, 0), 
  (93, .getfield 80, 3, 9, 33), (96, .iload_n 1, 1, 0, 0), (97, .iconst 1, 1, 0, 0), (98, .isub, 1, 0, 0), (99, .iaload, 1, 0, 0), (100, .iastore, 1, 0, 0), (101, .goto 23, 3, 124, 0), (104, .iload_n 3, 1, 0, 0), 
  (105, .bipush 42, 2, 0, 0), (107, .if_icmp .ne 17, 3, 124, 0), (110, .aload_n 0, 1, 0, 0), (111, .getfield 35, 3, 9, 12), (114, .iload_n 2, 1, 0, 0), (115, .aload_n 0, 1, 0, 0), (116, .getfield 35, 3, 9, 12), (119, .iload_n 2, 1, 0, 0), 
  (120, .iconst 1, 1, 0, 0), (121, .isub, 1, 0, 0), (122, .iaload, 1, 0, 0), (123, .iastore, 1, 0, 0), (124, .iinc 2 1, 3, 0, 0), (127, .goto (-123), 3, 4, 0), (130, .return_, 1, 0, 0)]
abbrev hX9_layTongue : xHd := (yX9_layTongue, cX9_layTongue, 4, none)
theorem kX9_layTongue : xck hX9_layTongue rX9_layTongue = true := by decide +kernel
def rX9_tongue : List xRow := [(0, .aload_n 0, 1, 0, 0), (1, .invokevirtual 214, 3, 153, 0), (4, .iconst (-1), 1, 0, 0), (5, .if_icmp .eq 6, 3, 11, 0), (8, .bipush (-4), 2, 0, 0), (10, .ireturn, 1, 0, 0), (11, .iconst 0, 1, 0, 0), (12, .istore_n 1, 1, 0, 0), 
  (13, .aload_n 0, 1, 0, 0), (14, .getfield 29, 3, 9, 10), (17, .iconst 0, 1, 0, 0), (18, .bipush 40, 2, 0, 0), (20, .iastore, 1, 0, 0), (21, .aload_n 0, 1, 0, 0), (22, .iconst 1, 1, 0, 0), (23, .putfield 217, 3, 9, 9), 
  (26, .iconst 0, 1, 0, 0), (27, .istore_n 2, 1, 0, 0), (28, .iload_n 2, 1, 0, 0), (29, .aload_n 0, 1, 0, 0), (30, .getfield 113, 3, 9, 4), (33, .if_icmp .ge 83, 3, 116, 0), (36, .aload_n 0, 1, 0, 0), (37, .getfield 17, 3, 9, 3), 
  (40, .iload_n 2, 1, 0, 0), (41, .iaload, 1, 0, 0), (42, .bipush 32, 2, 0, 0), (44, .if_icmp .eq 66, 3, 110, 0), (47, .aload_n 0, 1, 0, 0), (48, .getfield 29, 3, 9, 10), (51, .aload_n 0, 1, 0, 0), (52, .getfield 217, 3, 9, 9), 
  (55, .aload_n 0, 1, 0, 0), (56, .getfield 17, 3, 9, 3), (59, .iload_n 2, 1, 0, 0), (60, .iaload, 1, 0, 0), (61, .iastore, 1, 0, 0), (62, .aload_n 0, 1, 0, 0), (63, .dup, 1, 0, 0), (64, .getfield 217, 3, 9, 9), 
  (67, .iconst 1, 1, 0, 0), (68, .iadd, 1, 0, 0), (69, .putfield 217, 3, 9, 9), (72, .iload_n 1, 1, 0, 0), (73, .aload_n 0, 1, 0, 0), (74, .getfield 17, 3, 9, 3), (77, .iload_n 2, 1, 0, 0), (78, .iaload, 1, 0, 0), 
  (79, .i2l, 1, 0, 0), (80, .ldc2_w 117, 3, 97, 0), (83, .ldc2_w 212, 3, 106, 0), (86, .invokestatic 109, 3, 130, 3), (89, .ifCond .ne 14, 3, 103, 0), (92, .aload_n 0, 1, 0, 0), (93, .getfield 17, 3, 9, 3), (96, .iload_n 2, 1, 0, 0), 
  (97, .iaload, 1, 0, 0), (98, .bipush 46, 2, 0, 0), (100, .if_icmp .ne 7, 3, 107, 0), (103, .iconst 1, 1, 0, 0), (104, .goto 4, 3, 108, 0), (107, .iconst 0, 1, 0, 0), (108, .iadd, 1, 0, 0), (109, .istore_n 1, 1, 0, 0), 
  (110, .iinc 2 1, 3, 0, 0), (113, .goto (-85), 3, 28, 0), (116, .aload_n 0, 1, 0, 0), (117, .getfield 29, 3, 9, 10), (120, .aload_n 0, 1, 0, 0), (121, .getfield 217, 3, 9, 9), (124, .bipush 41, 2, 0, 0), (126, .iastore, 1, 0, 0), 
  (127, .aload_n 0, 1, 0, 0), (128, .dup, 1, 0, 0), (129, .getfield 217, 3, 9, 9), (132, .iconst 1, 1, 0, 0), (133, .iadd, 1, 0, 0), (134, .putfield 217, 3, 9, 9), (137, .aload_n 0, 1, 0, 0), (138, .invokevirtual 220, 3, 155, 0), 
  (141, .aload_n 0, 1, 0, 0), (142, .iconst 0, 1, 0, 0), (143, .putfield 113, 3, 9, 4), (146, .iload_n 1, 1, 0, 0), (147, .ireturn, 1, 0, 0)]
abbrev hX9_tongue : xHd := (yX9_tongue, cX9_tongue, 3, some .int)
theorem kX9_tongue : xck hX9_tongue rX9_tongue = true := by decide +kernel
def rX9_mark : List xRow := [(0, .aload_n 0, 1, 0, 0), (1, .getfield 83, 3, 9, 34), (4, .iload_n 1, 1, 0, 0), (5, .baload, 1, 0, 0), (6, .ifCond .ne 7, 3, 13, 0), (9, .iconst 1, 1, 0, 0), (10, .goto 4, 3, 14, 0), (13, .iconst 0, 1, 0, 0), 
  (14, .istore_n 2, 1, 0, 0), (15, .aload_n 0, 1, 0, 0), (16, .getfield 83, 3, 9, 34), (19, .iload_n 1, 1, 0, 0), (20, .iconst 1, 1, 0, 0), (21, .bastore, 1, 0, 0), (22, .iload_n 2, 1, 0, 0), (23, .ireturn, 1, 0, 0)]
abbrev hX9_mark : xHd := (yX9_mark, cX9_mark, 3, some .boolean)
theorem kX9_mark : xck hX9_mark rX9_mark = true := by decide +kernel
def rX9_goesOn : List xRow := [(0, .aload_n 0, 1, 0, 0), (1, .getfield 29, 3, 9, 10), (4, .iload_n 1, 1, 0, 0), (5, .iaload, 1, 0, 0), (6, .istore_n 2, 1, 0, 0), (7, .iconst 0, 1, 0, 0), (8, .istore_n 3, 1, 0, 0), (9, .iload_n 2, 1, 0, 0), 
  (10, .bipush 40, 2, 0, 0), (12, .if_icmp .ne 77, 3, 89, 0), (15, .aload_n 0, 1, 0, 0), (16, .iload_n 1, 1, 0, 0), (17, .iconst 1, 1, 0, 0), (18, .iadd, 1, 0, 0), (19, .invokevirtual 223, 3, 157, 1), (22, .istore_n 3, 1, 0, 0), 
  (23, .iload_n 1, 1, 0, 0), (24, .iconst 1, 1, 0, 0), (25, .iadd, 1, 0, 0), (26, .istore 4, 2, 0, 0), (28, .iload 4, 2, 0, 0), (30, .aload_n 0, 1, 0, 0), (31, .getfield 32, 3, 9, 11), (34, .iload_n 1, 1, 0, 0), 
  (35, .iaload, 1, 0, 0), (36, .if_icmp .ge 53, 3, 89, 0), (39, .aload_n 0, 1, 0, 0), (40, .getfield 29, 3, 9, 10), (43, .iload 4, 2, 0, 0), (45, .iaload, 1, 0, 0), (46, .bipush 124, 2, 0, 0), (48, .if_icmp .ne 25, 3, 73, 0), 
  (51, .aload_n 0, 1, 0, 0), (52, .getfield 35, 3, 9, 12), (55, .iload 4, 2, 0, 0), (57, .iaload, 1, 0, 0), (58, .iload_n 1, 1, 0, 0), (59, .if_icmp .ne 14, 3, 73, 0), (62, .aload_n 0, 1, 0, 0), (63, .iload 4, 2, 0, 0), 
  (65, .iconst 1, 1, 0, 0), (66, .iadd, 1, 0, 0), (67, .invokevirtual 223, 3, 157, 1), (70, .ifCond .ne 7, 3, 77, 0), (73, .iload_n 3, 1, 0, 0), (74, .ifCond .eq 7, 3, 81, 0), (77, .iconst 1, 1, 0, 0), (78, .goto 4, 3, 82, 0), 
  (81, .iconst 0, 1, 0, 0), (82, .istore_n 3, 1, 0, 0), (83, .iinc 4 1, 3, 0, 0), (86, .goto (-58), 3, 28, 0), (89, .iload_n 2, 1, 0, 0), (90, .bipush 124, 2, 0, 0), (92, .if_icmp .ne 19, 3, 111, 0), (95, .aload_n 0, 1, 0, 0), 
  (96, .aload_n 0, 1, 0, 0), (97, .getfield 32, 3, 9, 11), (100, .aload_n 0, 1, 0, 0), (101, .getfield 35, 3, 9, 12), (104, .iload_n 1, 1, 0, 0), (105, .iaload, 1, 0, 0), (106, .iaload, 1, 0, 0), (107, .invokevirtual 223, 3, 157, 1), 
  (110, .istore_n 3, 1, 0, 0), (111, .iload_n 2, 1, 0, 0), (112, .bipush 41, 2, 0, 0), (114, .if_icmp .eq 9, 3, 123, 0), (117, .iload_n 2, 1, 0, 0), (118, .bipush 42, 2, 0, 0), (120, .if_icmp .ne 11, 3, 131, 0), (123, .aload_n 0, 1, 0, 0), 
  (124, .iload_n 1, 1, 0, 0), (125, .iconst 1, 1, 0, 0), (126, .iadd, 1, 0, 0), (127, .invokevirtual 223, 3, 157, 1), (130, .istore_n 3, 1, 0, 0), (131, .iload_n 2, 1, 0, 0), (132, .bipush 42, 2, 0, 0), (134, .if_icmp .ne 26, 3, 160, 0), 
  (137, .aload_n 0, 1, 0, 0), (138, .aload_n 0, 1, 0, 0), (139, .getfield 35, 3, 9, 12), (142, .iload_n 1, 1, 0, 0), (143, .iaload, 1, 0, 0), (144, .invokevirtual 223, 3, 157, 1), (147, .ifCond .ne 7, 3, 154, 0), (150, .iload_n 3, 1, 0, 0), 
  (151, .ifCond .eq 7, 3, 158, 0), (154, .iconst 1, 1, 0, 0), (155, .goto 4, 3, 159, 0), (158, .iconst 0, 1, 0, 0), (159, .istore_n 3, 1, 0, 0), (160, .iload_n 2, 1, 0, 0), (161, .bipush 40, 2, 0, 0), (163, .if_icmp .ne 12, 3, 175, 0), 
  (166, .aload_n 0, 1, 0, 0), (167, .getfield 32, 3, 9, 11), (170, .iload_n 1, 1, 0, 0), (171, .iaload, 1, 0, 0), (172, .goto 4, 3, 176, 0), (175, .iload_n 1, 1, 0, 0), (176, .istore 4, 2, 0, 0), (178, .iload_n 2, 1, 0, 0), 
  (179, .bipush 124, 2, 0, 0), (181, .if_icmp .eq 61, 3, 242, 0), (184, .iload_n 2, 1, 0, 0), (185, .bipush 41, 2, 0, 0), (187, .if_icmp .eq 55, 3, 242, 0), (190, .iload_n 2, 1, 0, 0), (191, .bipush 42, 2, 0, 0), (193, .if_icmp .eq 49, 3, 242, 0), 
  (196, .iload 4, 2, 0, 0), (198, .iconst 1, 1, 0, 0), (199, .iadd, 1, 0, 0), (200, .aload_n 0, 1, 0, 0), (201, .getfield 217, 3, 9, 9), (204, .if_icmp .ge 38, 3, 242, 0), (207, .aload_n 0, 1, 0, 0), (208, .getfield 29, 3, 9, 10), 
  (211, .iload 4, 2, 0, 0), (213, .iconst 1, 1, 0, 0), (214, .iadd, 1, 0, 0), (215, .iaload, 1, 0, 0), (216, .bipush 42, 2, 0, 0), (218, .if_icmp .ne 24, 3, 242, 0), (221, .aload_n 0, 1, 0, 0), (222, .iload 4, 2, 0, 0), 
  (224, .iconst 2, 1, 0, 0), (225, .iadd, 1, 0, 0), (226, .invokevirtual 223, 3, 157, 1), (229, .ifCond .ne 7, 3, 236, 0), (232, .iload_n 3, 1, 0, 0), (233, .ifCond .eq 7, 3, 240, 0), (236, .iconst 1, 1, 0, 0), (237, .goto 4, 3, 241, 0), 
  (240, .iconst 0, 1, 0, 0), (241, .istore_n 3, 1, 0, 0), (242, .iload_n 3, 1, 0, 0), (243, .ireturn, 1, 0, 0)]
abbrev hX9_goesOn : xHd := (yX9_goesOn, cX9_goesOn, 5, some .boolean)
theorem kX9_goesOn : xck hX9_goesOn rX9_goesOn = true := by decide +kernel
def rX9_goOnAll : List xRow := [(0, .iconst 1, 1, 0, 0), (1, .istore_n 1, 1, 0, 0), (2, .iload_n 1, 1, 0, 0), (3, .ifCond .eq 51, 3, 54, 0), (6, .iconst 0, 1, 0, 0), (7, .istore_n 1, 1, 0, 0), (8, .iconst 0, 1, 0, 0), (9, .istore_n 2, 1, 0, 0), 
  (10, .iload_n 2, 1, 0, 0), (11, .aload_n 0, 1, 0, 0), (12, .getfield 217, 3, 9, 9), (15, .if_icmp .ge 36, 3, 51, 0), (18, .aload_n 0, 1, 0, 0), (19, .getfield 83, 3, 9, 34), (22, .iload_n 2, 1, 0, 0), (23, .baload, 1, 0, 0), 
  (24, .ifCond .eq 11, 3, 35, 0), (27, .aload_n 0, 1, 0, 0), (28, .iload_n 2, 1, 0, 0), (29, .invokevirtual 226, 3, 158, 1), (32, .ifCond .ne 7, 3, 39, 0), (35, .iload_n 1, 1, 0, 0), (36, .ifCond .eq 7, 3, 43, 0), (39, .iconst 1, 1, 0, 0), 
  (40, .goto 4, 3, 44, 0), (43, .iconst 0, 1, 0, 0), (44, .istore_n 1, 1, 0, 0), (45, .iinc 2 1, 3, 0, 0), (48, .goto (-38), 3, 10, 0), (51, .goto (-49), 3, 2, 0), (54, .return_, 1, 0, 0)]
abbrev hX9_goOnAll : xHd := (yX9_goOnAll, cX9_goOnAll, 3, none)
theorem kX9_goOnAll : xck hX9_goOnAll rX9_goOnAll = true := by decide +kernel
def rX9_hearWord : List xRow := [(0, .iconst 0, 1, 0, 0), (1, .istore_n 2, 1, 0, 0), (2, .iload_n 2, 1, 0, 0), (3, .sipush 203, 3, 0, 0), (6, .if_icmp .ge 71, 3, 77, 0), (9, .aload_n 0, 1, 0, 0), (10, .getfield 86, 3, 9, 35), (13, .iload_n 2, 1, 0, 0), 
  (14, .iload_n 2, 1, 0, 0), (15, .ifCond .le 54, 3, 69, 0), (18, .iload_n 2, 1, 0, 0), (19, .aload_n 0, 1, 0, 0), (20, .getfield 217, 3, 9, 9), (23, .if_icmp .gt 46, 3, 69, 0), (26, .aload_n 0, 1, 0, 0), (27, .getfield 83, 3, 9, 34), 
  (30, .iload_n 2, 1, 0, 0), (31, .iconst 1, 1, 0, 0), (32, .isub, 1, 0, 0), (33, .baload, 1, 0, 0), (34, .ifCond .eq 35, 3, 69, 0), (37, .aload_n 0, 1, 0, 0), (38, .getfield 29, 3, 9, 10), (41, .iload_n 2, 1, 0, 0), 
  (42, .iconst 1, 1, 0, 0), (43, .isub, 1, 0, 0), (44, .iaload, 1, 0, 0), (45, .bipush 46, 2, 0, 0), (47, .if_icmp .eq 18, 3, 65, 0), (50, .aload_n 0, 1, 0, 0), (51, .getfield 29, 3, 9, 10), (54, .iload_n 2, 1, 0, 0), 
  (55, .iconst 1, 1, 0, 0), (56, .isub, 1, 0, 0), (57, .iaload, 1, 0, 0), (58, .bipush 97, 2, 0, 0), (60, .iload_n 1, 1, 0, 0), (61, .iadd, 1, 0, 0), (62, .if_icmp .ne 7, 3, 69, 0), (65, .iconst 1, 1, 0, 0), 
  (66, .goto 4, 3, 70, 0), (69, .iconst 0, 1, 0, 0), (70, .bastore, 1, 0, 0), (71, .iinc 2 1, 3, 0, 0), (74, .goto (-72), 3, 2, 0), (77, .iconst 0, 1, 0, 0), (78, .istore_n 2, 1, 0, 0), (79, .iload_n 2, 1, 0, 0), 
  (80, .sipush 203, 3, 0, 0), (83, .if_icmp .ge 21, 3, 104, 0), (86, .aload_n 0, 1, 0, 0), (87, .getfield 83, 3, 9, 34), (90, .iload_n 2, 1, 0, 0), (91, .aload_n 0, 1, 0, 0), (92, .getfield 86, 3, 9, 35), (95, .iload_n 2, 1, 0, 0), 
  (96, .baload, 1, 0, 0), (97, .bastore, 1, 0, 0), (98, .iinc 2 1, 3, 0, 0), (101, .goto (-22), 3, 79, 0), (104, .aload_n 0, 1, 0, 0), (105, .invokevirtual 229, 3, 159, 0), (108, .return_, 1, 0, 0)]
abbrev hX9_hearWord : xHd := (yX9_hearWord, cX9_hearWord, 3, none)
theorem kX9_hearWord : xck hX9_hearWord rX9_hearWord = true := by decide +kernel
def rX9_hears : List xRow := [(0, .iload_n 0, 1, 0, 0), (1, .iconst 3, 1, 0, 0), (2, .if_icmp .ne 7, 3, 9, 0), (5, .iconst 0, 1, 0, 0), (6, .goto 13, 3, 19, 0), (9, .iload_n 0, 1, 0, 0), (10, .iconst 4, 1, 0, 0), (11, .if_icmp .ne 7, 3, 18, 0), 
  (14, .iconst 2, 1, 0, 0), (15, .goto 4, 3, 19, 0), (18, .iconst 1, 1, 0, 0), (19, .ireturn, 1, 0, 0)]
abbrev hX9_hears : xHd := (yX9_hears, cX9_hears, 1, some .int)
theorem kX9_hears : xck hX9_hears rX9_hears = true := by decide +kernel
def rX9_gets : List xRow := [(0, .iload_n 0, 1, 0, 0), (1, .iconst 3, 1, 0, 0), (2, .if_icmp .eq 8, 3, 10, 0), (5, .iload_n 0, 1, 0, 0), (6, .iconst 4, 1, 0, 0), (7, .if_icmp .ne 7, 3, 14, 0), (10, .iconst 0, 1, 0, 0), (11, .goto 13, 3, 24, 0), 
  (14, .iload_n 0, 1, 0, 0), (15, .iconst 1, 1, 0, 0), (16, .if_icmp .ne 7, 3, 23, 0), (19, .iconst 5, 1, 0, 0), (20, .goto 4, 3, 24, 0), (23, .iconst 3, 1, 0, 0), (24, .ireturn, 1, 0, 0)]
abbrev hX9_gets : xHd := (yX9_gets, cX9_gets, 1, some .int)
theorem kX9_gets : xck hX9_gets rX9_gets = true := by decide +kernel
def rX9_says : List xRow := [(0, .iload_n 0, 1, 0, 0), (1, .iconst 3, 1, 0, 0), (2, .if_icmp .eq 8, 3, 10, 0), (5, .iload_n 0, 1, 0, 0), (6, .iconst 4, 1, 0, 0), (7, .if_icmp .ne 7, 3, 14, 0), (10, .iconst 0, 1, 0, 0), (11, .goto 13, 3, 24, 0), 
  (14, .iload_n 0, 1, 0, 0), (15, .iconst 2, 1, 0, 0), (16, .if_icmp .ne 7, 3, 23, 0), (19, .iconst 2, 1, 0, 0), (20, .goto 4, 3, 24, 0), (23, .iconst 1, 1, 0, 0), (24, .ireturn, 1, 0, 0)]
abbrev hX9_says : xHd := (yX9_says, cX9_says, 1, some .int)
theorem kX9_says : xck hX9_says rX9_says = true := by decide +kernel
def rX9_loses : List xRow := [(0, .iload_n 0, 1, 0, 0), (1, .ifCond .eq 8, 3, 9, 0), (4, .iload_n 0, 1, 0, 0), (5, .iconst 2, 1, 0, 0), (6, .if_icmp .ne 7, 3, 13, 0), (9, .iconst 1, 1, 0, 0), (10, .goto 4, 3, 14, 0), (13, .iconst 0, 1, 0, 0), 
  (14, .ireturn, 1, 0, 0)]
abbrev hX9_loses : xHd := (yX9_loses, cX9_loses, 1, some .int)
theorem kX9_loses : xck hX9_loses rX9_loses = true := by decide +kernel
def rX9_isBird : List xRow := [(0, .iload_n 1, 1, 0, 0), (1, .i2l, 1, 0, 0), (2, .lconst 0, 1, 0, 0), (3, .aload_n 0, 1, 0, 0), (4, .getfield 7, 3, 9, 0), (7, .iconst 0, 1, 0, 0), (8, .iaload, 1, 0, 0), (9, .iconst 1, 1, 0, 0), 
  (10, .isub, 1, 0, 0), (11, .i2l, 1, 0, 0), (12, .invokestatic 109, 3, 130, 3), (15, .ireturn, 1, 0, 0)]
abbrev hX9_isBird : xHd := (yX9_isBird, cX9_isBird, 2, some .boolean)
theorem kX9_isBird : xck hX9_isBird rX9_isBird = true := by decide +kernel
def rX9_isMan : List xRow := [(0, .iload_n 1, 1, 0, 0), (1, .i2l, 1, 0, 0), (2, .lconst 0, 1, 0, 0), (3, .aload_n 0, 1, 0, 0), (4, .getfield 7, 3, 9, 0), (7, .iconst 1, 1, 0, 0), (8, .iaload, 1, 0, 0), (9, .iconst 1, 1, 0, 0), 
  (10, .isub, 1, 0, 0), (11, .i2l, 1, 0, 0), (12, .invokestatic 109, 3, 130, 3), (15, .ireturn, 1, 0, 0)]
abbrev hX9_isMan : xHd := (yX9_isMan, cX9_isMan, 2, some .boolean)
theorem kX9_isMan : xck hX9_isMan rX9_isMan = true := by decide +kernel
def rX9_isWordNumber : List xRow := [(0, .iload_n 0, 1, 0, 0), (1, .i2l, 1, 0, 0), (2, .lconst 0, 1, 0, 0), (3, .ldc2_w 232, 3, 9, 0), (6, .invokestatic 109, 3, 130, 3), (9, .ireturn, 1, 0, 0)]
abbrev hX9_isWordNumber : xHd := (yX9_isWordNumber, cX9_isWordNumber, 1, some .boolean)
theorem kX9_isWordNumber : xck hX9_isWordNumber rX9_isWordNumber = true := by decide +kernel
def rX9_isOpen : List xRow := [(0, .aload_n 0, 1, 0, 0), (1, .getfield 7, 3, 9, 0), (4, .iload_n 1, 1, 0, 0), (5, .iconst 3, 1, 0, 0), (6, .iadd, 1, 0, 0), (7, .iaload, 1, 0, 0), (8, .iload_n 2, 1, 0, 0), (9, .invokestatic 165, 3, 131, 2), 
  (12, .ifCond .ne 7, 3, 19, 0), (15, .iconst 1, 1, 0, 0), (16, .goto 4, 3, 20, 0), (19, .iconst 0, 1, 0, 0), (20, .ireturn, 1, 0, 0)]
abbrev hX9_isOpen : xHd := (yX9_isOpen, cX9_isOpen, 3, some .boolean)
theorem kX9_isOpen : xck hX9_isOpen rX9_isOpen = true := by decide +kernel
def rX9_learns : List xRow := [(0, .iload_n 1, 1, 0, 0), (1, .bipush 20, 2, 0, 0), (3, .iadd, 1, 0, 0), (4, .bipush 10, 2, 0, 0), (6, .iload_n 2, 1, 0, 0), (7, .imul, 1, 0, 0), (8, .iadd, 1, 0, 0), (9, .iload_n 3, 1, 0, 0), 
  (10, .iadd, 1, 0, 0), (11, .istore 5, 2, 0, 0), (13, .aload_n 0, 1, 0, 0), (14, .getfield 7, 3, 9, 0), (17, .iload 5, 2, 0, 0), (19, .aload_n 0, 1, 0, 0), (20, .getfield 7, 3, 9, 0), (23, .iload 5, 2, 0, 0), 
  (25, .iaload, 1, 0, 0), (26, .iload 4, 2, 0, 0), (28, .iadd, 1, 0, 0), (29, .bipush 9, 2, 0, 0), (31, .if_icmp .le 8, 3, 39, 0), (34, .bipush 9, 2, 0, 0), (36, .goto 13, 3, 49, 0), (39, .aload_n 0, 1, 0, 0), 
  (40, .getfield 7, 3, 9, 0), (43, .iload 5, 2, 0, 0), (45, .iaload, 1, 0, 0), (46, .iload 4, 2, 0, 0), (48, .iadd, 1, 0, 0), (49, .iastore, 1, 0, 0), (50, .return_, 1, 0, 0)]
abbrev hX9_learns : xHd := (yX9_learns, cX9_learns, 6, none)
theorem kX9_learns : xck hX9_learns rX9_learns = true := by decide +kernel
def rX9_manOf : List xRow := [(0, .iconst (-1), 1, 0, 0), (1, .istore_n 3, 1, 0, 0), (2, .iconst 0, 1, 0, 0), (3, .istore 4, 2, 0, 0), (5, .iload 4, 2, 0, 0), (7, .aload_n 0, 1, 0, 0), (8, .getfield 7, 3, 9, 0), (11, .iload_n 1, 1, 0, 0), 
  (12, .iconst 1, 1, 0, 0), (13, .iadd, 1, 0, 0), (14, .iaload, 1, 0, 0), (15, .if_icmp .ge 32, 3, 47, 0), (18, .aload_n 0, 1, 0, 0), (19, .getfield 7, 3, 9, 0), (22, .iload_n 1, 1, 0, 0), (23, .bipush 104, 2, 0, 0), 
  (25, .iadd, 1, 0, 0), (26, .iload 4, 2, 0, 0), (28, .iadd, 1, 0, 0), (29, .iaload, 1, 0, 0), (30, .iload_n 2, 1, 0, 0), (31, .if_icmp .ne 8, 3, 39, 0), (34, .iload 4, 2, 0, 0), (36, .goto 4, 3, 40, 0), 
  (39, .iload_n 3, 1, 0, 0), (40, .istore_n 3, 1, 0, 0), (41, .iinc 4 1, 3, 0, 0), (44, .goto (-39), 3, 5, 0), (47, .iload_n 3, 1, 0, 0), (48, .ireturn, 1, 0, 0)]
abbrev hX9_manOf : xHd := (yX9_manOf, cX9_manOf, 5, some .int)
theorem kX9_manOf : xck hX9_manOf rX9_manOf = true := by decide +kernel
def rX9_wellKnown : List xRow := [(0, .iconst 0, 1, 0, 0), (1, .istore_n 3, 1, 0, 0), (2, .iconst 0, 1, 0, 0), (3, .istore 4, 2, 0, 0), (5, .iload 4, 2, 0, 0), (7, .bipush 10, 2, 0, 0), (9, .if_icmp .ge 41, 3, 50, 0), (12, .iload_n 3, 1, 0, 0), 
  (13, .aload_n 0, 1, 0, 0), (14, .getfield 7, 3, 9, 0), (17, .iload_n 1, 1, 0, 0), (18, .bipush 20, 2, 0, 0), (20, .iadd, 1, 0, 0), (21, .bipush 10, 2, 0, 0), (23, .iload_n 2, 1, 0, 0), (24, .imul, 1, 0, 0), 
  (25, .iadd, 1, 0, 0), (26, .iload 4, 2, 0, 0), (28, .iadd, 1, 0, 0), (29, .iaload, 1, 0, 0), (30, .iconst 4, 1, 0, 0), (31, .if_icmp .le 10, 3, 41, 0), (34, .iconst 1, 1, 0, 0), (35, .iload 4, 2, 0, 0), 
  (37, .ishl, 1, 0, 0), (38, .goto 4, 3, 42, 0), (41, .iconst 0, 1, 0, 0), (42, .ior, 1, 0, 0), (43, .istore_n 3, 1, 0, 0), (44, .iinc 4 1, 3, 0, 0), (47, .goto (-42), 3, 5, 0), (50, .iload_n 3, 1, 0, 0), 
  (51, .ireturn, 1, 0, 0)]
abbrev hX9_wellKnown : xHd := (yX9_wellKnown, cX9_wellKnown, 5, some .int)
theorem kX9_wellKnown : xck hX9_wellKnown rX9_wellKnown = true := by decide +kernel
def rX9_bird : List xRow := [(0, .aload_n 0, 1, 0, 0), (1, .iload_n 1, 1, 0, 0), (2, .invokevirtual 234, 3, 165, 1), (5, .ifCond .ne 6, 3, 11, 0), (8, .bipush (-2), 2, 0, 0), (10, .ireturn, 1, 0, 0), (11, .iload_n 2, 1, 0, 0), (12, .tableswitch 80 0 4 #[36, 45, 55, 66, 73], 36, 0, 0), 
  (48, .aload_n 0, 1, 0, 0), (49, .getfield 7, 3, 9, 0), (52, .iconst 4, 1, 0, 0), (53, .iload_n 1, 1, 0, 0), (54, .iadd, 1, 0, 0), (55, .iaload, 1, 0, 0), (56, .ireturn, 1, 0, 0), (57, .aload_n 0, 1, 0, 0), 
  (58, .getfield 7, 3, 9, 0), (61, .bipush 12, 2, 0, 0), (63, .iload_n 1, 1, 0, 0), (64, .iadd, 1, 0, 0), (65, .iaload, 1, 0, 0), (66, .ireturn, 1, 0, 0), (67, .aload_n 0, 1, 0, 0), (68, .getfield 7, 3, 9, 0), 
  (71, .iconst 3, 1, 0, 0), (72, .iaload, 1, 0, 0), (73, .iload_n 1, 1, 0, 0), (74, .ishr, 1, 0, 0), (75, .iconst 1, 1, 0, 0), (76, .iand, 1, 0, 0), (77, .ireturn, 1, 0, 0), (78, .aload_n 0, 1, 0, 0), 
  (79, .iconst 0, 1, 0, 0), (80, .iload_n 1, 1, 0, 0), (81, .invokevirtual 237, 3, 170, 2), (84, .ireturn, 1, 0, 0), (85, .aload_n 0, 1, 0, 0), (86, .iconst 0, 1, 0, 0), (87, .iload_n 1, 1, 0, 0), (88, .invokevirtual 241, 3, 171, 2), 
  (91, .ireturn, 1, 0, 0), (92, .bipush (-3), 2, 0, 0), (94, .ireturn, 1, 0, 0)]
abbrev hX9_bird : xHd := (yX9_bird, cX9_bird, 3, some .int)
theorem kX9_bird : xck hX9_bird rX9_bird = true := by decide +kernel
def rX9_man : List xRow := [(0, .aload_n 0, 1, 0, 0), (1, .iload_n 1, 1, 0, 0), (2, .invokevirtual 244, 3, 166, 1), (5, .ifCond .ne 6, 3, 11, 0), (8, .bipush (-2), 2, 0, 0), (10, .ireturn, 1, 0, 0), (11, .iload_n 2, 1, 0, 0), (12, .ifCond .ne 15, 3, 27, 0), 
  (15, .aload_n 0, 1, 0, 0), (16, .getfield 7, 3, 9, 0), (19, .bipush 100, 2, 0, 0), (21, .iload_n 1, 1, 0, 0), (22, .iadd, 1, 0, 0), (23, .iaload, 1, 0, 0), (24, .goto 22, 3, 46, 0), (27, .iload_n 2, 1, 0, 0), 
  (28, .iconst 1, 1, 0, 0), (29, .if_icmp .ne 15, 3, 44, 0), (32, .aload_n 0, 1, 0, 0), (33, .getfield 7, 3, 9, 0), (36, .bipush 104, 2, 0, 0), (38, .iload_n 1, 1, 0, 0), (39, .iadd, 1, 0, 0), (40, .iaload, 1, 0, 0), 
  (41, .goto 5, 3, 46, 0), (44, .bipush (-3), 2, 0, 0), (46, .ireturn, 1, 0, 0)]
abbrev hX9_man : xHd := (yX9_man, cX9_man, 3, some .int)
theorem kX9_man : xck hX9_man rX9_man = true := by decide +kernel
def rX9_as : List xRow := [(0, .aload_n 0, 1, 0, 0), (1, .iload_n 1, 1, 0, 0), (2, .invokevirtual 234, 3, 165, 1), (5, .ifCond .ne 6, 3, 11, 0), (8, .bipush (-2), 2, 0, 0), (10, .ireturn, 1, 0, 0), (11, .iload_n 2, 1, 0, 0), (12, .i2l, 1, 0, 0), 
  (13, .lconst 0, 1, 0, 0), (14, .ldc2_w 247, 3, 5, 0), (17, .invokestatic 109, 3, 130, 3), (20, .ifCond .ne 6, 3, 26, 0), (23, .bipush (-3), 2, 0, 0), (25, .ireturn, 1, 0, 0), (26, .aload_n 0, 1, 0, 0), (27, .getfield 7, 3, 9, 0), 
  (30, .iconst 4, 1, 0, 0), (31, .iload_n 1, 1, 0, 0), (32, .iadd, 1, 0, 0), (33, .iaload, 1, 0, 0), (34, .istore_n 3, 1, 0, 0), (35, .iload_n 2, 1, 0, 0), (36, .ifCond .eq 30, 3, 66, 0), (39, .iload_n 2, 1, 0, 0), 
  (40, .iload_n 3, 1, 0, 0), (41, .iconst 1, 1, 0, 0), (42, .iadd, 1, 0, 0), (43, .if_icmp .eq 23, 3, 66, 0), (46, .iload_n 2, 1, 0, 0), (47, .iconst 1, 1, 0, 0), (48, .if_icmp .ne 8, 3, 56, 0), (51, .iload_n 3, 1, 0, 0), 
  (52, .iconst 3, 1, 0, 0), (53, .if_icmp .lt 13, 3, 66, 0), (56, .iload_n 2, 1, 0, 0), (57, .iconst 4, 1, 0, 0), (58, .if_icmp .ne 12, 3, 70, 0), (61, .iload_n 3, 1, 0, 0), (62, .iconst 4, 1, 0, 0), (63, .if_icmp .ne 7, 3, 70, 0), 
  (66, .iconst 1, 1, 0, 0), (67, .goto 4, 3, 71, 0), (70, .iconst 0, 1, 0, 0), (71, .istore 4, 2, 0, 0), (73, .iload 4, 2, 0, 0), (75, .ifCond .eq 10, 3, 85, 0), (78, .iload_n 3, 1, 0, 0), (79, .invokestatic 249, 3, 162, 1), 
  (82, .goto 5, 3, 87, 0), (85, .bipush (-4), 2, 0, 0), (87, .ireturn, 1, 0, 0)]
abbrev hX9_as : xHd := (yX9_as, cX9_as, 5, some .int)
theorem kX9_as : xck hX9_as rX9_as = true := by decide +kernel
def rX9_handOver : List xRow := [(0, .iconst 0, 1, 0, 0), (1, .istore_n 2, 1, 0, 0), (2, .iload_n 2, 1, 0, 0), (3, .aload_n 0, 1, 0, 0), (4, .getfield 7, 3, 9, 0), (7, .iload_n 1, 1, 0, 0), (8, .iconst 1, 1, 0, 0), (9, .iadd, 1, 0, 0), 
  (10, .iaload, 1, 0, 0), (11, .if_icmp .ge 131, 3, 142, 0), (14, .aload_n 0, 1, 0, 0), (15, .getfield 7, 3, 9, 0), (18, .iload_n 1, 1, 0, 0), (19, .bipush 104, 2, 0, 0), (21, .iadd, 1, 0, 0), (22, .iload_n 2, 1, 0, 0), 
  (23, .iadd, 1, 0, 0), (24, .iaload, 1, 0, 0), (25, .istore_n 3, 1, 0, 0), (26, .iload_n 3, 1, 0, 0), (27, .iconst (-1), 1, 0, 0), (28, .if_icmp .eq 12, 3, 40, 0), (31, .aload_n 0, 1, 0, 0), (32, .iload_n 1, 1, 0, 0), 
  (33, .iload_n 3, 1, 0, 0), (34, .invokevirtual 252, 3, 168, 2), (37, .ifCond .ne 7, 3, 44, 0), (40, .iconst 0, 1, 0, 0), (41, .goto 16, 3, 57, 0), (44, .aload_n 0, 1, 0, 0), (45, .getfield 7, 3, 9, 0), (48, .iload_n 1, 1, 0, 0), 
  (49, .iconst 4, 1, 0, 0), (50, .iadd, 1, 0, 0), (51, .iload_n 3, 1, 0, 0), (52, .iadd, 1, 0, 0), (53, .iaload, 1, 0, 0), (54, .invokestatic 249, 3, 162, 1), (57, .istore 4, 2, 0, 0), (59, .iload 4, 2, 0, 0), 
  (61, .ifCond .le 75, 3, 136, 0), (64, .aload_n 0, 1, 0, 0), (65, .getfield 7, 3, 9, 0), (68, .iload_n 1, 1, 0, 0), (69, .bipush 100, 2, 0, 0), (71, .iadd, 1, 0, 0), (72, .iload_n 2, 1, 0, 0), (73, .iadd, 1, 0, 0), 
  (74, .iaload, 1, 0, 0), (75, .ifCond .eq 61, 3, 136, 0), (78, .iconst 0, 1, 0, 0), (79, .istore 5, 2, 0, 0), (81, .aload_n 0, 1, 0, 0), (82, .getfield 7, 3, 9, 0), (85, .iload_n 1, 1, 0, 0), (86, .bipush 100, 2, 0, 0), 
  (88, .iadd, 1, 0, 0), (89, .iload_n 2, 1, 0, 0), (90, .iadd, 1, 0, 0), (91, .iaload, 1, 0, 0), (92, .iload 5, 2, 0, 0), (94, .invokestatic 165, 3, 131, 2), (97, .ifCond .ne 9, 3, 106, 0), (100, .iinc 5 1, 3, 0, 0), 
  (103, .goto (-22), 3, 81, 0), (106, .aload_n 0, 1, 0, 0), (107, .getfield 7, 3, 9, 0), (110, .iload_n 1, 1, 0, 0), (111, .bipush 100, 2, 0, 0), (113, .iadd, 1, 0, 0), (114, .iload_n 2, 1, 0, 0), (115, .iadd, 1, 0, 0), 
  (116, .dup2, 1, 0, 0), (117, .iaload, 1, 0, 0), (118, .iconst 1, 1, 0, 0), (119, .iload 5, 2, 0, 0), (121, .ishl, 1, 0, 0), (122, .iconst (-1), 1, 0, 0), (123, .ixor, 1, 0, 0), (124, .iand, 1, 0, 0), 
  (125, .iastore, 1, 0, 0), (126, .aload_n 0, 1, 0, 0), (127, .iload_n 1, 1, 0, 0), (128, .iload_n 3, 1, 0, 0), (129, .iload 5, 2, 0, 0), (131, .iload 4, 2, 0, 0), (133, .invokevirtual 255, 3, 169, 4), (136, .iinc 2 1, 3, 0, 0), 
  (139, .goto (-137), 3, 2, 0), (142, .return_, 1, 0, 0)]
abbrev hX9_handOver : xHd := (yX9_handOver, cX9_handOver, 6, none)
theorem kX9_handOver : xck hX9_handOver rX9_handOver = true := by decide +kernel
def rX9_isSilent : List xRow := [(0, .iconst 0, 1, 0, 0), (1, .istore_n 3, 1, 0, 0), (2, .iconst 0, 1, 0, 0), (3, .istore 4, 2, 0, 0), (5, .iload 4, 2, 0, 0), (7, .aload_n 0, 1, 0, 0), (8, .getfield 7, 3, 9, 0), (11, .iload_n 1, 1, 0, 0), 
  (12, .iconst 0, 1, 0, 0), (13, .iadd, 1, 0, 0), (14, .iaload, 1, 0, 0), (15, .if_icmp .ge 60, 3, 75, 0), (18, .iload_n 3, 1, 0, 0), (19, .ifCond .ne 44, 3, 63, 0), (22, .aload_n 0, 1, 0, 0), (23, .getfield 7, 3, 9, 0), 
  (26, .iload_n 1, 1, 0, 0), (27, .bipush 12, 2, 0, 0), (29, .iadd, 1, 0, 0), (30, .iload 4, 2, 0, 0), (32, .iadd, 1, 0, 0), (33, .iaload, 1, 0, 0), (34, .iload_n 2, 1, 0, 0), (35, .if_icmp .ne 32, 3, 67, 0), 
  (38, .aload_n 0, 1, 0, 0), (39, .getfield 7, 3, 9, 0), (42, .iload_n 1, 1, 0, 0), (43, .iconst 4, 1, 0, 0), (44, .iadd, 1, 0, 0), (45, .iload 4, 2, 0, 0), (47, .iadd, 1, 0, 0), (48, .iaload, 1, 0, 0), 
  (49, .iconst 3, 1, 0, 0), (50, .if_icmp .ne 17, 3, 67, 0), (53, .aload_n 0, 1, 0, 0), (54, .iload_n 1, 1, 0, 0), (55, .iload 4, 2, 0, 0), (57, .invokevirtual 252, 3, 168, 2), (60, .ifCond .eq 7, 3, 67, 0), (63, .iconst 1, 1, 0, 0), 
  (64, .goto 4, 3, 68, 0), (67, .iconst 0, 1, 0, 0), (68, .istore_n 3, 1, 0, 0), (69, .iinc 4 1, 3, 0, 0), (72, .goto (-67), 3, 5, 0), (75, .iload_n 3, 1, 0, 0), (76, .ireturn, 1, 0, 0)]
abbrev hX9_isSilent : xHd := (yX9_isSilent, cX9_isSilent, 5, some .boolean)
theorem kX9_isSilent : xck hX9_isSilent rX9_isSilent = true := by decide +kernel
def rX9_bestWord : List xRow := [(0, .iconst (-1), 1, 0, 0), (1, .istore 4, 2, 0, 0), (3, .iconst 0, 1, 0, 0), (4, .istore 5, 2, 0, 0), (6, .iconst 0, 1, 0, 0), (7, .istore 6, 2, 0, 0), (9, .iload 6, 2, 0, 0), (11, .bipush 10, 2, 0, 0), 
  (13, .if_icmp .ge 73, 3, 86, 0), (16, .iload_n 3, 1, 0, 0), (17, .iload 6, 2, 0, 0), (19, .invokestatic 165, 3, 131, 2), (22, .ifCond .eq 7, 3, 29, 0), (25, .iconst 0, 1, 0, 0), (26, .goto 20, 3, 46, 0), (29, .aload_n 0, 1, 0, 0), 
  (30, .getfield 7, 3, 9, 0), (33, .iload_n 1, 1, 0, 0), (34, .bipush 20, 2, 0, 0), (36, .iadd, 1, 0, 0), (37, .bipush 10, 2, 0, 0), (39, .iload_n 2, 1, 0, 0), (40, .imul, 1, 0, 0), (41, .iadd, 1, 0, 0), 
  (42, .iload 6, 2, 0, 0), (44, .iadd, 1, 0, 0), (45, .iaload, 1, 0, 0), (46, .istore 7, 2, 0, 0), (48, .iload 7, 2, 0, 0), (50, .iload 5, 2, 0, 0), (52, .if_icmp .le 8, 3, 60, 0), (55, .iload 6, 2, 0, 0), 
  (57, .goto 5, 3, 62, 0), (60, .iload 4, 2, 0, 0), (62, .istore 4, 2, 0, 0), (64, .iload 7, 2, 0, 0), (66, .iload 5, 2, 0, 0), (68, .if_icmp .le 8, 3, 76, 0), (71, .iload 7, 2, 0, 0), (73, .goto 5, 3, 78, 0), 
  (76, .iload 5, 2, 0, 0), (78, .istore 5, 2, 0, 0), (80, .iinc 6 1, 3, 0, 0), (83, .goto (-74), 3, 9, 0), (86, .iload 4, 2, 0, 0), (88, .ireturn, 1, 0, 0)]
abbrev hX9_bestWord : xHd := (yX9_bestWord, cX9_bestWord, 8, some .int)
theorem kX9_bestWord : xck hX9_bestWord rX9_bestWord = true := by decide +kernel
def rX9_say : List xRow := [(0, .aload_n 0, 1, 0, 0), (1, .getfield 89, 3, 9, 36), (4, .bipush 16, 2, 0, 0), (6, .iload_n 2, 1, 0, 0), (7, .imul, 1, 0, 0), (8, .aload_n 0, 1, 0, 0), (9, .getfield 92, 3, 9, 37), (12, .iload_n 2, 1, 0, 0), 
  (13, .iaload, 1, 0, 0), (14, .iadd, 1, 0, 0), (15, .iload 4, 2, 0, 0), (17, .iastore, 1, 0, 0), (18, .aload_n 0, 1, 0, 0), (19, .getfield 92, 3, 9, 37), (22, .iload_n 2, 1, 0, 0), (23, .dup2, 1, 0, 0), 
  (24, .iaload, 1, 0, 0), (25, .iconst 1, 1, 0, 0), (26, .iadd, 1, 0, 0), (27, .iastore, 1, 0, 0), (28, .iconst 0, 1, 0, 0), (29, .istore 5, 2, 0, 0), (31, .iload 5, 2, 0, 0), (33, .aload_n 0, 1, 0, 0), 
  (34, .getfield 7, 3, 9, 0), (37, .iload_n 1, 1, 0, 0), (38, .iconst 0, 1, 0, 0), (39, .iadd, 1, 0, 0), (40, .iaload, 1, 0, 0), (41, .if_icmp .ge 64, 3, 105, 0), (44, .iload 5, 2, 0, 0), (46, .iload_n 3, 1, 0, 0), 
  (47, .if_icmp .eq 52, 3, 99, 0), (50, .aload_n 0, 1, 0, 0), (51, .getfield 7, 3, 9, 0), (54, .iload_n 1, 1, 0, 0), (55, .bipush 12, 2, 0, 0), (57, .iadd, 1, 0, 0), (58, .iload 5, 2, 0, 0), (60, .iadd, 1, 0, 0), 
  (61, .iaload, 1, 0, 0), (62, .iload_n 2, 1, 0, 0), (63, .if_icmp .ne 36, 3, 99, 0), (66, .aload_n 0, 1, 0, 0), (67, .iload_n 1, 1, 0, 0), (68, .iload 5, 2, 0, 0), (70, .invokevirtual 252, 3, 168, 2), (73, .ifCond .eq 26, 3, 99, 0), 
  (76, .aload_n 0, 1, 0, 0), (77, .iload_n 1, 1, 0, 0), (78, .iload 5, 2, 0, 0), (80, .iload 4, 2, 0, 0), (82, .aload_n 0, 1, 0, 0), (83, .getfield 7, 3, 9, 0), (86, .iload_n 1, 1, 0, 0), (87, .iconst 4, 1, 0, 0), 
  (88, .iadd, 1, 0, 0), (89, .iload 5, 2, 0, 0), (91, .iadd, 1, 0, 0), (92, .iaload, 1, 0, 0), (93, .invokestatic 259, 3, 161, 1), (96, .invokevirtual 255, 3, 169, 4), (99, .iinc 5 1, 3, 0, 0), (102, .goto (-71), 3, 31, 0), 
  (105, .return_, 1, 0, 0)]
abbrev hX9_say : xHd := (yX9_say, cX9_say, 6, none)
theorem kX9_say : xck hX9_say rX9_say = true := by decide +kernel
def rX9_speak : List xRow := [(0, .iconst 0, 1, 0, 0), (1, .istore_n 3, 1, 0, 0), (2, .iload_n 3, 1, 0, 0), (3, .aload_n 0, 1, 0, 0), (4, .getfield 7, 3, 9, 0), (7, .iload_n 1, 1, 0, 0), (8, .iconst 0, 1, 0, 0), (9, .iadd, 1, 0, 0), 
  (10, .iaload, 1, 0, 0), (11, .if_icmp .ge 106, 3, 117, 0), (14, .aload_n 0, 1, 0, 0), (15, .getfield 7, 3, 9, 0), (18, .iload_n 1, 1, 0, 0), (19, .bipush 12, 2, 0, 0), (21, .iadd, 1, 0, 0), (22, .iload_n 3, 1, 0, 0), 
  (23, .iadd, 1, 0, 0), (24, .iaload, 1, 0, 0), (25, .iload_n 2, 1, 0, 0), (26, .if_icmp .ne 85, 3, 111, 0), (29, .aload_n 0, 1, 0, 0), (30, .iload_n 1, 1, 0, 0), (31, .iload_n 3, 1, 0, 0), (32, .invokevirtual 252, 3, 168, 2), 
  (35, .ifCond .eq 76, 3, 111, 0), (38, .iconst 0, 1, 0, 0), (39, .istore 4, 2, 0, 0), (41, .aload_n 0, 1, 0, 0), (42, .iload_n 1, 1, 0, 0), (43, .iload_n 3, 1, 0, 0), (44, .iconst 0, 1, 0, 0), (45, .invokevirtual 262, 3, 177, 3), 
  (48, .istore 5, 2, 0, 0), (50, .iconst 0, 1, 0, 0), (51, .istore 6, 2, 0, 0), (53, .iload 6, 2, 0, 0), (55, .aload_n 0, 1, 0, 0), (56, .getfield 7, 3, 9, 0), (59, .iload_n 1, 1, 0, 0), (60, .iconst 4, 1, 0, 0), 
  (61, .iadd, 1, 0, 0), (62, .iload_n 3, 1, 0, 0), (63, .iadd, 1, 0, 0), (64, .iaload, 1, 0, 0), (65, .invokestatic 266, 3, 163, 1), (68, .if_icmp .ge 43, 3, 111, 0), (71, .iload 5, 2, 0, 0), (73, .iconst (-1), 1, 0, 0), 
  (74, .if_icmp .eq 37, 3, 111, 0), (77, .aload_n 0, 1, 0, 0), (78, .iload_n 1, 1, 0, 0), (79, .iload_n 2, 1, 0, 0), (80, .iload_n 3, 1, 0, 0), (81, .iload 5, 2, 0, 0), (83, .invokevirtual 269, 3, 178, 4), (86, .iload 4, 2, 0, 0), 
  (88, .iconst 1, 1, 0, 0), (89, .iload 5, 2, 0, 0), (91, .ishl, 1, 0, 0), (92, .ior, 1, 0, 0), (93, .istore 4, 2, 0, 0), (95, .aload_n 0, 1, 0, 0), (96, .iload_n 1, 1, 0, 0), (97, .iload_n 3, 1, 0, 0), 
  (98, .iload 4, 2, 0, 0), (100, .invokevirtual 262, 3, 177, 3), (103, .istore 5, 2, 0, 0), (105, .iinc 6 1, 3, 0, 0), (108, .goto (-55), 3, 53, 0), (111, .iinc 3 1, 3, 0, 0), (114, .goto (-112), 3, 2, 0), (117, .return_, 1, 0, 0)]
abbrev hX9_speak : xHd := (yX9_speak, cX9_speak, 7, none)
theorem kX9_speak : xck hX9_speak rX9_speak = true := by decide +kernel
def rX9_lose : List xRow := [(0, .iconst 0, 1, 0, 0), (1, .istore_n 2, 1, 0, 0), (2, .iload_n 2, 1, 0, 0), (3, .bipush 10, 2, 0, 0), (5, .aload_n 0, 1, 0, 0), (6, .getfield 7, 3, 9, 0), (9, .iload_n 1, 1, 0, 0), (10, .iconst 0, 1, 0, 0), 
  (11, .iadd, 1, 0, 0), (12, .iaload, 1, 0, 0), (13, .imul, 1, 0, 0), (14, .if_icmp .ge 72, 3, 86, 0), (17, .iload_n 2, 1, 0, 0), (18, .bipush 10, 2, 0, 0), (20, .idiv, 1, 0, 0), (21, .istore_n 3, 1, 0, 0), 
  (22, .iload_n 1, 1, 0, 0), (23, .bipush 20, 2, 0, 0), (25, .iadd, 1, 0, 0), (26, .iload_n 2, 1, 0, 0), (27, .iadd, 1, 0, 0), (28, .istore 4, 2, 0, 0), (30, .aload_n 0, 1, 0, 0), (31, .iload_n 1, 1, 0, 0), 
  (32, .iload_n 3, 1, 0, 0), (33, .invokevirtual 252, 3, 168, 2), (36, .ifCond .eq 44, 3, 80, 0), (39, .aload_n 0, 1, 0, 0), (40, .getfield 7, 3, 9, 0), (43, .iload 4, 2, 0, 0), (45, .iaload, 1, 0, 0), (46, .i2l, 1, 0, 0), 
  (47, .lconst 1, 1, 0, 0), (48, .ldc2_w 272, 3, 4, 0), (51, .invokestatic 109, 3, 130, 3), (54, .ifCond .eq 26, 3, 80, 0), (57, .aload_n 0, 1, 0, 0), (58, .getfield 7, 3, 9, 0), (61, .iload 4, 2, 0, 0), (63, .dup2, 1, 0, 0), 
  (64, .iaload, 1, 0, 0), (65, .aload_n 0, 1, 0, 0), (66, .getfield 7, 3, 9, 0), (69, .iload_n 1, 1, 0, 0), (70, .iconst 4, 1, 0, 0), (71, .iadd, 1, 0, 0), (72, .iload_n 3, 1, 0, 0), (73, .iadd, 1, 0, 0), 
  (74, .iaload, 1, 0, 0), (75, .invokestatic 274, 3, 164, 1), (78, .isub, 1, 0, 0), (79, .iastore, 1, 0, 0), (80, .iinc 2 1, 3, 0, 0), (83, .goto (-81), 3, 2, 0), (86, .return_, 1, 0, 0)]
abbrev hX9_lose : xHd := (yX9_lose, cX9_lose, 5, none)
theorem kX9_lose : xck hX9_lose rX9_lose = true := by decide +kernel
def rX9_passes : List xRow := [(0, .aload_n 0, 1, 0, 0), (1, .iload_n 1, 1, 0, 0), (2, .invokevirtual 277, 3, 175, 1), (5, .iconst 0, 1, 0, 0), (6, .istore_n 2, 1, 0, 0), (7, .iload_n 2, 1, 0, 0), (8, .iconst 4, 1, 0, 0), (9, .if_icmp .ge 31, 3, 40, 0), 
  (12, .aload_n 0, 1, 0, 0), (13, .getfield 92, 3, 9, 37), (16, .iload_n 2, 1, 0, 0), (17, .iconst 0, 1, 0, 0), (18, .iastore, 1, 0, 0), (19, .aload_n 0, 1, 0, 0), (20, .iload_n 1, 1, 0, 0), (21, .iload_n 2, 1, 0, 0), 
  (22, .invokevirtual 281, 3, 176, 2), (25, .ifCond .ne 9, 3, 34, 0), (28, .aload_n 0, 1, 0, 0), (29, .iload_n 1, 1, 0, 0), (30, .iload_n 2, 1, 0, 0), (31, .invokevirtual 284, 3, 179, 2), (34, .iinc 2 1, 3, 0, 0), (37, .goto (-30), 3, 7, 0), 
  (40, .aload_n 0, 1, 0, 0), (41, .getfield 7, 3, 9, 0), (44, .iload_n 1, 1, 0, 0), (45, .iconst 2, 1, 0, 0), (46, .iadd, 1, 0, 0), (47, .iaload, 1, 0, 0), (48, .iconst 3, 1, 0, 0), (49, .irem, 1, 0, 0), 
  (50, .iconst 2, 1, 0, 0), (51, .if_icmp .ne 8, 3, 59, 0), (54, .aload_n 0, 1, 0, 0), (55, .iload_n 1, 1, 0, 0), (56, .invokevirtual 287, 3, 180, 1), (59, .aload_n 0, 1, 0, 0), (60, .getfield 7, 3, 9, 0), (63, .iload_n 1, 1, 0, 0), 
  (64, .iconst 2, 1, 0, 0), (65, .iadd, 1, 0, 0), (66, .dup2, 1, 0, 0), (67, .iaload, 1, 0, 0), (68, .iconst 1, 1, 0, 0), (69, .iadd, 1, 0, 0), (70, .iastore, 1, 0, 0), (71, .return_, 1, 0, 0)]
abbrev hX9_passes : xHd := (yX9_passes, cX9_passes, 3, none)
theorem kX9_passes : xck hX9_passes rX9_passes = true := by decide +kernel
def rX9_layTried : List xRow := [(0, .aload_n 0, 1, 0, 0), (1, .iconst 0, 1, 0, 0), (2, .sipush 1296, 3, 0, 0), (5, .invokevirtual 202, 3, 151, 2), (8, .return_, 1, 0, 0)]
abbrev hX9_layTried : xHd := (yX9_layTried, cX9_layTried, 1, none)
theorem kX9_layTried : xck hX9_layTried rX9_layTried = true := by decide +kernel
def rX9_passTried : List xRow := [(0, .iconst 0, 1, 0, 0), (1, .istore_n 2, 1, 0, 0), (2, .iload_n 2, 1, 0, 0), (3, .iload_n 1, 1, 0, 0), (4, .if_icmp .ge 16, 3, 20, 0), (7, .aload_n 0, 1, 0, 0), (8, .sipush 1296, 3, 0, 0), (11, .invokevirtual 290, 3, 181, 1), 
  (14, .iinc 2 1, 3, 0, 0), (17, .goto (-15), 3, 2, 0), (20, .return_, 1, 0, 0)]
abbrev hX9_passTried : xHd := (yX9_passTried, cX9_passTried, 3, none)
theorem kX9_passTried : xck hX9_passTried rX9_passTried = true := by decide +kernel
def rX9_known : List xRow := [(0, .aload_n 0, 1, 0, 0), (1, .iload_n 1, 1, 0, 0), (2, .invokevirtual 234, 3, 165, 1), (5, .ifCond .eq 10, 3, 15, 0), (8, .iload_n 2, 1, 0, 0), (9, .invokestatic 293, 3, 167, 1), (12, .ifCond .ne 6, 3, 18, 0), (15, .bipush (-2), 2, 0, 0), 
  (17, .ireturn, 1, 0, 0), (18, .iload_n 3, 1, 0, 0), (19, .i2l, 1, 0, 0), (20, .lconst 0, 1, 0, 0), (21, .ldc2_w 296, 3, 60, 0), (24, .invokestatic 109, 3, 130, 3), (27, .ifCond .ne 6, 3, 33, 0), (30, .bipush (-3), 2, 0, 0), 
  (32, .ireturn, 1, 0, 0), (33, .aload_n 0, 1, 0, 0), (34, .invokevirtual 298, 3, 182, 0), (37, .aload_n 0, 1, 0, 0), (38, .iload_n 3, 1, 0, 0), (39, .invokevirtual 301, 3, 183, 1), (42, .aload_n 0, 1, 0, 0), (43, .getfield 7, 3, 9, 0), 
  (46, .sipush 1316, 3, 0, 0), (49, .bipush 10, 2, 0, 0), (51, .iload_n 1, 1, 0, 0), (52, .imul, 1, 0, 0), (53, .iadd, 1, 0, 0), (54, .iload_n 2, 1, 0, 0), (55, .iadd, 1, 0, 0), (56, .iaload, 1, 0, 0), 
  (57, .ireturn, 1, 0, 0)]
abbrev hX9_known : xHd := (yX9_known, cX9_known, 4, some .int)
theorem kX9_known : xck hX9_known rX9_known = true := by decide +kernel
def rX9_keepPast : List xRow := [(0, .aload_n 0, 1, 0, 0), (1, .getfield 206, 3, 9, 1), (4, .bipush 8, 2, 0, 0), (6, .if_icmp .ne 48, 3, 54, 0), (9, .iconst 0, 1, 0, 0), (10, .istore_n 1, 1, 0, 0), (11, .iload_n 1, 1, 0, 0), (12, .sipush 756, 3, 0, 0), 
  (15, .if_icmp .ge 29, 3, 44, 0), (18, .aload_n 0, 1, 0, 0), (19, .getfield 7, 3, 9, 0), (22, .sipush 216, 3, 0, 0), (25, .iload_n 1, 1, 0, 0), (26, .iadd, 1, 0, 0), (27, .aload_n 0, 1, 0, 0), (28, .getfield 7, 3, 9, 0), 
  (31, .sipush 324, 3, 0, 0), (34, .iload_n 1, 1, 0, 0), (35, .iadd, 1, 0, 0), (36, .iaload, 1, 0, 0), (37, .iastore, 1, 0, 0), (38, .iinc 1 1, 3, 0, 0), (41, .goto (-30), 3, 11, 0), (44, .aload_n 0, 1, 0, 0), 
  (45, .dup, 1, 0, 0), (46, .getfield 206, 3, 9, 1), (49, .iconst 1, 1, 0, 0), (50, .isub, 1, 0, 0), (51, .putfield 206, 3, 9, 1), (54, .aload_n 0, 1, 0, 0), (55, .iconst 0, 1, 0, 0), (56, .sipush 216, 3, 0, 0), 
  (59, .bipush 108, 2, 0, 0), (61, .aload_n 0, 1, 0, 0), (62, .getfield 206, 3, 9, 1), (65, .imul, 1, 0, 0), (66, .iadd, 1, 0, 0), (67, .invokevirtual 202, 3, 151, 2), (70, .aload_n 0, 1, 0, 0), (71, .dup, 1, 0, 0), 
  (72, .getfield 206, 3, 9, 1), (75, .iconst 1, 1, 0, 0), (76, .iadd, 1, 0, 0), (77, .putfield 206, 3, 9, 1), (80, .return_, 1, 0, 0)]
abbrev hX9_keepPast : xHd := (yX9_keepPast, cX9_keepPast, 2, none)
theorem kX9_keepPast : xck hX9_keepPast rX9_keepPast = true := by decide +kernel
def rX9_evening : List xRow := [(0, .iload_n 1, 1, 0, 0), (1, .i2l, 1, 0, 0), (2, .lconst 1, 1, 0, 0), (3, .ldc2_w 304, 3, 12, 0), (6, .invokestatic 109, 3, 130, 3), (9, .ifCond .ne 6, 3, 15, 0), (12, .bipush (-3), 2, 0, 0), (14, .ireturn, 1, 0, 0), 
  (15, .aload_n 0, 1, 0, 0), (16, .getfield 7, 3, 9, 0), (19, .iconst 2, 1, 0, 0), (20, .iaload, 1, 0, 0), (21, .iload_n 1, 1, 0, 0), (22, .iadd, 1, 0, 0), (23, .sipush 999, 3, 0, 0), (26, .if_icmp .le 6, 3, 32, 0), 
  (29, .bipush (-5), 2, 0, 0), (31, .ireturn, 1, 0, 0), (32, .aload_n 0, 1, 0, 0), (33, .invokevirtual 306, 3, 185, 0), (36, .iconst 0, 1, 0, 0), (37, .istore_n 2, 1, 0, 0), (38, .iload_n 2, 1, 0, 0), (39, .iload_n 1, 1, 0, 0), 
  (40, .if_icmp .ge 14, 3, 54, 0), (43, .aload_n 0, 1, 0, 0), (44, .iconst 0, 1, 0, 0), (45, .invokevirtual 290, 3, 181, 1), (48, .iinc 2 1, 3, 0, 0), (51, .goto (-13), 3, 38, 0), (54, .aload_n 0, 1, 0, 0), (55, .getfield 7, 3, 9, 0), 
  (58, .iconst 2, 1, 0, 0), (59, .iaload, 1, 0, 0), (60, .ireturn, 1, 0, 0)]
abbrev hX9_evening : xHd := (yX9_evening, cX9_evening, 3, some .int)
theorem kX9_evening : xck hX9_evening rX9_evening = true := by decide +kernel
def rX9_teach : List xRow := [(0, .aload_n 0, 1, 0, 0), (1, .iload_n 1, 1, 0, 0), (2, .invokevirtual 234, 3, 165, 1), (5, .ifCond .eq 10, 3, 15, 0), (8, .iload_n 2, 1, 0, 0), (9, .invokestatic 293, 3, 167, 1), (12, .ifCond .ne 6, 3, 18, 0), (15, .bipush (-2), 2, 0, 0), 
  (17, .ireturn, 1, 0, 0), (18, .aload_n 0, 1, 0, 0), (19, .invokevirtual 306, 3, 185, 0), (22, .aload_n 0, 1, 0, 0), (23, .iconst 0, 1, 0, 0), (24, .iload_n 1, 1, 0, 0), (25, .iload_n 2, 1, 0, 0), (26, .iconst 3, 1, 0, 0), 
  (27, .invokevirtual 255, 3, 169, 4), (30, .aload_n 0, 1, 0, 0), (31, .getfield 7, 3, 9, 0), (34, .bipush 20, 2, 0, 0), (36, .bipush 10, 2, 0, 0), (38, .iload_n 1, 1, 0, 0), (39, .imul, 1, 0, 0), (40, .iadd, 1, 0, 0), 
  (41, .iload_n 2, 1, 0, 0), (42, .iadd, 1, 0, 0), (43, .iaload, 1, 0, 0), (44, .ireturn, 1, 0, 0)]
abbrev hX9_teach : xHd := (yX9_teach, cX9_teach, 3, some .int)
theorem kX9_teach : xck hX9_teach rX9_teach = true := by decide +kernel
def rX9_moult : List xRow := [(0, .aload_n 0, 1, 0, 0), (1, .iload_n 1, 1, 0, 0), (2, .invokevirtual 234, 3, 165, 1), (5, .ifCond .ne 6, 3, 11, 0), (8, .bipush (-2), 2, 0, 0), (10, .ireturn, 1, 0, 0), (11, .aload_n 0, 1, 0, 0), (12, .invokevirtual 306, 3, 185, 0), 
  (15, .iconst 0, 1, 0, 0), (16, .istore_n 2, 1, 0, 0), (17, .iconst 0, 1, 0, 0), (18, .istore_n 3, 1, 0, 0), (19, .iload_n 3, 1, 0, 0), (20, .bipush 10, 2, 0, 0), (22, .if_icmp .ge 44, 3, 66, 0), (25, .aload_n 0, 1, 0, 0), 
  (26, .getfield 7, 3, 9, 0), (29, .bipush 20, 2, 0, 0), (31, .bipush 10, 2, 0, 0), (33, .iload_n 1, 1, 0, 0), (34, .imul, 1, 0, 0), (35, .iadd, 1, 0, 0), (36, .iload_n 3, 1, 0, 0), (37, .iadd, 1, 0, 0), 
  (38, .dup2, 1, 0, 0), (39, .iaload, 1, 0, 0), (40, .iconst 2, 1, 0, 0), (41, .idiv, 1, 0, 0), (42, .iastore, 1, 0, 0), (43, .iload_n 2, 1, 0, 0), (44, .aload_n 0, 1, 0, 0), (45, .getfield 7, 3, 9, 0), 
  (48, .bipush 20, 2, 0, 0), (50, .bipush 10, 2, 0, 0), (52, .iload_n 1, 1, 0, 0), (53, .imul, 1, 0, 0), (54, .iadd, 1, 0, 0), (55, .iload_n 3, 1, 0, 0), (56, .iadd, 1, 0, 0), (57, .iaload, 1, 0, 0), 
  (58, .iadd, 1, 0, 0), (59, .istore_n 2, 1, 0, 0), (60, .iinc 3 1, 3, 0, 0), (63, .goto (-44), 3, 19, 0), (66, .iload_n 2, 1, 0, 0), (67, .ireturn, 1, 0, 0)]
abbrev hX9_moult : xHd := (yX9_moult, cX9_moult, 4, some .int)
theorem kX9_moult : xck hX9_moult rX9_moult = true := by decide +kernel
def rX9_perch : List xRow := [(0, .aload_n 0, 1, 0, 0), (1, .iload_n 1, 1, 0, 0), (2, .invokevirtual 234, 3, 165, 1), (5, .ifCond .eq 15, 3, 20, 0), (8, .iload_n 2, 1, 0, 0), (9, .i2l, 1, 0, 0), (10, .lconst 0, 1, 0, 0), (11, .ldc2_w 309, 3, 3, 0), 
  (14, .invokestatic 109, 3, 130, 3), (17, .ifCond .ne 6, 3, 23, 0), (20, .bipush (-2), 2, 0, 0), (22, .ireturn, 1, 0, 0), (23, .aload_n 0, 1, 0, 0), (24, .getfield 7, 3, 9, 0), (27, .bipush 12, 2, 0, 0), (29, .iload_n 1, 1, 0, 0), 
  (30, .iadd, 1, 0, 0), (31, .iaload, 1, 0, 0), (32, .istore_n 3, 1, 0, 0), (33, .iload_n 3, 1, 0, 0), (34, .iload_n 2, 1, 0, 0), (35, .if_icmp .ne 6, 3, 41, 0), (38, .bipush (-4), 2, 0, 0), (40, .ireturn, 1, 0, 0), 
  (41, .aload_n 0, 1, 0, 0), (42, .invokevirtual 306, 3, 185, 0), (45, .aload_n 0, 1, 0, 0), (46, .getfield 7, 3, 9, 0), (49, .bipush 12, 2, 0, 0), (51, .iload_n 1, 1, 0, 0), (52, .iadd, 1, 0, 0), (53, .iload_n 2, 1, 0, 0), 
  (54, .iastore, 1, 0, 0), (55, .iload_n 3, 1, 0, 0), (56, .ireturn, 1, 0, 0)]
abbrev hX9_perch : xHd := (yX9_perch, cX9_perch, 4, some .int)
theorem kX9_perch : xck hX9_perch rX9_perch = true := by decide +kernel
def rX9_cover : List xRow := [(0, .aload_n 0, 1, 0, 0), (1, .iload_n 1, 1, 0, 0), (2, .invokevirtual 234, 3, 165, 1), (5, .ifCond .ne 6, 3, 11, 0), (8, .bipush (-2), 2, 0, 0), (10, .ireturn, 1, 0, 0), (11, .aload_n 0, 1, 0, 0), (12, .invokevirtual 306, 3, 185, 0), 
  (15, .aload_n 0, 1, 0, 0), (16, .getfield 7, 3, 9, 0), (19, .iconst 3, 1, 0, 0), (20, .dup2, 1, 0, 0), (21, .iaload, 1, 0, 0), (22, .iconst 1, 1, 0, 0), (23, .iload_n 1, 1, 0, 0), (24, .ishl, 1, 0, 0), 
  (25, .ixor, 1, 0, 0), (26, .iastore, 1, 0, 0), (27, .aload_n 0, 1, 0, 0), (28, .getfield 7, 3, 9, 0), (31, .iconst 3, 1, 0, 0), (32, .iaload, 1, 0, 0), (33, .iload_n 1, 1, 0, 0), (34, .ishr, 1, 0, 0), 
  (35, .iconst 1, 1, 0, 0), (36, .iand, 1, 0, 0), (37, .ireturn, 1, 0, 0)]
abbrev hX9_cover : xHd := (yX9_cover, cX9_cover, 2, some .int)
theorem kX9_cover : xck hX9_cover rX9_cover = true := by decide +kernel
def rX9_sets : List xRow := [(0, .iconst 0, 1, 0, 0), (1, .istore 4, 2, 0, 0), (3, .iload 4, 2, 0, 0), (5, .aload_n 0, 1, 0, 0), (6, .getfield 7, 3, 9, 0), (9, .iload_n 1, 1, 0, 0), (10, .iconst 1, 1, 0, 0), (11, .iadd, 1, 0, 0), 
  (12, .iaload, 1, 0, 0), (13, .if_icmp .ge 58, 3, 71, 0), (16, .aload_n 0, 1, 0, 0), (17, .getfield 7, 3, 9, 0), (20, .iload_n 1, 1, 0, 0), (21, .bipush 104, 2, 0, 0), (23, .iadd, 1, 0, 0), (24, .iload 4, 2, 0, 0), 
  (26, .iadd, 1, 0, 0), (27, .iload_n 3, 1, 0, 0), (28, .iconst (-1), 1, 0, 0), (29, .if_icmp .eq 23, 3, 52, 0), (32, .aload_n 0, 1, 0, 0), (33, .getfield 7, 3, 9, 0), (36, .iload_n 1, 1, 0, 0), (37, .bipush 104, 2, 0, 0), 
  (39, .iadd, 1, 0, 0), (40, .iload 4, 2, 0, 0), (42, .iadd, 1, 0, 0), (43, .iaload, 1, 0, 0), (44, .iload_n 3, 1, 0, 0), (45, .if_icmp .ne 7, 3, 52, 0), (48, .iconst (-1), 1, 0, 0), (49, .goto 15, 3, 64, 0), 
  (52, .aload_n 0, 1, 0, 0), (53, .getfield 7, 3, 9, 0), (56, .iload_n 1, 1, 0, 0), (57, .bipush 104, 2, 0, 0), (59, .iadd, 1, 0, 0), (60, .iload 4, 2, 0, 0), (62, .iadd, 1, 0, 0), (63, .iaload, 1, 0, 0), 
  (64, .iastore, 1, 0, 0), (65, .iinc 4 1, 3, 0, 0), (68, .goto (-65), 3, 3, 0), (71, .aload_n 0, 1, 0, 0), (72, .getfield 7, 3, 9, 0), (75, .iload_n 1, 1, 0, 0), (76, .bipush 104, 2, 0, 0), (78, .iadd, 1, 0, 0), 
  (79, .iload_n 2, 1, 0, 0), (80, .iadd, 1, 0, 0), (81, .iload_n 3, 1, 0, 0), (82, .iastore, 1, 0, 0), (83, .return_, 1, 0, 0)]
abbrev hX9_sets : xHd := (yX9_sets, cX9_sets, 5, none)
theorem kX9_sets : xck hX9_sets rX9_sets = true := by decide +kernel
def rX9_sit : List xRow := [(0, .aload_n 0, 1, 0, 0), (1, .iload_n 1, 1, 0, 0), (2, .invokevirtual 244, 3, 166, 1), (5, .ifCond .eq 16, 3, 21, 0), (8, .iload_n 2, 1, 0, 0), (9, .iconst (-1), 1, 0, 0), (10, .if_icmp .eq 14, 3, 24, 0), (13, .aload_n 0, 1, 0, 0), 
  (14, .iload_n 2, 1, 0, 0), (15, .invokevirtual 234, 3, 165, 1), (18, .ifCond .ne 6, 3, 24, 0), (21, .bipush (-2), 2, 0, 0), (23, .ireturn, 1, 0, 0), (24, .aload_n 0, 1, 0, 0), (25, .getfield 7, 3, 9, 0), (28, .bipush 104, 2, 0, 0), 
  (30, .iload_n 1, 1, 0, 0), (31, .iadd, 1, 0, 0), (32, .iaload, 1, 0, 0), (33, .istore_n 3, 1, 0, 0), (34, .iload_n 3, 1, 0, 0), (35, .iload_n 2, 1, 0, 0), (36, .if_icmp .ne 6, 3, 42, 0), (39, .bipush (-4), 2, 0, 0), 
  (41, .ireturn, 1, 0, 0), (42, .aload_n 0, 1, 0, 0), (43, .invokevirtual 306, 3, 185, 0), (46, .aload_n 0, 1, 0, 0), (47, .iconst 0, 1, 0, 0), (48, .iload_n 1, 1, 0, 0), (49, .iload_n 2, 1, 0, 0), (50, .invokevirtual 311, 3, 191, 3), 
  (53, .iload_n 3, 1, 0, 0), (54, .ireturn, 1, 0, 0)]
abbrev hX9_sit : xHd := (yX9_sit, cX9_sit, 4, some .int)
theorem kX9_sit : xck hX9_sit rX9_sit = true := by decide +kernel
def rX9_undo : List xRow := [(0, .aload_n 0, 1, 0, 0), (1, .getfield 206, 3, 9, 1), (4, .ifCond .ne 6, 3, 10, 0), (7, .bipush (-4), 2, 0, 0), (9, .ireturn, 1, 0, 0), (10, .aload_n 0, 1, 0, 0), (11, .dup, 1, 0, 0), (12, .getfield 206, 3, 9, 1), 
  (15, .iconst 1, 1, 0, 0), (16, .isub, 1, 0, 0), (17, .putfield 206, 3, 9, 1), (20, .aload_n 0, 1, 0, 0), (21, .sipush 216, 3, 0, 0), (24, .bipush 108, 2, 0, 0), (26, .aload_n 0, 1, 0, 0), (27, .getfield 206, 3, 9, 1), 
  (30, .imul, 1, 0, 0), (31, .iadd, 1, 0, 0), (32, .iconst 0, 1, 0, 0), (33, .invokevirtual 202, 3, 151, 2), (36, .aload_n 0, 1, 0, 0), (37, .getfield 206, 3, 9, 1), (40, .ireturn, 1, 0, 0)]
abbrev hX9_undo : xHd := (yX9_undo, cX9_undo, 1, some .int)
theorem kX9_undo : xck hX9_undo rX9_undo = true := by decide +kernel
def rX9_keep : List xRow := [(0, .iload_n 1, 1, 0, 0), (1, .i2l, 1, 0, 0), (2, .lconst 0, 1, 0, 0), (3, .lconst 1, 1, 0, 0), (4, .invokestatic 109, 3, 130, 3), (7, .ifCond .ne 6, 3, 13, 0), (10, .bipush (-2), 2, 0, 0), (12, .ireturn, 1, 0, 0), 
  (13, .aload_n 0, 1, 0, 0), (14, .iconst 0, 1, 0, 0), (15, .sipush 1080, 3, 0, 0), (18, .bipush 108, 2, 0, 0), (20, .iload_n 1, 1, 0, 0), (21, .imul, 1, 0, 0), (22, .iadd, 1, 0, 0), (23, .invokevirtual 202, 3, 151, 2), 
  (26, .aload_n 0, 1, 0, 0), (27, .getfield 13, 3, 9, 2), (30, .iload_n 1, 1, 0, 0), (31, .iconst 1, 1, 0, 0), (32, .bastore, 1, 0, 0), (33, .aload_n 0, 1, 0, 0), (34, .getfield 7, 3, 9, 0), (37, .iconst 2, 1, 0, 0), 
  (38, .iaload, 1, 0, 0), (39, .ireturn, 1, 0, 0)]
abbrev hX9_keep : xHd := (yX9_keep, cX9_keep, 2, some .int)
theorem kX9_keep : xck hX9_keep rX9_keep = true := by decide +kernel
def rX9_back : List xRow := [(0, .iload_n 1, 1, 0, 0), (1, .i2l, 1, 0, 0), (2, .lconst 0, 1, 0, 0), (3, .lconst 1, 1, 0, 0), (4, .invokestatic 109, 3, 130, 3), (7, .ifCond .ne 6, 3, 13, 0), (10, .bipush (-2), 2, 0, 0), (12, .ireturn, 1, 0, 0), 
  (13, .aload_n 0, 1, 0, 0), (14, .getfield 13, 3, 9, 2), (17, .iload_n 1, 1, 0, 0), (18, .baload, 1, 0, 0), (19, .ifCond .ne 6, 3, 25, 0), (22, .bipush (-4), 2, 0, 0), (24, .ireturn, 1, 0, 0), (25, .aload_n 0, 1, 0, 0), 
  (26, .sipush 1080, 3, 0, 0), (29, .bipush 108, 2, 0, 0), (31, .iload_n 1, 1, 0, 0), (32, .imul, 1, 0, 0), (33, .iadd, 1, 0, 0), (34, .iconst 0, 1, 0, 0), (35, .invokevirtual 202, 3, 151, 2), (38, .aload_n 0, 1, 0, 0), 
  (39, .iconst 0, 1, 0, 0), (40, .putfield 206, 3, 9, 1), (43, .aload_n 0, 1, 0, 0), (44, .getfield 7, 3, 9, 0), (47, .iconst 2, 1, 0, 0), (48, .iaload, 1, 0, 0), (49, .ireturn, 1, 0, 0)]
abbrev hX9_back : xHd := (yX9_back, cX9_back, 2, some .int)
theorem kX9_back : xck hX9_back rX9_back = true := by decide +kernel
def rX9_saidAt : List xRow := [(0, .iload_n 2, 1, 0, 0), (1, .aload_n 0, 1, 0, 0), (2, .getfield 92, 3, 9, 37), (5, .iload_n 1, 1, 0, 0), (6, .iaload, 1, 0, 0), (7, .if_icmp .ge 17, 3, 24, 0), (10, .aload_n 0, 1, 0, 0), (11, .getfield 89, 3, 9, 36), 
  (14, .bipush 16, 2, 0, 0), (16, .iload_n 1, 1, 0, 0), (17, .imul, 1, 0, 0), (18, .iload_n 2, 1, 0, 0), (19, .iadd, 1, 0, 0), (20, .iaload, 1, 0, 0), (21, .goto 4, 3, 25, 0), (24, .iconst (-1), 1, 0, 0), 
  (25, .ireturn, 1, 0, 0)]
abbrev hX9_saidAt : xHd := (yX9_saidAt, cX9_saidAt, 3, some .int)
theorem kX9_saidAt : xck hX9_saidAt rX9_saidAt = true := by decide +kernel
def rX9_said : List xRow := [(0, .iload_n 1, 1, 0, 0), (1, .i2l, 1, 0, 0), (2, .lconst 0, 1, 0, 0), (3, .ldc2_w 309, 3, 3, 0), (6, .invokestatic 109, 3, 130, 3), (9, .ifCond .ne 6, 3, 15, 0), (12, .bipush (-2), 2, 0, 0), (14, .ireturn, 1, 0, 0), 
  (15, .iload_n 2, 1, 0, 0), (16, .i2l, 1, 0, 0), (17, .lconst 0, 1, 0, 0), (18, .ldc2_w 315, 3, 15, 0), (21, .invokestatic 109, 3, 130, 3), (24, .ifCond .ne 6, 3, 30, 0), (27, .bipush (-3), 2, 0, 0), (29, .ireturn, 1, 0, 0), 
  (30, .aload_n 0, 1, 0, 0), (31, .invokevirtual 298, 3, 182, 0), (34, .aload_n 0, 1, 0, 0), (35, .iconst 1, 1, 0, 0), (36, .invokevirtual 301, 3, 183, 1), (39, .aload_n 0, 1, 0, 0), (40, .iload_n 1, 1, 0, 0), (41, .iload_n 2, 1, 0, 0), 
  (42, .invokevirtual 317, 3, 196, 2), (45, .ireturn, 1, 0, 0)]
abbrev hX9_said : xHd := (yX9_said, cX9_said, 3, some .int)
theorem kX9_said : xck hX9_said rX9_said = true := by decide +kernel
def rX9_when : List xRow := [(0, .aload_n 0, 1, 0, 0), (1, .iload_n 1, 1, 0, 0), (2, .invokevirtual 234, 3, 165, 1), (5, .ifCond .eq 10, 3, 15, 0), (8, .iload_n 2, 1, 0, 0), (9, .invokestatic 293, 3, 167, 1), (12, .ifCond .ne 6, 3, 18, 0), (15, .bipush (-2), 2, 0, 0), 
  (17, .ireturn, 1, 0, 0), (18, .iload_n 3, 1, 0, 0), (19, .i2l, 1, 0, 0), (20, .lconst 1, 1, 0, 0), (21, .ldc2_w 232, 3, 9, 0), (24, .invokestatic 109, 3, 130, 3), (27, .ifCond .ne 6, 3, 33, 0), (30, .bipush (-3), 2, 0, 0), 
  (32, .ireturn, 1, 0, 0), (33, .aload_n 0, 1, 0, 0), (34, .invokevirtual 298, 3, 182, 0), (37, .iconst 0, 1, 0, 0), (38, .istore 4, 2, 0, 0), (40, .iload 4, 2, 0, 0), (42, .bipush 61, 2, 0, 0), (44, .if_icmp .ge 36, 3, 80, 0), 
  (47, .aload_n 0, 1, 0, 0), (48, .getfield 7, 3, 9, 0), (51, .sipush 1316, 3, 0, 0), (54, .bipush 10, 2, 0, 0), (56, .iload_n 1, 1, 0, 0), (57, .imul, 1, 0, 0), (58, .iadd, 1, 0, 0), (59, .iload_n 2, 1, 0, 0), 
  (60, .iadd, 1, 0, 0), (61, .iaload, 1, 0, 0), (62, .iload_n 3, 1, 0, 0), (63, .if_icmp .lt 6, 3, 69, 0), (66, .iload 4, 2, 0, 0), (68, .ireturn, 1, 0, 0), (69, .aload_n 0, 1, 0, 0), (70, .iconst 1, 1, 0, 0), 
  (71, .invokevirtual 301, 3, 183, 1), (74, .iinc 4 1, 3, 0, 0), (77, .goto (-37), 3, 40, 0), (80, .iconst (-1), 1, 0, 0), (81, .ireturn, 1, 0, 0)]
abbrev hX9_when : xHd := (yX9_when, cX9_when, 5, some .int)
theorem kX9_when : xck hX9_when rX9_when = true := by decide +kernel
def rX9_keptBy : List xRow := [(0, .aload_n 0, 1, 0, 0), (1, .invokevirtual 298, 3, 182, 0), (4, .aload_n 0, 1, 0, 0), (5, .sipush 1296, 3, 0, 0), (8, .iload_n 1, 1, 0, 0), (9, .iload_n 2, 1, 0, 0), (10, .invokevirtual 311, 3, 191, 3), (13, .aload_n 0, 1, 0, 0), 
  (14, .iload_n 3, 1, 0, 0), (15, .invokevirtual 301, 3, 183, 1), (18, .aload_n 0, 1, 0, 0), (19, .sipush 1296, 3, 0, 0), (22, .iload_n 2, 1, 0, 0), (23, .invokevirtual 241, 3, 171, 2), (26, .aload_n 0, 1, 0, 0), (27, .getfield 7, 3, 9, 0), 
  (30, .bipush 100, 2, 0, 0), (32, .iload_n 1, 1, 0, 0), (33, .iadd, 1, 0, 0), (34, .iaload, 1, 0, 0), (35, .iand, 1, 0, 0), (36, .invokestatic 320, 3, 132, 1), (39, .ireturn, 1, 0, 0)]
abbrev hX9_keptBy : xHd := (yX9_keptBy, cX9_keptBy, 4, some .int)
theorem kX9_keptBy : xck hX9_keptBy rX9_keptBy = true := by decide +kernel
def rX9_keeps : List xRow := [(0, .aload_n 0, 1, 0, 0), (1, .iload_n 1, 1, 0, 0), (2, .invokevirtual 244, 3, 166, 1), (5, .ifCond .eq 11, 3, 16, 0), (8, .aload_n 0, 1, 0, 0), (9, .iload_n 2, 1, 0, 0), (10, .invokevirtual 234, 3, 165, 1), (13, .ifCond .ne 6, 3, 19, 0), 
  (16, .bipush (-2), 2, 0, 0), (18, .ireturn, 1, 0, 0), (19, .iload_n 3, 1, 0, 0), (20, .i2l, 1, 0, 0), (21, .lconst 1, 1, 0, 0), (22, .ldc2_w 323, 3, 20, 0), (25, .invokestatic 109, 3, 130, 3), (28, .ifCond .eq 13, 3, 41, 0), 
  (31, .aload_n 0, 1, 0, 0), (32, .iload_n 1, 1, 0, 0), (33, .iload_n 2, 1, 0, 0), (34, .iload_n 3, 1, 0, 0), (35, .invokevirtual 325, 3, 199, 3), (38, .goto 5, 3, 43, 0), (41, .bipush (-3), 2, 0, 0), (43, .ireturn, 1, 0, 0)]
abbrev hX9_keeps : xHd := (yX9_keeps, cX9_keeps, 4, some .int)
theorem kX9_keeps : xck hX9_keeps rX9_keeps = true := by decide +kernel
def rX9_keptByLine : List xRow := [(0, .iconst 0, 1, 0, 0), (1, .istore_n 1, 1, 0, 0), (2, .iconst 0, 1, 0, 0), (3, .istore_n 2, 1, 0, 0), (4, .iconst 1, 1, 0, 0), (5, .istore_n 3, 1, 0, 0), (6, .iconst 0, 1, 0, 0), (7, .istore 4, 2, 0, 0), 
  (9, .iload 4, 2, 0, 0), (11, .aload_n 0, 1, 0, 0), (12, .getfield 7, 3, 9, 0), (15, .iconst 1, 1, 0, 0), (16, .iaload, 1, 0, 0), (17, .if_icmp .ge 112, 3, 129, 0), (20, .aload_n 0, 1, 0, 0), (21, .getfield 98, 3, 9, 39), 
  (24, .iload 4, 2, 0, 0), (26, .iaload, 1, 0, 0), (27, .aload_n 0, 1, 0, 0), (28, .getfield 7, 3, 9, 0), (31, .iconst 0, 1, 0, 0), (32, .iaload, 1, 0, 0), (33, .if_icmp .ge 7, 3, 40, 0), (36, .iconst 1, 1, 0, 0), 
  (37, .goto 4, 3, 41, 0), (40, .iconst 0, 1, 0, 0), (41, .istore 5, 2, 0, 0), (43, .iload_n 3, 1, 0, 0), (44, .ifCond .eq 26, 3, 70, 0), (47, .iload 5, 2, 0, 0), (49, .ifCond .eq 17, 3, 66, 0), (52, .iload_n 2, 1, 0, 0), 
  (53, .aload_n 0, 1, 0, 0), (54, .getfield 98, 3, 9, 39), (57, .iload 4, 2, 0, 0), (59, .iaload, 1, 0, 0), (60, .invokestatic 165, 3, 131, 2), (63, .ifCond .ne 7, 3, 70, 0), (66, .iconst 1, 1, 0, 0), (67, .goto 4, 3, 71, 0), 
  (70, .iconst 0, 1, 0, 0), (71, .istore_n 3, 1, 0, 0), (72, .iload_n 2, 1, 0, 0), (73, .iload 5, 2, 0, 0), (75, .ifCond .eq 15, 3, 90, 0), (78, .iconst 1, 1, 0, 0), (79, .aload_n 0, 1, 0, 0), (80, .getfield 98, 3, 9, 39), 
  (83, .iload 4, 2, 0, 0), (85, .iaload, 1, 0, 0), (86, .ishl, 1, 0, 0), (87, .goto 4, 3, 91, 0), (90, .iconst 0, 1, 0, 0), (91, .ior, 1, 0, 0), (92, .istore_n 2, 1, 0, 0), (93, .iload_n 1, 1, 0, 0), 
  (94, .iload 5, 2, 0, 0), (96, .ifCond .eq 24, 3, 120, 0), (99, .aload_n 0, 1, 0, 0), (100, .getfield 95, 3, 9, 38), (103, .bipush 8, 2, 0, 0), (105, .iload 4, 2, 0, 0), (107, .imul, 1, 0, 0), (108, .aload_n 0, 1, 0, 0), 
  (109, .getfield 98, 3, 9, 39), (112, .iload 4, 2, 0, 0), (114, .iaload, 1, 0, 0), (115, .iadd, 1, 0, 0), (116, .iaload, 1, 0, 0), (117, .goto 4, 3, 121, 0), (120, .iconst 0, 1, 0, 0), (121, .iadd, 1, 0, 0), 
  (122, .istore_n 1, 1, 0, 0), (123, .iinc 4 1, 3, 0, 0), (126, .goto (-117), 3, 9, 0), (129, .iload_n 3, 1, 0, 0), (130, .ifCond .eq 7, 3, 137, 0), (133, .iload_n 1, 1, 0, 0), (134, .goto 4, 3, 138, 0), (137, .iconst (-1), 1, 0, 0), 
  (138, .ireturn, 1, 0, 0)]
abbrev hX9_keptByLine : xHd := (yX9_keptByLine, cX9_keptByLine, 6, some .int)
theorem kX9_keptByLine : xck hX9_keptByLine rX9_keptByLine = true := by decide +kernel
def rX9_nextLine : List xRow := [(0, .aload_n 0, 1, 0, 0), (1, .getfield 7, 3, 9, 0), (4, .iconst 1, 1, 0, 0), (5, .iaload, 1, 0, 0), (6, .iconst 1, 1, 0, 0), (7, .isub, 1, 0, 0), (8, .istore_n 1, 1, 0, 0), (9, .iload_n 1, 1, 0, 0), 
  (10, .ifCond .lt 31, 3, 41, 0), (13, .aload_n 0, 1, 0, 0), (14, .getfield 98, 3, 9, 39), (17, .iload_n 1, 1, 0, 0), (18, .iaload, 1, 0, 0), (19, .aload_n 0, 1, 0, 0), (20, .getfield 7, 3, 9, 0), (23, .iconst 0, 1, 0, 0), 
  (24, .iaload, 1, 0, 0), (25, .if_icmp .ne 16, 3, 41, 0), (28, .aload_n 0, 1, 0, 0), (29, .getfield 98, 3, 9, 39), (32, .iload_n 1, 1, 0, 0), (33, .iconst 0, 1, 0, 0), (34, .iastore, 1, 0, 0), (35, .iinc 1 (-1), 3, 0, 0), 
  (38, .goto (-29), 3, 9, 0), (41, .iload_n 1, 1, 0, 0), (42, .ifCond .lt 13, 3, 55, 0), (45, .aload_n 0, 1, 0, 0), (46, .getfield 98, 3, 9, 39), (49, .iload_n 1, 1, 0, 0), (50, .dup2, 1, 0, 0), (51, .iaload, 1, 0, 0), 
  (52, .iconst 1, 1, 0, 0), (53, .iadd, 1, 0, 0), (54, .iastore, 1, 0, 0), (55, .iload_n 1, 1, 0, 0), (56, .ifCond .lt 7, 3, 63, 0), (59, .iconst 1, 1, 0, 0), (60, .goto 4, 3, 64, 0), (63, .iconst 0, 1, 0, 0), 
  (64, .ireturn, 1, 0, 0)]
abbrev hX9_nextLine : xHd := (yX9_nextLine, cX9_nextLine, 2, some .boolean)
theorem kX9_nextLine : xck hX9_nextLine rX9_nextLine = true := by decide +kernel
def rX9_match : List xRow := [(0, .iload_n 2, 1, 0, 0), (1, .iconst (-1), 1, 0, 0), (2, .if_icmp .eq 14, 3, 16, 0), (5, .aload_n 0, 1, 0, 0), (6, .iload_n 2, 1, 0, 0), (7, .invokevirtual 244, 3, 166, 1), (10, .ifCond .ne 6, 3, 16, 0), (13, .bipush (-2), 2, 0, 0), 
  (15, .ireturn, 1, 0, 0), (16, .iload_n 1, 1, 0, 0), (17, .i2l, 1, 0, 0), (18, .lconst 1, 1, 0, 0), (19, .ldc2_w 323, 3, 20, 0), (22, .invokestatic 109, 3, 130, 3), (25, .ifCond .ne 6, 3, 31, 0), (28, .bipush (-3), 2, 0, 0), 
  (30, .ireturn, 1, 0, 0), (31, .iconst 0, 1, 0, 0), (32, .istore_n 3, 1, 0, 0), (33, .iload_n 3, 1, 0, 0), (34, .bipush 8, 2, 0, 0), (36, .aload_n 0, 1, 0, 0), (37, .getfield 7, 3, 9, 0), (40, .iconst 1, 1, 0, 0), 
  (41, .iaload, 1, 0, 0), (42, .imul, 1, 0, 0), (43, .if_icmp .ge 45, 3, 88, 0), (46, .aload_n 0, 1, 0, 0), (47, .getfield 95, 3, 9, 38), (50, .iload_n 3, 1, 0, 0), (51, .iload_n 3, 1, 0, 0), (52, .bipush 8, 2, 0, 0), 
  (54, .irem, 1, 0, 0), (55, .aload_n 0, 1, 0, 0), (56, .getfield 7, 3, 9, 0), (59, .iconst 0, 1, 0, 0), (60, .iaload, 1, 0, 0), (61, .if_icmp .ge 19, 3, 80, 0), (64, .aload_n 0, 1, 0, 0), (65, .iload_n 3, 1, 0, 0), 
  (66, .bipush 8, 2, 0, 0), (68, .idiv, 1, 0, 0), (69, .iload_n 3, 1, 0, 0), (70, .bipush 8, 2, 0, 0), (72, .irem, 1, 0, 0), (73, .iload_n 1, 1, 0, 0), (74, .invokevirtual 325, 3, 199, 3), (77, .goto 4, 3, 81, 0), 
  (80, .iconst 0, 1, 0, 0), (81, .iastore, 1, 0, 0), (82, .iinc 3 1, 3, 0, 0), (85, .goto (-52), 3, 33, 0), (88, .iconst 0, 1, 0, 0), (89, .istore_n 3, 1, 0, 0), (90, .iload_n 3, 1, 0, 0), (91, .iconst 4, 1, 0, 0), 
  (92, .if_icmp .ge 16, 3, 108, 0), (95, .aload_n 0, 1, 0, 0), (96, .getfield 98, 3, 9, 39), (99, .iload_n 3, 1, 0, 0), (100, .iconst 0, 1, 0, 0), (101, .iastore, 1, 0, 0), (102, .iinc 3 1, 3, 0, 0), (105, .goto (-15), 3, 90, 0), 
  (108, .iconst (-1), 1, 0, 0), (109, .istore_n 3, 1, 0, 0), (110, .iconst 1, 1, 0, 0), (111, .istore 4, 2, 0, 0), (113, .iload 4, 2, 0, 0), (115, .ifCond .eq 56, 3, 171, 0), (118, .aload_n 0, 1, 0, 0), (119, .invokevirtual 328, 3, 201, 0), 
  (122, .istore 5, 2, 0, 0), (124, .iload 5, 2, 0, 0), (126, .iload_n 3, 1, 0, 0), (127, .if_icmp .le 35, 3, 162, 0), (130, .iload 5, 2, 0, 0), (132, .istore_n 3, 1, 0, 0), (133, .iconst 0, 1, 0, 0), (134, .istore 6, 2, 0, 0), 
  (136, .iload 6, 2, 0, 0), (138, .iconst 4, 1, 0, 0), (139, .if_icmp .ge 23, 3, 162, 0), (142, .aload_n 0, 1, 0, 0), (143, .getfield 101, 3, 9, 40), (146, .iload 6, 2, 0, 0), (148, .aload_n 0, 1, 0, 0), (149, .getfield 98, 3, 9, 39), 
  (152, .iload 6, 2, 0, 0), (154, .iaload, 1, 0, 0), (155, .iastore, 1, 0, 0), (156, .iinc 6 1, 3, 0, 0), (159, .goto (-23), 3, 136, 0), (162, .aload_n 0, 1, 0, 0), (163, .invokevirtual 331, 3, 202, 0), (166, .istore 4, 2, 0, 0), 
  (168, .goto (-55), 3, 113, 0), (171, .iload_n 2, 1, 0, 0), (172, .iconst (-1), 1, 0, 0), (173, .if_icmp .ne 7, 3, 180, 0), (176, .iload_n 3, 1, 0, 0), (177, .goto 28, 3, 205, 0), (180, .aload_n 0, 1, 0, 0), (181, .getfield 101, 3, 9, 40), 
  (184, .iload_n 2, 1, 0, 0), (185, .iaload, 1, 0, 0), (186, .aload_n 0, 1, 0, 0), (187, .getfield 7, 3, 9, 0), (190, .iconst 0, 1, 0, 0), (191, .iaload, 1, 0, 0), (192, .if_icmp .ne 7, 3, 199, 0), (195, .iconst (-1), 1, 0, 0), 
  (196, .goto 9, 3, 205, 0), (199, .aload_n 0, 1, 0, 0), (200, .getfield 101, 3, 9, 40), (203, .iload_n 2, 1, 0, 0), (204, .iaload, 1, 0, 0), (205, .ireturn, 1, 0, 0)]
abbrev hX9_match : xHd := (yX9_match, cX9_match, 7, some .int)
theorem kX9_match : xck hX9_match rX9_match = true := by decide +kernel
def rX9_clean : List xRow := [(0, .aload_n 0, 1, 0, 0), (1, .iload_n 1, 1, 0, 0), (2, .invokevirtual 234, 3, 165, 1), (5, .ifCond .eq 10, 3, 15, 0), (8, .iload_n 2, 1, 0, 0), (9, .invokestatic 293, 3, 167, 1), (12, .ifCond .ne 6, 3, 18, 0), (15, .bipush (-2), 2, 0, 0), 
  (17, .ireturn, 1, 0, 0), (18, .iload_n 3, 1, 0, 0), (19, .i2l, 1, 0, 0), (20, .lconst 1, 1, 0, 0), (21, .ldc2_w 323, 3, 20, 0), (24, .invokestatic 109, 3, 130, 3), (27, .ifCond .ne 6, 3, 33, 0), (30, .bipush (-3), 2, 0, 0), 
  (32, .ireturn, 1, 0, 0), (33, .iconst (-1), 1, 0, 0), (34, .istore 4, 2, 0, 0), (36, .aload_n 0, 1, 0, 0), (37, .getfield 7, 3, 9, 0), (40, .iconst 3, 1, 0, 0), (41, .iaload, 1, 0, 0), (42, .iconst 1, 1, 0, 0), 
  (43, .iload_n 1, 1, 0, 0), (44, .ishl, 1, 0, 0), (45, .ior, 1, 0, 0), (46, .istore 5, 2, 0, 0), (48, .iconst 0, 1, 0, 0), (49, .istore 6, 2, 0, 0), (51, .iload 6, 2, 0, 0), (53, .iconst 1, 1, 0, 0), 
  (54, .aload_n 0, 1, 0, 0), (55, .getfield 7, 3, 9, 0), (58, .iconst 0, 1, 0, 0), (59, .iaload, 1, 0, 0), (60, .ishl, 1, 0, 0), (61, .if_icmp .ge 86, 3, 147, 0), (64, .iload 6, 2, 0, 0), (66, .iload 5, 2, 0, 0), 
  (68, .iand, 1, 0, 0), (69, .ifCond .ne 72, 3, 141, 0), (72, .iload 4, 2, 0, 0), (74, .iconst (-1), 1, 0, 0), (75, .if_icmp .eq 16, 3, 91, 0), (78, .iload 6, 2, 0, 0), (80, .invokestatic 320, 3, 132, 1), (83, .iload 4, 2, 0, 0), 
  (85, .invokestatic 320, 3, 132, 1), (88, .if_icmp .ge 53, 3, 141, 0), (91, .aload_n 0, 1, 0, 0), (92, .invokevirtual 298, 3, 182, 0), (95, .aload_n 0, 1, 0, 0), (96, .getfield 7, 3, 9, 0), (99, .sipush 1299, 3, 0, 0), (102, .dup2, 1, 0, 0), 
  (103, .iaload, 1, 0, 0), (104, .iload 6, 2, 0, 0), (106, .ior, 1, 0, 0), (107, .iastore, 1, 0, 0), (108, .aload_n 0, 1, 0, 0), (109, .iload_n 3, 1, 0, 0), (110, .invokevirtual 301, 3, 183, 1), (113, .aload_n 0, 1, 0, 0), 
  (114, .getfield 7, 3, 9, 0), (117, .sipush 1316, 3, 0, 0), (120, .bipush 10, 2, 0, 0), (122, .iload_n 1, 1, 0, 0), (123, .imul, 1, 0, 0), (124, .iadd, 1, 0, 0), (125, .iload_n 2, 1, 0, 0), (126, .iadd, 1, 0, 0), 
  (127, .iaload, 1, 0, 0), (128, .iconst 5, 1, 0, 0), (129, .if_icmp .ge 8, 3, 137, 0), (132, .iload 6, 2, 0, 0), (134, .goto 5, 3, 139, 0), (137, .iload 4, 2, 0, 0), (139, .istore 4, 2, 0, 0), (141, .iinc 6 1, 3, 0, 0), 
  (144, .goto (-93), 3, 51, 0), (147, .iload 4, 2, 0, 0), (149, .ireturn, 1, 0, 0)]
abbrev hX9_clean : xHd := (yX9_clean, cX9_clean, 7, some .int)
theorem kX9_clean : xck hX9_clean rX9_clean = true := by decide +kernel
def rX9_of : List xRow := [(0, .iload_n 1, 1, 0, 0), (1, .i2l, 1, 0, 0), (2, .lconst 0, 1, 0, 0), (3, .ldc2_w 309, 3, 3, 0), (6, .invokestatic 109, 3, 130, 3), (9, .ifCond .ne 6, 3, 15, 0), (12, .bipush (-2), 2, 0, 0), (14, .ireturn, 1, 0, 0), 
  (15, .iload_n 2, 1, 0, 0), (16, .i2l, 1, 0, 0), (17, .lconst 0, 1, 0, 0), (18, .lconst 1, 1, 0, 0), (19, .invokestatic 109, 3, 130, 3), (22, .ifCond .ne 6, 3, 28, 0), (25, .bipush (-3), 2, 0, 0), (27, .ireturn, 1, 0, 0), 
  (28, .aload_n 0, 1, 0, 0), (29, .getfield 217, 3, 9, 9), (32, .ifCond .ne 6, 3, 38, 0), (35, .bipush (-4), 2, 0, 0), (37, .ireturn, 1, 0, 0), (38, .aload_n 0, 1, 0, 0), (39, .invokevirtual 298, 3, 182, 0), (42, .aload_n 0, 1, 0, 0), 
  (43, .iconst 1, 1, 0, 0), (44, .invokevirtual 301, 3, 183, 1), (47, .iconst 0, 1, 0, 0), (48, .istore_n 3, 1, 0, 0), (49, .iload_n 3, 1, 0, 0), (50, .sipush 203, 3, 0, 0), (53, .if_icmp .ge 24, 3, 77, 0), (56, .aload_n 0, 1, 0, 0), 
  (57, .getfield 83, 3, 9, 34), (60, .iload_n 3, 1, 0, 0), (61, .iload_n 3, 1, 0, 0), (62, .ifCond .ne 7, 3, 69, 0), (65, .iconst 1, 1, 0, 0), (66, .goto 4, 3, 70, 0), (69, .iconst 0, 1, 0, 0), (70, .bastore, 1, 0, 0), 
  (71, .iinc 3 1, 3, 0, 0), (74, .goto (-25), 3, 49, 0), (77, .aload_n 0, 1, 0, 0), (78, .invokevirtual 229, 3, 159, 0), (81, .aload_n 0, 1, 0, 0), (82, .getfield 83, 3, 9, 34), (85, .aload_n 0, 1, 0, 0), (86, .getfield 217, 3, 9, 9), 
  (89, .baload, 1, 0, 0), (90, .ifCond .eq 7, 3, 97, 0), (93, .iconst 0, 1, 0, 0), (94, .goto 4, 3, 98, 0), (97, .iconst (-1), 1, 0, 0), (98, .istore_n 3, 1, 0, 0), (99, .iconst 0, 1, 0, 0), (100, .istore 4, 2, 0, 0), 
  (102, .iload 4, 2, 0, 0), (104, .aload_n 0, 1, 0, 0), (105, .getfield 92, 3, 9, 37), (108, .iload_n 1, 1, 0, 0), (109, .iaload, 1, 0, 0), (110, .if_icmp .ge 46, 3, 156, 0), (113, .aload_n 0, 1, 0, 0), (114, .aload_n 0, 1, 0, 0), 
  (115, .getfield 89, 3, 9, 36), (118, .bipush 16, 2, 0, 0), (120, .iload_n 1, 1, 0, 0), (121, .imul, 1, 0, 0), (122, .iload 4, 2, 0, 0), (124, .iadd, 1, 0, 0), (125, .iaload, 1, 0, 0), (126, .invokevirtual 334, 3, 160, 1), 
  (129, .aload_n 0, 1, 0, 0), (130, .getfield 83, 3, 9, 34), (133, .aload_n 0, 1, 0, 0), (134, .getfield 217, 3, 9, 9), (137, .baload, 1, 0, 0), (138, .ifCond .eq 10, 3, 148, 0), (141, .iload 4, 2, 0, 0), (143, .iconst 1, 1, 0, 0), 
  (144, .iadd, 1, 0, 0), (145, .goto 4, 3, 149, 0), (148, .iload_n 3, 1, 0, 0), (149, .istore_n 3, 1, 0, 0), (150, .iinc 4 1, 3, 0, 0), (153, .goto (-51), 3, 102, 0), (156, .iload_n 2, 1, 0, 0), (157, .iconst 1, 1, 0, 0), 
  (158, .if_icmp .ne 7, 3, 165, 0), (161, .iload_n 3, 1, 0, 0), (162, .goto 18, 3, 180, 0), (165, .iload_n 3, 1, 0, 0), (166, .aload_n 0, 1, 0, 0), (167, .getfield 92, 3, 9, 37), (170, .iload_n 1, 1, 0, 0), (171, .iaload, 1, 0, 0), 
  (172, .if_icmp .ne 7, 3, 179, 0), (175, .iconst 1, 1, 0, 0), (176, .goto 4, 3, 180, 0), (179, .iconst 0, 1, 0, 0), (180, .ireturn, 1, 0, 0)]
abbrev hX9_of : xHd := (yX9_of, cX9_of, 5, some .int)
theorem kX9_of : xck hX9_of rX9_of = true := by decide +kernel
def rX9_left : List xRow := [(0, .iload_n 1, 1, 0, 0), (1, .invokestatic 293, 3, 167, 1), (4, .ifCond .ne 6, 3, 10, 0), (7, .bipush (-2), 2, 0, 0), (9, .ireturn, 1, 0, 0), (10, .iload_n 2, 1, 0, 0), (11, .i2l, 1, 0, 0), (12, .lconst 0, 1, 0, 0), 
  (13, .ldc2_w 337, 3, 10, 0), (16, .invokestatic 109, 3, 130, 3), (19, .ifCond .eq 13, 3, 32, 0), (22, .iload_n 3, 1, 0, 0), (23, .i2l, 1, 0, 0), (24, .lconst 0, 1, 0, 0), (25, .lconst 1, 1, 0, 0), (26, .invokestatic 109, 3, 130, 3), 
  (29, .ifCond .ne 6, 3, 35, 0), (32, .bipush (-3), 2, 0, 0), (34, .ireturn, 1, 0, 0), (35, .iconst 1, 1, 0, 0), (36, .istore 4, 2, 0, 0), (38, .iconst 1, 1, 0, 0), (39, .istore 5, 2, 0, 0), (41, .iconst 0, 1, 0, 0), 
  (42, .istore 6, 2, 0, 0), (44, .iload 6, 2, 0, 0), (46, .aload_n 0, 1, 0, 0), (47, .getfield 7, 3, 9, 0), (50, .iconst 0, 1, 0, 0), (51, .iaload, 1, 0, 0), (52, .if_icmp .ge 53, 3, 105, 0), (55, .aload_n 0, 1, 0, 0), 
  (56, .iconst 0, 1, 0, 0), (57, .iload 6, 2, 0, 0), (59, .invokevirtual 241, 3, 171, 2), (62, .iload_n 1, 1, 0, 0), (63, .invokestatic 165, 3, 131, 2), (66, .istore 7, 2, 0, 0), (68, .iload 4, 2, 0, 0), (70, .iload 7, 2, 0, 0), 
  (72, .ifCond .eq 7, 3, 79, 0), (75, .iload_n 2, 1, 0, 0), (76, .goto 4, 3, 80, 0), (79, .iconst 1, 1, 0, 0), (80, .imul, 1, 0, 0), (81, .istore 4, 2, 0, 0), (83, .iload 5, 2, 0, 0), (85, .iload 7, 2, 0, 0), 
  (87, .ifCond .eq 8, 3, 95, 0), (90, .bipush 10, 2, 0, 0), (92, .goto 4, 3, 96, 0), (95, .iconst 1, 1, 0, 0), (96, .imul, 1, 0, 0), (97, .istore 5, 2, 0, 0), (99, .iinc 6 1, 3, 0, 0), (102, .goto (-58), 3, 44, 0), 
  (105, .iload 5, 2, 0, 0), (107, .iload 4, 2, 0, 0), (109, .isub, 1, 0, 0), (110, .istore 6, 2, 0, 0), (112, .iload 5, 2, 0, 0), (114, .istore 7, 2, 0, 0), (116, .iload 7, 2, 0, 0), (118, .ifCond .eq 21, 3, 139, 0), 
  (121, .iload 6, 2, 0, 0), (123, .iload 7, 2, 0, 0), (125, .irem, 1, 0, 0), (126, .istore 8, 2, 0, 0), (128, .iload 7, 2, 0, 0), (130, .istore 6, 2, 0, 0), (132, .iload 8, 2, 0, 0), (134, .istore 7, 2, 0, 0), 
  (136, .goto (-20), 3, 116, 0), (139, .iload_n 3, 1, 0, 0), (140, .ifCond .ne 14, 3, 154, 0), (143, .iload 5, 2, 0, 0), (145, .iload 4, 2, 0, 0), (147, .isub, 1, 0, 0), (148, .iload 6, 2, 0, 0), (150, .idiv, 1, 0, 0), 
  (151, .goto 8, 3, 159, 0), (154, .iload 5, 2, 0, 0), (156, .iload 6, 2, 0, 0), (158, .idiv, 1, 0, 0), (159, .ireturn, 1, 0, 0)]
abbrev hX9_left : xHd := (yX9_left, cX9_left, 9, some .int)
theorem kX9_left : xck hX9_left rX9_left = true := by decide +kernel
def rX9_seen : List xRow := [(0, .iload_n 1, 1, 0, 0), (1, .i2l, 1, 0, 0), (2, .lconst 0, 1, 0, 0), (3, .ldc2_w 309, 3, 3, 0), (6, .invokestatic 109, 3, 130, 3), (9, .ifCond .eq 15, 3, 24, 0), (12, .iload_n 3, 1, 0, 0), (13, .iconst (-1), 1, 0, 0), 
  (14, .if_icmp .eq 13, 3, 27, 0), (17, .iload_n 3, 1, 0, 0), (18, .invokestatic 293, 3, 167, 1), (21, .ifCond .ne 6, 3, 27, 0), (24, .bipush (-2), 2, 0, 0), (26, .ireturn, 1, 0, 0), (27, .iload_n 2, 1, 0, 0), (28, .i2l, 1, 0, 0), 
  (29, .lconst 0, 1, 0, 0), (30, .ldc2_w 232, 3, 9, 0), (33, .invokestatic 109, 3, 130, 3), (36, .ifCond .ne 6, 3, 42, 0), (39, .bipush (-3), 2, 0, 0), (41, .ireturn, 1, 0, 0), (42, .aload_n 0, 1, 0, 0), (43, .getfield 209, 3, 9, 5), 
  (46, .bipush 6, 2, 0, 0), (48, .if_icmp .ne 6, 3, 54, 0), (51, .bipush (-5), 2, 0, 0), (53, .ireturn, 1, 0, 0), (54, .aload_n 0, 1, 0, 0), (55, .getfield 20, 3, 9, 6), (58, .aload_n 0, 1, 0, 0), (59, .getfield 209, 3, 9, 5), 
  (62, .iload_n 1, 1, 0, 0), (63, .iastore, 1, 0, 0), (64, .aload_n 0, 1, 0, 0), (65, .getfield 23, 3, 9, 7), (68, .aload_n 0, 1, 0, 0), (69, .getfield 209, 3, 9, 5), (72, .iload_n 2, 1, 0, 0), (73, .iastore, 1, 0, 0), 
  (74, .aload_n 0, 1, 0, 0), (75, .getfield 26, 3, 9, 8), (78, .aload_n 0, 1, 0, 0), (79, .getfield 209, 3, 9, 5), (82, .iload_n 3, 1, 0, 0), (83, .iastore, 1, 0, 0), (84, .aload_n 0, 1, 0, 0), (85, .dup, 1, 0, 0), 
  (86, .getfield 209, 3, 9, 5), (89, .iconst 1, 1, 0, 0), (90, .iadd, 1, 0, 0), (91, .putfield 209, 3, 9, 5), (94, .aload_n 0, 1, 0, 0), (95, .getfield 209, 3, 9, 5), (98, .ireturn, 1, 0, 0)]
abbrev hX9_seen : xHd := (yX9_seen, cX9_seen, 4, some .int)
theorem kX9_seen : xck hX9_seen rX9_seen = true := by decide +kernel
def rX9_forget : List xRow := [(0, .aload_n 0, 1, 0, 0), (1, .getfield 209, 3, 9, 5), (4, .istore_n 1, 1, 0, 0), (5, .aload_n 0, 1, 0, 0), (6, .iconst 0, 1, 0, 0), (7, .putfield 209, 3, 9, 5), (10, .iload_n 1, 1, 0, 0), (11, .ireturn, 1, 0, 0)]
abbrev hX9_forget : xHd := (yX9_forget, cX9_forget, 2, some .int)
theorem kX9_forget : xck hX9_forget rX9_forget = true := by decide +kernel
def rX9_kinds : List xRow := [(0, .aload_n 0, 1, 0, 0), (1, .iload_n 1, 1, 0, 0), (2, .invokevirtual 234, 3, 165, 1), (5, .ifCond .ne 6, 3, 11, 0), (8, .bipush (-2), 2, 0, 0), (10, .ireturn, 1, 0, 0), (11, .iconst 0, 1, 0, 0), (12, .istore_n 2, 1, 0, 0), 
  (13, .iconst 0, 1, 0, 0), (14, .istore_n 3, 1, 0, 0), (15, .iload_n 3, 1, 0, 0), (16, .iconst 5, 1, 0, 0), (17, .if_icmp .ge 105, 3, 122, 0), (20, .aload_n 0, 1, 0, 0), (21, .invokevirtual 298, 3, 182, 0), (24, .aload_n 0, 1, 0, 0), 
  (25, .getfield 7, 3, 9, 0), (28, .sipush 1300, 3, 0, 0), (31, .iload_n 1, 1, 0, 0), (32, .iadd, 1, 0, 0), (33, .iload_n 3, 1, 0, 0), (34, .iastore, 1, 0, 0), (35, .aload_n 0, 1, 0, 0), (36, .iconst 1, 1, 0, 0), 
  (37, .invokevirtual 301, 3, 183, 1), (40, .iconst 1, 1, 0, 0), (41, .istore 4, 2, 0, 0), (43, .iconst 0, 1, 0, 0), (44, .istore 5, 2, 0, 0), (46, .iload 5, 2, 0, 0), (48, .aload_n 0, 1, 0, 0), (49, .getfield 209, 3, 9, 5), 
  (52, .if_icmp .ge 49, 3, 101, 0), (55, .iload 4, 2, 0, 0), (57, .ifCond .eq 35, 3, 92, 0), (60, .aload_n 0, 1, 0, 0), (61, .aload_n 0, 1, 0, 0), (62, .getfield 20, 3, 9, 6), (65, .iload 5, 2, 0, 0), (67, .iaload, 1, 0, 0), 
  (68, .aload_n 0, 1, 0, 0), (69, .getfield 23, 3, 9, 7), (72, .iload 5, 2, 0, 0), (74, .iaload, 1, 0, 0), (75, .invokevirtual 317, 3, 196, 2), (78, .aload_n 0, 1, 0, 0), (79, .getfield 26, 3, 9, 8), (82, .iload 5, 2, 0, 0), 
  (84, .iaload, 1, 0, 0), (85, .if_icmp .ne 7, 3, 92, 0), (88, .iconst 1, 1, 0, 0), (89, .goto 4, 3, 93, 0), (92, .iconst 0, 1, 0, 0), (93, .istore 4, 2, 0, 0), (95, .iinc 5 1, 3, 0, 0), (98, .goto (-52), 3, 46, 0), 
  (101, .iload_n 2, 1, 0, 0), (102, .iload 4, 2, 0, 0), (104, .ifCond .eq 9, 3, 113, 0), (107, .iconst 1, 1, 0, 0), (108, .iload_n 3, 1, 0, 0), (109, .ishl, 1, 0, 0), (110, .goto 4, 3, 114, 0), (113, .iconst 0, 1, 0, 0), 
  (114, .ior, 1, 0, 0), (115, .istore_n 2, 1, 0, 0), (116, .iinc 3 1, 3, 0, 0), (119, .goto (-104), 3, 15, 0), (122, .iload_n 2, 1, 0, 0), (123, .ireturn, 1, 0, 0)]
abbrev hX9_kinds : xHd := (yX9_kinds, cX9_kinds, 6, some .int)
theorem kX9_kinds : xck hX9_kinds rX9_kinds = true := by decide +kernel
def rX9_isReel : List xRow := [(0, .iload_n 0, 1, 0, 0), (1, .i2l, 1, 0, 0), (2, .lconst 0, 1, 0, 0), (3, .ldc2_w 339, 3, 2, 0), (6, .invokestatic 109, 3, 130, 3), (9, .ireturn, 1, 0, 0)]
abbrev hX9_isReel : xHd := (yX9_isReel, cX9_isReel, 1, some .boolean)
theorem kX9_isReel : xck hX9_isReel rX9_isReel = true := by decide +kernel
def rX9_reel : List xRow := [(0, .iload_n 1, 1, 0, 0), (1, .invokestatic 341, 3, 210, 1), (4, .ifCond .ne 6, 3, 10, 0), (7, .bipush (-2), 2, 0, 0), (9, .ireturn, 1, 0, 0), (10, .iload_n 2, 1, 0, 0), (11, .i2l, 1, 0, 0), (12, .lconst 0, 1, 0, 0), 
  (13, .ldc2_w 309, 3, 3, 0), (16, .invokestatic 109, 3, 130, 3), (19, .ifCond .eq 9, 3, 28, 0), (22, .iload_n 3, 1, 0, 0), (23, .bipush 12, 2, 0, 0), (25, .if_icmp .le 6, 3, 31, 0), (28, .bipush (-3), 2, 0, 0), (30, .ireturn, 1, 0, 0), 
  (31, .iload_n 3, 1, 0, 0), (32, .ifCond .ge 6, 3, 38, 0), (35, .bipush (-16), 2, 0, 0), (37, .ireturn, 1, 0, 0), (38, .aload_n 0, 1, 0, 0), (39, .getfield 38, 3, 9, 13), (42, .iload_n 1, 1, 0, 0), (43, .iload_n 3, 1, 0, 0), 
  (44, .iastore, 1, 0, 0), (45, .aload_n 0, 1, 0, 0), (46, .getfield 41, 3, 9, 14), (49, .iload_n 1, 1, 0, 0), (50, .iload_n 2, 1, 0, 0), (51, .iastore, 1, 0, 0), (52, .iconst 0, 1, 0, 0), (53, .istore 4, 2, 0, 0), 
  (55, .iload 4, 2, 0, 0), (57, .bipush 12, 2, 0, 0), (59, .if_icmp .ge 31, 3, 90, 0), (62, .aload_n 0, 1, 0, 0), (63, .getfield 44, 3, 9, 15), (66, .bipush 12, 2, 0, 0), (68, .iload_n 1, 1, 0, 0), (69, .imul, 1, 0, 0), 
  (70, .iload 4, 2, 0, 0), (72, .iadd, 1, 0, 0), (73, .iload_n 2, 1, 0, 0), (74, .iconst 3, 1, 0, 0), (75, .if_icmp .ne 7, 3, 82, 0), (78, .iconst (-1), 1, 0, 0), (79, .goto 4, 3, 83, 0), (82, .iconst 0, 1, 0, 0), 
  (83, .iastore, 1, 0, 0), (84, .iinc 4 1, 3, 0, 0), (87, .goto (-32), 3, 55, 0), (90, .iload_n 3, 1, 0, 0), (91, .ireturn, 1, 0, 0)]
abbrev hX9_reel : xHd := (yX9_reel, cX9_reel, 5, some .int)
theorem kX9_reel : xck hX9_reel rX9_reel = true := by decide +kernel
def rX9_noPlace : List xRow := [(0, .aload_n 0, 1, 0, 0), (1, .getfield 38, 3, 9, 13), (4, .iload_n 1, 1, 0, 0), (5, .iaload, 1, 0, 0), (6, .ifCond .ge 6, 3, 12, 0), (9, .bipush (-11), 2, 0, 0), (11, .ireturn, 1, 0, 0), (12, .aload_n 0, 1, 0, 0), 
  (13, .getfield 41, 3, 9, 14), (16, .iload_n 1, 1, 0, 0), (17, .iaload, 1, 0, 0), (18, .iload_n 2, 1, 0, 0), (19, .if_icmp .eq 6, 3, 25, 0), (22, .bipush (-12), 2, 0, 0), (24, .ireturn, 1, 0, 0), (25, .iload_n 3, 1, 0, 0), 
  (26, .i2l, 1, 0, 0), (27, .lconst 0, 1, 0, 0), (28, .aload_n 0, 1, 0, 0), (29, .getfield 38, 3, 9, 13), (32, .iload_n 1, 1, 0, 0), (33, .iaload, 1, 0, 0), (34, .iconst 1, 1, 0, 0), (35, .isub, 1, 0, 0), 
  (36, .i2l, 1, 0, 0), (37, .invokestatic 109, 3, 130, 3), (40, .ifCond .eq 7, 3, 47, 0), (43, .iconst 0, 1, 0, 0), (44, .goto 5, 3, 49, 0), (47, .bipush (-14), 2, 0, 0), (49, .ireturn, 1, 0, 0)]
abbrev hX9_noPlace : xHd := (yX9_noPlace, cX9_noPlace, 4, some .int)
theorem kX9_noPlace : xck hX9_noPlace rX9_noPlace = true := by decide +kernel
def rX9_record : List xRow := [(0, .iload_n 1, 1, 0, 0), (1, .invokestatic 341, 3, 210, 1), (4, .ifCond .eq 23, 3, 27, 0), (7, .iload_n 2, 1, 0, 0), (8, .iconst 3, 1, 0, 0), (9, .if_icmp .ne 21, 3, 30, 0), (12, .iload 4, 2, 0, 0), (14, .iconst (-1), 1, 0, 0), 
  (15, .if_icmp .eq 15, 3, 30, 0), (18, .aload_n 0, 1, 0, 0), (19, .iload 4, 2, 0, 0), (21, .invokevirtual 234, 3, 165, 1), (24, .ifCond .ne 6, 3, 30, 0), (27, .bipush (-2), 2, 0, 0), (29, .ireturn, 1, 0, 0), (30, .iload_n 2, 1, 0, 0), 
  (31, .i2l, 1, 0, 0), (32, .lconst 0, 1, 0, 0), (33, .ldc2_w 309, 3, 3, 0), (36, .invokestatic 109, 3, 130, 3), (39, .ifCond .ne 6, 3, 45, 0), (42, .bipush (-3), 2, 0, 0), (44, .ireturn, 1, 0, 0), (45, .aload_n 0, 1, 0, 0), 
  (46, .iload_n 1, 1, 0, 0), (47, .iload_n 2, 1, 0, 0), (48, .iload_n 3, 1, 0, 0), (49, .invokevirtual 344, 3, 212, 3), (52, .istore 5, 2, 0, 0), (54, .iload 5, 2, 0, 0), (56, .ifCond .eq 6, 3, 62, 0), (59, .iload 5, 2, 0, 0), 
  (61, .ireturn, 1, 0, 0), (62, .iload_n 2, 1, 0, 0), (63, .ifCond .ne 9, 3, 72, 0), (66, .iload 4, 2, 0, 0), (68, .i2b, 1, 0, 0), (69, .goto 16, 3, 85, 0), (72, .iload_n 2, 1, 0, 0), (73, .iconst 1, 1, 0, 0), 
  (74, .if_icmp .ne 9, 3, 83, 0), (77, .iload 4, 2, 0, 0), (79, .i2s, 1, 0, 0), (80, .goto 5, 3, 85, 0), (83, .iload 4, 2, 0, 0), (85, .istore 6, 2, 0, 0), (87, .aload_n 0, 1, 0, 0), (88, .getfield 44, 3, 9, 15), 
  (91, .bipush 12, 2, 0, 0), (93, .iload_n 1, 1, 0, 0), (94, .imul, 1, 0, 0), (95, .iload_n 3, 1, 0, 0), (96, .iadd, 1, 0, 0), (97, .iload 6, 2, 0, 0), (99, .iastore, 1, 0, 0), (100, .iload_n 2, 1, 0, 0), 
  (101, .iconst 2, 1, 0, 0), (102, .if_icmp .ge 12, 3, 114, 0), (105, .iload 6, 2, 0, 0), (107, .ldc_w 347, 3, 100000, 0), (110, .iadd, 1, 0, 0), (111, .goto 14, 3, 125, 0), (114, .iload_n 2, 1, 0, 0), (115, .iconst 2, 1, 0, 0), 
  (116, .if_icmp .ne 7, 3, 123, 0), (119, .iconst 1, 1, 0, 0), (120, .goto 5, 3, 125, 0), (123, .iload 4, 2, 0, 0), (125, .ireturn, 1, 0, 0)]
abbrev hX9_record : xHd := (yX9_record, cX9_record, 7, some .int)
theorem kX9_record : xck hX9_record rX9_record = true := by decide +kernel
def rX9_play : List xRow := [(0, .iload_n 1, 1, 0, 0), (1, .invokestatic 341, 3, 210, 1), (4, .ifCond .ne 6, 3, 10, 0), (7, .bipush (-2), 2, 0, 0), (9, .ireturn, 1, 0, 0), (10, .iload_n 2, 1, 0, 0), (11, .i2l, 1, 0, 0), (12, .lconst 0, 1, 0, 0), 
  (13, .ldc2_w 309, 3, 3, 0), (16, .invokestatic 109, 3, 130, 3), (19, .ifCond .ne 6, 3, 25, 0), (22, .bipush (-3), 2, 0, 0), (24, .ireturn, 1, 0, 0), (25, .aload_n 0, 1, 0, 0), (26, .iload_n 1, 1, 0, 0), (27, .iload_n 2, 1, 0, 0), 
  (28, .iload_n 3, 1, 0, 0), (29, .invokevirtual 344, 3, 212, 3), (32, .istore 4, 2, 0, 0), (34, .iload 4, 2, 0, 0), (36, .ifCond .eq 6, 3, 42, 0), (39, .iload 4, 2, 0, 0), (41, .ireturn, 1, 0, 0), (42, .aload_n 0, 1, 0, 0), 
  (43, .getfield 44, 3, 9, 15), (46, .bipush 12, 2, 0, 0), (48, .iload_n 1, 1, 0, 0), (49, .imul, 1, 0, 0), (50, .iload_n 3, 1, 0, 0), (51, .iadd, 1, 0, 0), (52, .iaload, 1, 0, 0), (53, .istore 5, 2, 0, 0), 
  (55, .iload_n 2, 1, 0, 0), (56, .iconst 3, 1, 0, 0), (57, .if_icmp .ne 17, 3, 74, 0), (60, .iload 5, 2, 0, 0), (62, .iconst (-1), 1, 0, 0), (63, .if_icmp .ne 8, 3, 71, 0), (66, .bipush (-15), 2, 0, 0), (68, .goto 5, 3, 73, 0), 
  (71, .iload 5, 2, 0, 0), (73, .ireturn, 1, 0, 0), (74, .iload_n 2, 1, 0, 0), (75, .iconst 2, 1, 0, 0), (76, .if_icmp .ge 12, 3, 88, 0), (79, .iload 5, 2, 0, 0), (81, .ldc_w 347, 3, 100000, 0), (84, .iadd, 1, 0, 0), 
  (85, .goto 30, 3, 115, 0), (88, .iload 5, 2, 0, 0), (90, .ifCond .ge 19, 3, 109, 0), (93, .iload 5, 2, 0, 0), (95, .iconst 1, 1, 0, 0), (96, .iadd, 1, 0, 0), (97, .ineg, 1, 0, 0), (98, .ldc_w 348, 3, 1000003, 0), 
  (101, .irem, 1, 0, 0), (102, .ldc_w 349, 3, 2000000, 0), (105, .iadd, 1, 0, 0), (106, .goto 9, 3, 115, 0), (109, .iload 5, 2, 0, 0), (111, .ldc_w 348, 3, 1000003, 0), (114, .irem, 1, 0, 0), (115, .ireturn, 1, 0, 0)]
abbrev hX9_play : xHd := (yX9_play, cX9_play, 6, some .int)
theorem kX9_play : xck hX9_play rX9_play = true := by decide +kernel
def rX9_isSpan : List xRow := [(0, .iload_n 2, 1, 0, 0), (1, .ifCond .lt 27, 3, 28, 0), (4, .iload_n 3, 1, 0, 0), (5, .ifCond .lt 23, 3, 28, 0), (8, .iload_n 2, 1, 0, 0), (9, .i2l, 1, 0, 0), (10, .iload_n 3, 1, 0, 0), (11, .i2l, 1, 0, 0), 
  (12, .ladd, 1, 0, 0), (13, .aload_n 0, 1, 0, 0), (14, .getfield 38, 3, 9, 13), (17, .iload_n 1, 1, 0, 0), (18, .iaload, 1, 0, 0), (19, .i2l, 1, 0, 0), (20, .lcmp, 1, 0, 0), (21, .ifCond .gt 7, 3, 28, 0), 
  (24, .iconst 1, 1, 0, 0), (25, .goto 4, 3, 29, 0), (28, .iconst 0, 1, 0, 0), (29, .ireturn, 1, 0, 0)]
abbrev hX9_isSpan : xHd := (yX9_isSpan, cX9_isSpan, 4, some .boolean)
theorem kX9_isSpan : xck hX9_isSpan rX9_isSpan = true := by decide +kernel
def rX9_splice : List xRow := [(0, .iload_n 1, 1, 0, 0), (1, .invokestatic 341, 3, 210, 1), (4, .ifCond .eq 10, 3, 14, 0), (7, .iload_n 3, 1, 0, 0), (8, .invokestatic 341, 3, 210, 1), (11, .ifCond .ne 6, 3, 17, 0), (14, .bipush (-2), 2, 0, 0), (16, .ireturn, 1, 0, 0), 
  (17, .aload_n 0, 1, 0, 0), (18, .getfield 38, 3, 9, 13), (21, .iload_n 1, 1, 0, 0), (22, .iaload, 1, 0, 0), (23, .ifCond .lt 12, 3, 35, 0), (26, .aload_n 0, 1, 0, 0), (27, .getfield 38, 3, 9, 13), (30, .iload_n 3, 1, 0, 0), 
  (31, .iaload, 1, 0, 0), (32, .ifCond .ge 6, 3, 38, 0), (35, .bipush (-11), 2, 0, 0), (37, .ireturn, 1, 0, 0), (38, .aload_n 0, 1, 0, 0), (39, .getfield 41, 3, 9, 14), (42, .iload_n 1, 1, 0, 0), (43, .iaload, 1, 0, 0), 
  (44, .aload_n 0, 1, 0, 0), (45, .getfield 41, 3, 9, 14), (48, .iload_n 3, 1, 0, 0), (49, .iaload, 1, 0, 0), (50, .if_icmp .eq 6, 3, 56, 0), (53, .bipush (-13), 2, 0, 0), (55, .ireturn, 1, 0, 0), (56, .aload_n 0, 1, 0, 0), 
  (57, .iload_n 1, 1, 0, 0), (58, .iload_n 2, 1, 0, 0), (59, .iload 5, 2, 0, 0), (61, .invokevirtual 350, 3, 215, 3), (64, .ifCond .eq 15, 3, 79, 0), (67, .aload_n 0, 1, 0, 0), (68, .iload_n 3, 1, 0, 0), (69, .iload 4, 2, 0, 0), 
  (71, .iload 5, 2, 0, 0), (73, .invokevirtual 350, 3, 215, 3), (76, .ifCond .ne 6, 3, 82, 0), (79, .bipush (-14), 2, 0, 0), (81, .ireturn, 1, 0, 0), (82, .iconst 0, 1, 0, 0), (83, .istore 6, 2, 0, 0), (85, .iload 6, 2, 0, 0), 
  (87, .iload 5, 2, 0, 0), (89, .if_icmp .ge 30, 3, 119, 0), (92, .aload_n 0, 1, 0, 0), (93, .getfield 104, 3, 9, 41), (96, .iload 6, 2, 0, 0), (98, .aload_n 0, 1, 0, 0), (99, .getfield 44, 3, 9, 15), (102, .bipush 12, 2, 0, 0), 
  (104, .iload_n 1, 1, 0, 0), (105, .imul, 1, 0, 0), (106, .iload_n 2, 1, 0, 0), (107, .iadd, 1, 0, 0), (108, .iload 6, 2, 0, 0), (110, .iadd, 1, 0, 0), (111, .iaload, 1, 0, 0), (112, .iastore, 1, 0, 0), 
  (113, .iinc 6 1, 3, 0, 0), (116, .goto (-31), 3, 85, 0), (119, .iconst 0, 1, 0, 0), (120, .istore 6, 2, 0, 0), (122, .iload 6, 2, 0, 0), (124, .iload 5, 2, 0, 0), (126, .if_icmp .ge 31, 3, 157, 0), (129, .aload_n 0, 1, 0, 0), 
  (130, .getfield 44, 3, 9, 15), (133, .bipush 12, 2, 0, 0), (135, .iload_n 3, 1, 0, 0), (136, .imul, 1, 0, 0), (137, .iload 4, 2, 0, 0), (139, .iadd, 1, 0, 0), (140, .iload 6, 2, 0, 0), (142, .iadd, 1, 0, 0), 
  (143, .aload_n 0, 1, 0, 0), (144, .getfield 104, 3, 9, 41), (147, .iload 6, 2, 0, 0), (149, .iaload, 1, 0, 0), (150, .iastore, 1, 0, 0), (151, .iinc 6 1, 3, 0, 0), (154, .goto (-32), 3, 122, 0), (157, .iload 5, 2, 0, 0), 
  (159, .ireturn, 1, 0, 0)]
abbrev hX9_splice : xHd := (yX9_splice, cX9_splice, 7, some .int)
theorem kX9_splice : xck hX9_splice rX9_splice = true := by decide +kernel
def rX9_drop : List xRow := [(0, .iload_n 1, 1, 0, 0), (1, .invokestatic 341, 3, 210, 1), (4, .ifCond .ne 6, 3, 10, 0), (7, .bipush (-2), 2, 0, 0), (9, .ireturn, 1, 0, 0), (10, .aload_n 0, 1, 0, 0), (11, .getfield 38, 3, 9, 13), (14, .iload_n 1, 1, 0, 0), 
  (15, .iaload, 1, 0, 0), (16, .ifCond .ge 6, 3, 22, 0), (19, .bipush (-11), 2, 0, 0), (21, .ireturn, 1, 0, 0), (22, .aload_n 0, 1, 0, 0), (23, .getfield 38, 3, 9, 13), (26, .iload_n 1, 1, 0, 0), (27, .iaload, 1, 0, 0), 
  (28, .istore_n 2, 1, 0, 0), (29, .aload_n 0, 1, 0, 0), (30, .getfield 38, 3, 9, 13), (33, .iload_n 1, 1, 0, 0), (34, .iconst (-1), 1, 0, 0), (35, .iastore, 1, 0, 0), (36, .iload_n 2, 1, 0, 0), (37, .ireturn, 1, 0, 0)]
abbrev hX9_drop : xHd := (yX9_drop, cX9_drop, 3, some .int)
theorem kX9_drop : xck hX9_drop rX9_drop = true := by decide +kernel
def rX9_menWords : List xRow := [(0, .iconst 0, 1, 0, 0), (1, .istore_n 1, 1, 0, 0), (2, .iconst 0, 1, 0, 0), (3, .istore_n 2, 1, 0, 0), (4, .iload_n 2, 1, 0, 0), (5, .aload_n 0, 1, 0, 0), (6, .getfield 7, 3, 9, 0), (9, .iconst 1, 1, 0, 0), 
  (10, .iaload, 1, 0, 0), (11, .if_icmp .ge 24, 3, 35, 0), (14, .iload_n 1, 1, 0, 0), (15, .aload_n 0, 1, 0, 0), (16, .getfield 7, 3, 9, 0), (19, .bipush 100, 2, 0, 0), (21, .iload_n 2, 1, 0, 0), (22, .iadd, 1, 0, 0), 
  (23, .iaload, 1, 0, 0), (24, .invokestatic 320, 3, 132, 1), (27, .iadd, 1, 0, 0), (28, .istore_n 1, 1, 0, 0), (29, .iinc 2 1, 3, 0, 0), (32, .goto (-28), 3, 4, 0), (35, .iload_n 1, 1, 0, 0), (36, .ireturn, 1, 0, 0)]
abbrev hX9_menWords : xHd := (yX9_menWords, cX9_menWords, 3, some .int)
theorem kX9_menWords : xck hX9_menWords rX9_menWords = true := by decide +kernel
def rX9_allWellKnown : List xRow := [(0, .iconst 0, 1, 0, 0), (1, .istore_n 1, 1, 0, 0), (2, .iconst 0, 1, 0, 0), (3, .istore_n 2, 1, 0, 0), (4, .iload_n 2, 1, 0, 0), (5, .aload_n 0, 1, 0, 0), (6, .getfield 7, 3, 9, 0), (9, .iconst 0, 1, 0, 0), 
  (10, .iaload, 1, 0, 0), (11, .if_icmp .ge 18, 3, 29, 0), (14, .iload_n 1, 1, 0, 0), (15, .aload_n 0, 1, 0, 0), (16, .iconst 0, 1, 0, 0), (17, .iload_n 2, 1, 0, 0), (18, .invokevirtual 241, 3, 171, 2), (21, .ior, 1, 0, 0), 
  (22, .istore_n 1, 1, 0, 0), (23, .iinc 2 1, 3, 0, 0), (26, .goto (-22), 3, 4, 0), (29, .iload_n 1, 1, 0, 0), (30, .ireturn, 1, 0, 0)]
abbrev hX9_allWellKnown : xHd := (yX9_allWellKnown, cX9_allWellKnown, 3, some .int)
theorem kX9_allWellKnown : xck hX9_allWellKnown rX9_allWellKnown = true := by decide +kernel
def rX9_reelsThere : List xRow := [(0, .iconst 0, 1, 0, 0), (1, .istore_n 1, 1, 0, 0), (2, .iconst 0, 1, 0, 0), (3, .istore_n 2, 1, 0, 0), (4, .iload_n 2, 1, 0, 0), (5, .iconst 3, 1, 0, 0), (6, .if_icmp .ge 26, 3, 32, 0), (9, .iload_n 1, 1, 0, 0), 
  (10, .aload_n 0, 1, 0, 0), (11, .getfield 38, 3, 9, 13), (14, .iload_n 2, 1, 0, 0), (15, .iaload, 1, 0, 0), (16, .ifCond .ge 7, 3, 23, 0), (19, .iconst 0, 1, 0, 0), (20, .goto 4, 3, 24, 0), (23, .iconst 1, 1, 0, 0), 
  (24, .iadd, 1, 0, 0), (25, .istore_n 1, 1, 0, 0), (26, .iinc 2 1, 3, 0, 0), (29, .goto (-25), 3, 4, 0), (32, .iload_n 1, 1, 0, 0), (33, .ireturn, 1, 0, 0)]
abbrev hX9_reelsThere : xHd := (yX9_reelsThere, cX9_reelsThere, 3, some .int)
theorem kX9_reelsThere : xck hX9_reelsThere rX9_reelsThere = true := by decide +kernel
def rX9_count : List xRow := [(0, .iload_n 1, 1, 0, 0), (1, .tableswitch 113 0 9 #[55, 62, 69, 76, 83, 88, 93, 98, 103, 108], 55, 0, 0), (56, .aload_n 0, 1, 0, 0), (57, .getfield 7, 3, 9, 0), (60, .iconst 0, 1, 0, 0), (61, .iaload, 1, 0, 0), (62, .ireturn, 1, 0, 0), (63, .aload_n 0, 1, 0, 0), 
  (64, .getfield 7, 3, 9, 0), (67, .iconst 1, 1, 0, 0), (68, .iaload, 1, 0, 0), (69, .ireturn, 1, 0, 0), (70, .aload_n 0, 1, 0, 0), (71, .getfield 7, 3, 9, 0), (74, .iconst 2, 1, 0, 0), (75, .iaload, 1, 0, 0), 
  (76, .ireturn, 1, 0, 0), (77, .aload_n 0, 1, 0, 0), (78, .getfield 7, 3, 9, 0), (81, .iconst 3, 1, 0, 0), (82, .iaload, 1, 0, 0), (83, .ireturn, 1, 0, 0), (84, .aload_n 0, 1, 0, 0), (85, .invokevirtual 354, 3, 218, 0), 
  (88, .ireturn, 1, 0, 0), (89, .aload_n 0, 1, 0, 0), (90, .getfield 209, 3, 9, 5), (93, .ireturn, 1, 0, 0), (94, .aload_n 0, 1, 0, 0), (95, .invokevirtual 357, 3, 220, 0), (98, .ireturn, 1, 0, 0), (99, .aload_n 0, 1, 0, 0), 
  (100, .getfield 206, 3, 9, 1), (103, .ireturn, 1, 0, 0), (104, .aload_n 0, 1, 0, 0), (105, .getfield 113, 3, 9, 4), (108, .ireturn, 1, 0, 0), (109, .aload_n 0, 1, 0, 0), (110, .invokevirtual 360, 3, 219, 0), (113, .ireturn, 1, 0, 0), 
  (114, .bipush (-3), 2, 0, 0), (116, .ireturn, 1, 0, 0)]
abbrev hX9_count : xHd := (yX9_count, cX9_count, 2, some .int)
theorem kX9_count : xck hX9_count rX9_count = true := by decide +kernel
