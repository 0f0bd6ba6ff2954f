/-! ===== the constructors: rows and tables ===== -/
abbrev kF : Type := Int32 ⊕ Option Nat
abbrev kC : Type := (Nat × List kF) ⊕ (Nat × Nat × List (Nat × Int32) × List (Nat × Nat))
abbrev kM : Type := List kC
abbrev kV : Type := Int32 ⊕ Nat
abbrev kRow : Type := Nat × Instr × Nat × Nat × Nat × Nat
def kX0 : List kRow := [(0, .aload_n 0, 1, 0, 0, 0), (1, .invokespecial 3, 3, 1001, 0, 133), (4, .aload_n 0, 1, 0, 0, 0), (5, .new 9, 3, 7, 0, 134), (8, .dup, 1, 0, 0, 0), (9, .invokespecial 11, 3, 7, 100, 0), (12, .putfield 12, 3, 0, 1, 181), (15, .aload_n 0, 1, 0, 0, 0), (16, .aload_n 1, 1, 0, 0, 0), (17, .putfield 18, 3, 0, 0, 180), (20, .return_, 1, 0, 0, 0)]
def kX1 : List kRow := [(0, .aload_n 0, 1, 0, 0, 0), (1, .invokespecial 3, 3, 1001, 0, 244), (4, .aload_n 0, 1, 0, 0, 0), (5, .bipush 8, 2, 0, 0, 0), (7, .anewarray 9, 3, 2, 0, 245), (10, .putfield 11, 3, 1, 0, 248), (13, .aload_n 0, 1, 0, 0, 0), (14, .iconst 2, 1, 0, 0, 0), (15, .anewarray 9, 3, 2, 0, 245), (18, .putfield 17, 3, 1, 1, 249), (21, .iconst 0, 1, 0, 0, 0), (22, .istore_n 1, 1, 0, 0, 0), (23, .iload_n 1, 1, 0, 0, 0), (24, .bipush 8, 2, 0, 0, 0), (26, .if_icmp .ge 22, 3, 48, 0, 0), (29, .aload_n 0, 1, 0, 0, 0), (30, .getfield 11, 3, 1, 0, 248), (33, .iload_n 1, 1, 0, 0, 0), (34, .new 9, 3, 7, 0, 245), (37, .dup, 1, 0, 0, 0), (38, .invokespecial 20, 3, 7, 100, 0), (41, .aastore, 1, 0, 0, 0), (42, .iinc 1 1, 3, 0, 0, 0), (45, .goto (-22), 3, 23, 0, 0), (48, .iconst 0, 1, 0, 0, 0), (49, .istore_n 1, 1, 0, 0, 0), (50, .iload_n 1, 1, 0, 0, 0), (51, .iconst 2, 1, 0, 0, 0), (52, .if_icmp .ge 22, 3, 74, 0, 0), (55, .aload_n 0, 1, 0, 0, 0), (56, .getfield 17, 3, 1, 1, 249), (59, .iload_n 1, 1, 0, 0, 0), (60, .new 9, 3, 7, 0, 245), (63, .dup, 1, 0, 0, 0), (64, .invokespecial 20, 3, 7, 100, 0), (67, .aastore, 1, 0, 0, 0), (68, .iinc 1 1, 3, 0, 0, 0), (71, .goto (-21), 3, 50, 0, 0), (74, .return_, 1, 0, 0, 0)]
def kX2 : List kRow := [(0, .aload_n 0, 1, 0, 0, 0), (1, .invokespecial 3, 3, 1001, 0, 291), (4, .aload_n 0, 1, 0, 0, 0), (5, .bipush 12, 2, 0, 0, 0), (7, .newarray .int, 2, 0, 0, 127), (9, .putfield 9, 3, 2, 0, 292), (12, .return_, 1, 0, 0, 0)]
def kX3 : List kRow := [(0, .aload_n 0, 1, 0, 0, 0), (1, .invokespecial 3, 3, 1001, 0, 270), (4, .aload_n 0, 1, 0, 0, 0), (5, .bipush 6, 2, 0, 0, 0), (7, .newarray .int, 2, 0, 0, 127), (9, .putfield 9, 3, 3, 0, 271), (12, .aload_n 0, 1, 0, 0, 0), (13, .bipush 6, 2, 0, 0, 0), (15, .newarray .int, 2, 0, 0, 127), (17, .putfield 15, 3, 3, 1, 272), (20, .aload_n 0, 1, 0, 0, 0), (21, .bipush 6, 2, 0, 0, 0), (23, .newarray .int, 2, 0, 0, 127), (25, .putfield 18, 3, 3, 2, 273), (28, .return_, 1, 0, 0, 0)]
def kX4 : List kRow := [(0, .aload_n 0, 1, 0, 0, 0), (1, .invokespecial 3, 3, 1001, 0, 229), (4, .aload_n 0, 1, 0, 0, 0), (5, .bipush 64, 2, 0, 0, 0), (7, .newarray .int, 2, 0, 0, 127), (9, .putfield 9, 3, 4, 0, 230), (12, .aload_n 0, 1, 0, 0, 0), (13, .iconst 4, 1, 0, 0, 0), (14, .newarray .int, 2, 0, 0, 127), (16, .putfield 15, 3, 4, 1, 231), (19, .return_, 1, 0, 0, 0)]
def kX5 : List kRow := [(0, .aload_n 0, 1, 0, 0, 0), (1, .invokespecial 3, 3, 1001, 0, 108), (4, .aload_n 0, 1, 0, 0, 0), (5, .sipush 200, 3, 0, 0, 0), (8, .newarray .int, 2, 0, 0, 127), (10, .putfield 9, 3, 5, 0, 109), (13, .return_, 1, 0, 0, 0)]
def kX6 : List kRow := [(0, .aload_n 0, 1, 0, 0, 0), (1, .invokespecial 3, 3, 1001, 0, 197), (4, .aload_n 0, 1, 0, 0, 0), (5, .sipush 200, 3, 0, 0, 0), (8, .newarray .int, 2, 0, 0, 127), (10, .putfield 9, 3, 6, 0, 198), (13, .aload_n 0, 1, 0, 0, 0), (14, .sipush 200, 3, 0, 0, 0), (17, .newarray .int, 2, 0, 0, 127), (19, .putfield 15, 3, 6, 1, 199), (22, .aload_n 0, 1, 0, 0, 0), (23, .bipush 6, 2, 0, 0, 0), (25, .newarray .int, 2, 0, 0, 127), (27, .putfield 18, 3, 6, 2, 200), (30, .aload_n 0, 1, 0, 0, 0), (31, .bipush 16, 2, 0, 0, 0), (33, .newarray .int, 2, 0, 0, 127), (35, .putfield 21, 3, 6, 3, 201), (38, .return_, 1, 0, 0, 0)]
def kX7 : List kRow := [(0, .aload_n 0, 1, 0, 0, 0), (1, .invokespecial 3, 3, 1001, 0, 139), (4, .aload_n 0, 1, 0, 0, 0), (5, .bipush 8, 2, 0, 0, 0), (7, .newarray .int, 2, 0, 0, 127), (9, .putfield 9, 3, 7, 4, 151), (12, .aload_n 0, 1, 0, 0, 0), (13, .bipush 8, 2, 0, 0, 0), (15, .newarray .int, 2, 0, 0, 127), (17, .putfield 15, 3, 7, 5, 153), (20, .aload_n 0, 1, 0, 0, 0), (21, .bipush 80, 2, 0, 0, 0), (23, .newarray .int, 2, 0, 0, 127), (25, .putfield 18, 3, 7, 6, 155), (28, .aload_n 0, 1, 0, 0, 0), (29, .iconst 4, 1, 0, 0, 0), (30, .newarray .int, 2, 0, 0, 127), (32, .putfield 21, 3, 7, 7, 157), (35, .aload_n 0, 1, 0, 0, 0), (36, .iconst 4, 1, 0, 0, 0), (37, .newarray .int, 2, 0, 0, 127), (39, .putfield 24, 3, 7, 8, 159), (42, .return_, 1, 0, 0, 0)]
def kX8 : List kRow := [(0, .aload_n 0, 1, 0, 0, 0), (1, .invokespecial 1, 3, 1001, 0, 100), (4, .aload_n 0, 1, 0, 0, 0), (5, .new 7, 3, 5, 0, 103), (8, .dup, 1, 0, 0, 0), (9, .invokespecial 9, 3, 5, 100, 0), (12, .putfield 10, 3, 8, 0, 309), (15, .aload_n 0, 1, 0, 0, 0), (16, .new 16, 3, 0, 0, 128), (19, .dup, 1, 0, 0, 0), (20, .aload_n 0, 1, 0, 0, 0), (21, .getfield 10, 3, 8, 0, 309), (24, .invokespecial 18, 3, 0, 1, 130), (27, .putfield 21, 3, 8, 1, 310), (30, .aload_n 0, 1, 0, 0, 0), (31, .new 25, 3, 6, 0, 192), (34, .dup, 1, 0, 0, 0), (35, .invokespecial 27, 3, 6, 100, 0), (38, .putfield 28, 3, 8, 2, 311), (41, .aload_n 0, 1, 0, 0, 0), (42, .new 32, 3, 7, 0, 222), (45, .dup, 1, 0, 0, 0), (46, .invokespecial 34, 3, 7, 100, 0), (49, .putfield 35, 3, 8, 3, 312), (52, .aload_n 0, 1, 0, 0, 0), (53, .new 32, 3, 7, 0, 222), (56, .dup, 1, 0, 0, 0), (57, .invokespecial 34, 3, 7, 100, 0), (60, .putfield 39, 3, 8, 4, 313), (63, .aload_n 0, 1, 0, 0, 0), (64, .new 32, 3, 7, 0, 222), (67, .dup, 1, 0, 0, 0), (68, .invokespecial 34, 3, 7, 100, 0), (71, .putfield 42, 3, 8, 5, 314), (74, .aload_n 0, 1, 0, 0, 0), (75, .new 45, 3, 4, 0, 224), (78, .dup, 1, 0, 0, 0), (79, .invokespecial 47, 3, 4, 100, 0), (82, .putfield 48, 3, 8, 6, 315), (85, .aload_n 0, 1, 0, 0, 0), (86, .new 52, 3, 1, 0, 239), (89, .dup, 1, 0, 0, 0), (90, .invokespecial 54, 3, 1, 0, 241), (93, .putfield 55, 3, 8, 7, 316), (96, .aload_n 0, 1, 0, 0, 0), (97, .new 59, 3, 3, 0, 265), (100, .dup, 1, 0, 0, 0), (101, .invokespecial 61, 3, 3, 100, 0), (104, .putfield 62, 3, 8, 8, 317), (107, .aload_n 0, 1, 0, 0, 0), (108, .iconst 3, 1, 0, 0, 0), (109, .anewarray 66, 3, 3, 0, 285), (112, .putfield 68, 3, 8, 9, 318), (115, .iconst 0, 1, 0, 0, 0), (116, .istore_n 1, 1, 0, 0, 0), (117, .iload_n 1, 1, 0, 0, 0), (118, .iconst 3, 1, 0, 0, 0), (119, .if_icmp .ge 22, 3, 141, 0, 0), (122, .aload_n 0, 1, 0, 0, 0), (123, .getfield 68, 3, 8, 9, 318), (126, .iload_n 1, 1, 0, 0, 0), (127, .new 66, 3, 2, 0, 285), (130, .dup, 1, 0, 0, 0), (131, .invokespecial 72, 3, 2, 100, 0), (134, .aastore, 1, 0, 0, 0), (135, .iinc 1 1, 3, 0, 0, 0), (138, .goto (-21), 3, 117, 0, 0), (141, .aload_n 0, 1, 0, 0, 0), (142, .bipush 32, 2, 0, 0, 0), (144, .newarray .int, 2, 0, 0, 127), (146, .putfield 73, 3, 8, 10, 319), (149, .return_, 1, 0, 0, 0)]
def kX9 : List kRow := [(0, .aload_n 0, 1, 0, 0, 0), (1, .invokespecial 1, 3, 1001, 0, 934), (4, .aload_n 0, 1, 0, 0, 0), (5, .sipush 1404, 3, 0, 0, 0), (8, .newarray .int, 2, 0, 0, 127), (10, .putfield 7, 3, 9, 0, 935), (13, .aload_n 0, 1, 0, 0, 0), (14, .iconst 2, 1, 0, 0, 0), (15, .newarray .boolean, 2, 1, 0, 1062), (17, .putfield 13, 3, 9, 2, 937), (20, .aload_n 0, 1, 0, 0, 0), (21, .sipush 200, 3, 0, 0, 0), (24, .newarray .int, 2, 0, 0, 127), (26, .putfield 17, 3, 9, 3, 938), (29, .aload_n 0, 1, 0, 0, 0), (30, .bipush 6, 2, 0, 0, 0), (32, .newarray .int, 2, 0, 0, 127), (34, .putfield 20, 3, 9, 6, 941), (37, .aload_n 0, 1, 0, 0, 0), (38, .bipush 6, 2, 0, 0, 0), (40, .newarray .int, 2, 0, 0, 127), (42, .putfield 23, 3, 9, 7, 942), (45, .aload_n 0, 1, 0, 0, 0), (46, .bipush 6, 2, 0, 0, 0), (48, .newarray .int, 2, 0, 0, 127), (50, .putfield 26, 3, 9, 8, 943), (53, .aload_n 0, 1, 0, 0, 0), (54, .sipush 202, 3, 0, 0, 0), (57, .newarray .int, 2, 0, 0, 127), (59, .putfield 29, 3, 9, 10, 945), (62, .aload_n 0, 1, 0, 0, 0), (63, .sipush 202, 3, 0, 0, 0), (66, .newarray .int, 2, 0, 0, 127), (68, .putfield 32, 3, 9, 11, 946), (71, .aload_n 0, 1, 0, 0, 0), (72, .sipush 202, 3, 0, 0, 0), (75, .newarray .int, 2, 0, 0, 127), (77, .putfield 35, 3, 9, 12, 947), (80, .aload_n 0, 1, 0, 0, 0), (81, .iconst 3, 1, 0, 0, 0), (82, .newarray .int, 2, 0, 0, 127), (84, .dup, 1, 0, 0, 0), (85, .iconst 0, 1, 0, 0, 0), (86, .iconst (-1), 1, 0, 0, 0), (87, .iastore, 1, 0, 0, 0), (88, .dup, 1, 0, 0, 0), (89, .iconst 1, 1, 0, 0, 0), (90, .iconst (-1), 1, 0, 0, 0), (91, .iastore, 1, 0, 0, 0), (92, .dup, 1, 0, 0, 0), (93, .iconst 2, 1, 0, 0, 0), (94, .iconst (-1), 1, 0, 0, 0), (95, .iastore, 1, 0, 0, 0), (96, .putfield 38, 3, 9, 13, 948), (99, .aload_n 0, 1, 0, 0, 0), (100, .iconst 3, 1, 0, 0, 0), (101, .newarray .int, 2, 0, 0, 127), (103, .putfield 41, 3, 9, 14, 949), (106, .aload_n 0, 1, 0, 0, 0), (107, .bipush 36, 2, 0, 0, 0), (109, .newarray .int, 2, 0, 0, 127), (111, .putfield 44, 3, 9, 15, 950), (114, .aload_n 0, 1, 0, 0, 0), (115, .iconst 4, 1, 0, 0, 0), (116, .newarray .int, 2, 0, 0, 127), (118, .putfield 47, 3, 9, 20, 955), (121, .aload_n 0, 1, 0, 0, 0), (122, .bipush 7, 2, 0, 0, 0), (124, .newarray .int, 2, 0, 0, 127), (126, .dup, 1, 0, 0, 0), (127, .iconst 0, 1, 0, 0, 0), (128, .bipush 104, 2, 0, 0, 0), (130, .iastore, 1, 0, 0, 0), (131, .dup, 1, 0, 0, 0), (132, .iconst 1, 1, 0, 0, 0), (133, .bipush 97, 2, 0, 0, 0), (135, .iastore, 1, 0, 0, 0), (136, .dup, 1, 0, 0, 0), (137, .iconst 2, 1, 0, 0, 0), (138, .bipush 114, 2, 0, 0, 0), (140, .iastore, 1, 0, 0, 0), (141, .dup, 1, 0, 0, 0), (142, .iconst 3, 1, 0, 0, 0), (143, .bipush 98, 2, 0, 0, 0), (145, .iastore, 1, 0, 0, 0), (146, .dup, 1, 0, 0, 0), (147, .iconst 4, 1, 0, 0, 0), (148, .bipush 111, 2, 0, 0, 0), (150, .iastore, 1, 0, 0, 0), (151, .dup, 1, 0, 0, 0), (152, .iconst 5, 1, 0, 0, 0), (153, .bipush 117, 2, 0, 0, 0), (155, .iastore, 1, 0, 0, 0), (156, .dup, 1, 0, 0, 0), (157, .bipush 6, 2, 0, 0, 0), (159, .bipush 114, 2, 0, 0, 0), (161, .iastore, 1, 0, 0, 0), (162, .putfield 50, 3, 9, 23, 958), (165, .aload_n 0, 1, 0, 0, 0), (166, .bipush 6, 2, 0, 0, 0), (168, .newarray .int, 2, 0, 0, 127), (170, .dup, 1, 0, 0, 0), (171, .iconst 0, 1, 0, 0, 0), (172, .bipush 112, 2, 0, 0, 0), (174, .iastore, 1, 0, 0, 0), (175, .dup, 1, 0, 0, 0), (176, .iconst 1, 1, 0, 0, 0), (177, .bipush 97, 2, 0, 0, 0), (179, .iastore, 1, 0, 0, 0), (180, .dup, 1, 0, 0, 0), (181, .iconst 2, 1, 0, 0, 0), (182, .bipush 114, 2, 0, 0, 0), (184, .iastore, 1, 0, 0, 0), (185, .dup, 1, 0, 0, 0), (186, .iconst 3, 1, 0, 0, 0), (187, .bipush 114, 2, 0, 0, 0), (189, .iastore, 1, 0, 0, 0), (190, .dup, 1, 0, 0, 0), (191, .iconst 4, 1, 0, 0, 0), (192, .bipush 111, 2, 0, 0, 0), (194, .iastore, 1, 0, 0, 0), (195, .dup, 1, 0, 0, 0), (196, .iconst 5, 1, 0, 0, 0), (197, .bipush 116, 2, 0, 0, 0), (199, .iastore, 1, 0, 0, 0), (200, .putfield 53, 3, 9, 24, 959), (203, .aload_n 0, 1, 0, 0, 0), (204, .iconst 4, 1, 0, 0, 0), (205, .newarray .int, 2, 0, 0, 127), (207, .dup, 1, 0, 0, 0), (208, .iconst 0, 1, 0, 0, 0), (209, .bipush 103, 2, 0, 0, 0), (211, .iastore, 1, 0, 0, 0), (212, .dup, 1, 0, 0, 0), (213, .iconst 1, 1, 0, 0, 0), (214, .bipush 114, 2, 0, 0, 0), (216, .iastore, 1, 0, 0, 0), (217, .dup, 1, 0, 0, 0), (218, .iconst 2, 1, 0, 0, 0), (219, .bipush 101, 2, 0, 0, 0), (221, .iastore, 1, 0, 0, 0), (222, .dup, 1, 0, 0, 0), (223, .iconst 3, 1, 0, 0, 0), (224, .bipush 121, 2, 0, 0, 0), (226, .iastore, 1, 0, 0, 0), (227, .putfield 56, 3, 9, 25, 960), (230, .aload_n 0, 1, 0, 0, 0), (231, .bipush 8, 2, 0, 0, 0), (233, .newarray .int, 2, 0, 0, 127), (235, .dup, 1, 0, 0, 0), (236, .iconst 0, 1, 0, 0, 0), (237, .bipush 99, 2, 0, 0, 0), (239, .iastore, 1, 0, 0, 0), (240, .dup, 1, 0, 0, 0), (241, .iconst 1, 1, 0, 0, 0), (242, .bipush 111, 2, 0, 0, 0), (244, .iastore, 1, 0, 0, 0), (245, .dup, 1, 0, 0, 0), (246, .iconst 2, 1, 0, 0, 0), (247, .bipush 99, 2, 0, 0, 0), (249, .iastore, 1, 0, 0, 0), (250, .dup, 1, 0, 0, 0), (251, .iconst 3, 1, 0, 0, 0), (252, .bipush 107, 2, 0, 0, 0), (254, .iastore, 1, 0, 0, 0), (255, .dup, 1, 0, 0, 0), (256, .iconst 4, 1, 0, 0, 0), (257, .bipush 97, 2, 0, 0, 0), (259, .iastore, 1, 0, 0, 0), (260, .dup, 1, 0, 0, 0), (261, .iconst 5, 1, 0, 0, 0), (262, .bipush 116, 2, 0, 0, 0), (264, .iastore, 1, 0, 0, 0), (265, .dup, 1, 0, 0, 0), (266, .bipush 6, 2, 0, 0, 0), (268, .bipush 111, 2, 0, 0, 0), (270, .iastore, 1, 0, 0, 0), (271, .dup, 1, 0, 0, 0), (272, .bipush 7, 2, 0, 0, 0), (274, .bipush 111, 2, 0, 0, 0), (276, .iastore, 1, 0, 0, 0), (277, .putfield 59, 3, 9, 26, 961), (280, .aload_n 0, 1, 0, 0, 0), (281, .iconst 4, 1, 0, 0, 0), (282, .newarray .int, 2, 0, 0, 127), (284, .dup, 1, 0, 0, 0), (285, .iconst 0, 1, 0, 0, 0), (286, .bipush 104, 2, 0, 0, 0), (288, .iastore, 1, 0, 0, 0), (289, .dup, 1, 0, 0, 0), (290, .iconst 1, 1, 0, 0, 0), (291, .bipush 97, 2, 0, 0, 0), (293, .iastore, 1, 0, 0, 0), (294, .dup, 1, 0, 0, 0), (295, .iconst 2, 1, 0, 0, 0), (296, .bipush 119, 2, 0, 0, 0), (298, .iastore, 1, 0, 0, 0), (299, .dup, 1, 0, 0, 0), (300, .iconst 3, 1, 0, 0, 0), (301, .bipush 107, 2, 0, 0, 0), (303, .iastore, 1, 0, 0, 0), (304, .putfield 62, 3, 9, 27, 962), (307, .aload_n 0, 1, 0, 0, 0), (308, .iconst 5, 1, 0, 0, 0), (309, .newarray .int, 2, 0, 0, 127), (311, .dup, 1, 0, 0, 0), (312, .iconst 0, 1, 0, 0, 0), (313, .bipush 103, 2, 0, 0, 0), (315, .iastore, 1, 0, 0, 0), (316, .dup, 1, 0, 0, 0), (317, .iconst 1, 1, 0, 0, 0), (318, .bipush 114, 2, 0, 0, 0), (320, .iastore, 1, 0, 0, 0), (321, .dup, 1, 0, 0, 0), (322, .iconst 2, 1, 0, 0, 0), (323, .bipush 101, 2, 0, 0, 0), (325, .iastore, 1, 0, 0, 0), (326, .dup, 1, 0, 0, 0), (327, .iconst 3, 1, 0, 0, 0), (328, .bipush 101, 2, 0, 0, 0), (330, .iastore, 1, 0, 0, 0), (331, .dup, 1, 0, 0, 0), (332, .iconst 4, 1, 0, 0, 0), (333, .bipush 110, 2, 0, 0, 0), (335, .iastore, 1, 0, 0, 0), (336, .putfield 65, 3, 9, 28, 963), (339, .aload_n 0, 1, 0, 0, 0), (340, .iconst 3, 1, 0, 0, 0), (341, .newarray .int, 2, 0, 0, 127), (343, .dup, 1, 0, 0, 0), (344, .iconst 0, 1, 0, 0, 0), (345, .bipush 109, 2, 0, 0, 0), (347, .iastore, 1, 0, 0, 0), (348, .dup, 1, 0, 0, 0), (349, .iconst 1, 1, 0, 0, 0), (350, .bipush 97, 2, 0, 0, 0), (352, .iastore, 1, 0, 0, 0), (353, .dup, 1, 0, 0, 0), (354, .iconst 2, 1, 0, 0, 0), (355, .bipush 110, 2, 0, 0, 0), (357, .iastore, 1, 0, 0, 0), (358, .putfield 68, 3, 9, 29, 964), (361, .aload_n 0, 1, 0, 0, 0), (362, .iconst 5, 1, 0, 0, 0), (363, .newarray .int, 2, 0, 0, 127), (365, .dup, 1, 0, 0, 0), (366, .iconst 0, 1, 0, 0, 0), (367, .bipush 107, 2, 0, 0, 0), (369, .iastore, 1, 0, 0, 0), (370, .dup, 1, 0, 0, 0), (371, .iconst 1, 1, 0, 0, 0), (372, .bipush 110, 2, 0, 0, 0), (374, .iastore, 1, 0, 0, 0), (375, .dup, 1, 0, 0, 0), (376, .iconst 2, 1, 0, 0, 0), (377, .bipush 111, 2, 0, 0, 0), (379, .iastore, 1, 0, 0, 0), (380, .dup, 1, 0, 0, 0), (381, .iconst 3, 1, 0, 0, 0), (382, .bipush 119, 2, 0, 0, 0), (384, .iastore, 1, 0, 0, 0), (385, .dup, 1, 0, 0, 0), (386, .iconst 4, 1, 0, 0, 0), (387, .bipush 115, 2, 0, 0, 0), (389, .iastore, 1, 0, 0, 0), (390, .putfield 71, 3, 9, 30, 965), (393, .aload_n 0, 1, 0, 0, 0), (394, .iconst 4, 1, 0, 0, 0), (395, .newarray .int, 2, 0, 0, 127), (397, .dup, 1, 0, 0, 0), (398, .iconst 0, 1, 0, 0, 0), (399, .bipush 115, 2, 0, 0, 0), (401, .iastore, 1, 0, 0, 0), (402, .dup, 1, 0, 0, 0), (403, .iconst 1, 1, 0, 0, 0), (404, .bipush 105, 2, 0, 0, 0), (406, .iastore, 1, 0, 0, 0), (407, .dup, 1, 0, 0, 0), (408, .iconst 2, 1, 0, 0, 0), (409, .bipush 116, 2, 0, 0, 0), (411, .iastore, 1, 0, 0, 0), (412, .dup, 1, 0, 0, 0), (413, .iconst 3, 1, 0, 0, 0), (414, .bipush 115, 2, 0, 0, 0), (416, .iastore, 1, 0, 0, 0), (417, .putfield 74, 3, 9, 31, 966), (420, .aload_n 0, 1, 0, 0, 0), (421, .iconst 5, 1, 0, 0, 0), (422, .newarray .int, 2, 0, 0, 127), (424, .dup, 1, 0, 0, 0), (425, .iconst 0, 1, 0, 0, 0), (426, .bipush 99, 2, 0, 0, 0), (428, .iastore, 1, 0, 0, 0), (429, .dup, 1, 0, 0, 0), (430, .iconst 1, 1, 0, 0, 0), (431, .bipush 111, 2, 0, 0, 0), (433, .iastore, 1, 0, 0, 0), (434, .dup, 1, 0, 0, 0), (435, .iconst 2, 1, 0, 0, 0), (436, .bipush 118, 2, 0, 0, 0), (438, .iastore, 1, 0, 0, 0), (439, .dup, 1, 0, 0, 0), (440, .iconst 3, 1, 0, 0, 0), (441, .bipush 101, 2, 0, 0, 0), (443, .iastore, 1, 0, 0, 0), (444, .dup, 1, 0, 0, 0), (445, .iconst 4, 1, 0, 0, 0), (446, .bipush 114, 2, 0, 0, 0), (448, .iastore, 1, 0, 0, 0), (449, .putfield 77, 3, 9, 32, 967), (452, .aload_n 0, 1, 0, 0, 0), (453, .bipush 8, 2, 0, 0, 0), (455, .newarray .int, 2, 0, 0, 127), (457, .putfield 80, 3, 9, 33, 968), (460, .aload_n 0, 1, 0, 0, 0), (461, .sipush 203, 3, 0, 0, 0), (464, .newarray .boolean, 2, 1, 0, 1062), (466, .putfield 83, 3, 9, 34, 969), (469, .aload_n 0, 1, 0, 0, 0), (470, .sipush 203, 3, 0, 0, 0), (473, .newarray .boolean, 2, 1, 0, 1062), (475, .putfield 86, 3, 9, 35, 970), (478, .aload_n 0, 1, 0, 0, 0), (479, .bipush 64, 2, 0, 0, 0), (481, .newarray .int, 2, 0, 0, 127), (483, .putfield 89, 3, 9, 36, 971), (486, .aload_n 0, 1, 0, 0, 0), (487, .iconst 4, 1, 0, 0, 0), (488, .newarray .int, 2, 0, 0, 127), (490, .putfield 92, 3, 9, 37, 972), (493, .aload_n 0, 1, 0, 0, 0), (494, .bipush 32, 2, 0, 0, 0), (496, .newarray .int, 2, 0, 0, 127), (498, .putfield 95, 3, 9, 38, 973), (501, .aload_n 0, 1, 0, 0, 0), (502, .iconst 4, 1, 0, 0, 0), (503, .newarray .int, 2, 0, 0, 127), (505, .putfield 98, 3, 9, 39, 974), (508, .aload_n 0, 1, 0, 0, 0), (509, .iconst 4, 1, 0, 0, 0), (510, .newarray .int, 2, 0, 0, 127), (512, .putfield 101, 3, 9, 40, 975), (515, .aload_n 0, 1, 0, 0, 0), (516, .bipush 12, 2, 0, 0, 0), (518, .newarray .int, 2, 0, 0, 127), (520, .putfield 104, 3, 9, 41, 976), (523, .return_, 1, 0, 0, 0)]
def krs : List (List kRow) := [kX0, kX1, kX2, kX3, kX4, kX5, kX6, kX7, kX8, kX9]
def kmh : List (xHd × Nat × Nat × Nat × Nat × Nat × Nat) := [((yX0_init, cX0_init, 2, none), 6, 113, 2, 132, 131, 80),
  ((yX1_init, cX1_init, 2, none), 62, 1140, 2, 243, 242, 84),
  ((yX2_init, cX2_init, 1, none), 1, 12, 1, 290, 289, 86),
  ((yX3_init, cX3_init, 1, none), 3, 18, 1, 269, 268, 85),
  ((yX4_init, cX4_init, 1, none), 2, 68, 1, 228, 227, 83),
  ((yX5_init, cX5_init, 1, none), 1, 200, 1, 107, 106, 79),
  ((yX6_init, cX6_init, 1, none), 4, 422, 1, 196, 195, 82),
  ((yX7_init, cX7_init, 1, none), 5, 104, 1, 138, 137, 81),
  ((yX8_init, cX8_init, 2, none), 110, 2408, 3, 99, 98, 78),
  ((yX9_init, cX9_init, 1, none), 32, 2861, 1, 933, 932, 87)]
def kdf : List (List kF) := [[.inr none, .inr none, .inl 0],
  [.inr none, .inr none, .inl 0, .inl 0, .inl 0],
  [.inr none, .inl 0, .inl 0, .inl 0],
  [.inr none, .inr none, .inr none, .inl 0],
  [.inr none, .inr none],
  [.inr none, .inl 0, .inl 0, .inl 0],
  [.inr none, .inr none, .inr none, .inr none, .inl 0, .inl 0, .inl 0],
  [.inl 0, .inl 0, .inl 0, .inl 0, .inr none, .inr none, .inr none, .inr none, .inr none],
  [.inr none, .inr none, .inr none, .inr none, .inr none, .inr none, .inr none, .inr none, .inr none, .inr none, .inr none],
  [.inr none, .inl 0, .inr none, .inr none, .inl 0, .inl 0, .inr none, .inr none, .inr none, .inl 0, .inr none, .inr none, .inr none, .inr none, .inr none, .inr none, .inl 0, .inl 0, .inl 0, .inl 0, .inr none, .inl 0, .inl 0, .inr none, .inr none, .inr none, .inr none, .inr none, .inr none, .inr none, .inr none, .inr none, .inr none, .inr none, .inr none, .inr none, .inr none, .inr none, .inr none, .inr none, .inr none, .inr none]]
def kclp : List (Nat × Nat) := [(129, 80), (240, 84), (287, 86), (266, 85), (225, 83), (104, 79), (193, 82), (135, 81), (96, 78), (930, 87)]
def knm : List (String × Nat × MethodName) := [("ParrotSpeech", 9, yX5_init), ("ParrotSpeech$HarbourReader", 11, yX7_init), ("ParrotSpeech", 27, yX6_init), ("ParrotSpeech", 34, yX7_init), ("ParrotSpeech", 47, yX4_init), ("ParrotSpeech$History", 20, yX7_init), ("ParrotSpeech", 61, yX3_init), ("ParrotSpeech", 72, yX2_init)]
abbrev kpc : Nat × Nat := (101, 102)
theorem kd0 (r : Nat → Nat) : ∀ j, j < 3 → defaultValue (tyX0 j) = vp_V ((kdf.getD 0 []).map (fun v => match v with
  | .inl y => Value.int y
  | .inr none => .null
  | .inr (some q) => .ref (r q))) j := by
  intro j hj
  match j, hj with
  | 0, _ => rfl
  | 1, _ => rfl
  | 2, _ => rfl
  | j + 3, h => exact absurd h (by omega)
theorem kd1 (r : Nat → Nat) : ∀ j, j < 5 → defaultValue (tyX1 j) = vp_V ((kdf.getD 1 []).map (fun v => match v with
  | .inl y => Value.int y
  | .inr none => .null
  | .inr (some q) => .ref (r q))) j := by
  intro j hj
  match j, hj with
  | 0, _ => rfl
  | 1, _ => rfl
  | 2, _ => rfl
  | 3, _ => rfl
  | 4, _ => rfl
  | j + 5, h => exact absurd h (by omega)
theorem kd2 (r : Nat → Nat) : ∀ j, j < 4 → defaultValue (tyX2 j) = vp_V ((kdf.getD 2 []).map (fun v => match v with
  | .inl y => Value.int y
  | .inr none => .null
  | .inr (some q) => .ref (r q))) j := by
  intro j hj
  match j, hj with
  | 0, _ => rfl
  | 1, _ => rfl
  | 2, _ => rfl
  | 3, _ => rfl
  | j + 4, h => exact absurd h (by omega)
theorem kd3 (r : Nat → Nat) : ∀ j, j < 4 → defaultValue (tyX3 j) = vp_V ((kdf.getD 3 []).map (fun v => match v with
  | .inl y => Value.int y
  | .inr none => .null
  | .inr (some q) => .ref (r q))) j := by
  intro j hj
  match j, hj with
  | 0, _ => rfl
  | 1, _ => rfl
  | 2, _ => rfl
  | 3, _ => rfl
  | j + 4, h => exact absurd h (by omega)
theorem kd4 (r : Nat → Nat) : ∀ j, j < 2 → defaultValue (tyX4 j) = vp_V ((kdf.getD 4 []).map (fun v => match v with
  | .inl y => Value.int y
  | .inr none => .null
  | .inr (some q) => .ref (r q))) j := by
  intro j hj
  match j, hj with
  | 0, _ => rfl
  | 1, _ => rfl
  | j + 2, h => exact absurd h (by omega)
theorem kd5 (r : Nat → Nat) : ∀ j, j < 4 → defaultValue (tyX5 j) = vp_V ((kdf.getD 5 []).map (fun v => match v with
  | .inl y => Value.int y
  | .inr none => .null
  | .inr (some q) => .ref (r q))) j := by
  intro j hj
  match j, hj with
  | 0, _ => rfl
  | 1, _ => rfl
  | 2, _ => rfl
  | 3, _ => rfl
  | j + 4, h => exact absurd h (by omega)
theorem kd6 (r : Nat → Nat) : ∀ j, j < 7 → defaultValue (tyX6 j) = vp_V ((kdf.getD 6 []).map (fun v => match v with
  | .inl y => Value.int y
  | .inr none => .null
  | .inr (some q) => .ref (r q))) j := by
  intro j hj
  match j, hj with
  | 0, _ => rfl
  | 1, _ => rfl
  | 2, _ => rfl
  | 3, _ => rfl
  | 4, _ => rfl
  | 5, _ => rfl
  | 6, _ => rfl
  | j + 7, h => exact absurd h (by omega)
theorem kd7 (r : Nat → Nat) : ∀ j, j < 9 → defaultValue (tyX7 j) = vp_V ((kdf.getD 7 []).map (fun v => match v with
  | .inl y => Value.int y
  | .inr none => .null
  | .inr (some q) => .ref (r q))) j := by
  intro j hj
  match j, hj with
  | 0, _ => rfl
  | 1, _ => rfl
  | 2, _ => rfl
  | 3, _ => rfl
  | 4, _ => rfl
  | 5, _ => rfl
  | 6, _ => rfl
  | 7, _ => rfl
  | 8, _ => rfl
  | j + 9, h => exact absurd h (by omega)
theorem kd8 (r : Nat → Nat) : ∀ j, j < 11 → defaultValue (tyX8 j) = vp_V ((kdf.getD 8 []).map (fun v => match v with
  | .inl y => Value.int y
  | .inr none => .null
  | .inr (some q) => .ref (r q))) j := by
  intro j hj
  match j, hj with
  | 0, _ => rfl
  | 1, _ => rfl
  | 2, _ => rfl
  | 3, _ => rfl
  | 4, _ => rfl
  | 5, _ => rfl
  | 6, _ => rfl
  | 7, _ => rfl
  | 8, _ => rfl
  | 9, _ => rfl
  | 10, _ => rfl
  | j + 11, h => exact absurd h (by omega)
theorem kd9 (r : Nat → Nat) : ∀ j, j < 42 → defaultValue (tyX9 j) = vp_V ((kdf.getD 9 []).map (fun v => match v with
  | .inl y => Value.int y
  | .inr none => .null
  | .inr (some q) => .ref (r q))) j := by
  intro j hj
  match j, hj with
  | 0, _ => rfl
  | 1, _ => rfl
  | 2, _ => rfl
  | 3, _ => rfl
  | 4, _ => rfl
  | 5, _ => rfl
  | 6, _ => rfl
  | 7, _ => rfl
  | 8, _ => rfl
  | 9, _ => rfl
  | 10, _ => rfl
  | 11, _ => rfl
  | 12, _ => rfl
  | 13, _ => rfl
  | 14, _ => rfl
  | 15, _ => rfl
  | 16, _ => rfl
  | 17, _ => rfl
  | 18, _ => rfl
  | 19, _ => rfl
  | 20, _ => rfl
  | 21, _ => rfl
  | 22, _ => rfl
  | 23, _ => rfl
  | 24, _ => rfl
  | 25, _ => rfl
  | 26, _ => rfl
  | 27, _ => rfl
  | 28, _ => rfl
  | 29, _ => rfl
  | 30, _ => rfl
  | 31, _ => rfl
  | 32, _ => rfl
  | 33, _ => rfl
  | 34, _ => rfl
  | 35, _ => rfl
  | 36, _ => rfl
  | 37, _ => rfl
  | 38, _ => rfl
  | 39, _ => rfl
  | 40, _ => rfl
  | 41, _ => rfl
  | j + 42, h => exact absurd h (by omega)
