/-! ===== the constructors: table, codes ===== -/
def kT : List (MethodName × ByteArray × Nat × Nat × Nat × Nat × List Nat) := [(yX10_init, cX10_init, 1, 10, 1, 940, [105, 137, 0, 138]), (yX9_init, cX9_init, 2, 9, 0, 0, [106, 191, 0, 192]), (yX3_init, cX3_init, 2, 3, 2, 16, [108, 219, 0, 220]), (yX8_clear, cX8_clear, 1, 8, 0, 0, [107, 242, 243, 244]), (yX8_init, cX8_init, 1, 8, 16, 112, [107, 213, 0, 214]), (yX7_init, cX7_init, 1, 7, 3, 21, [110, 355, 0, 356]), (yX7_begin, cX7_begin, 3, 7, 0, 0, [110, 418, 419, 420]), (yX4_init, cX4_init, 2, 4, 33, 288, [111, 424, 0, 425]), (yX6_init, cX6_init, 1, 6, 4, 140, [112, 444, 0, 445]), (yX1_init, cX1_init, 1, 1, 4, 160, [113, 472, 0, 473]), (yX5_init, cX5_init, 1, 5, 15, 97, [114, 512, 0, 513]), (yX2_init, cX2_init, 1, 2, 26, 311, [115, 556, 0, 557]), (yX12_init, cX12_init, 2, 12, 165, 2779, [104, 129, 0, 130]), (yX13_clears, cX13_clears, 2, 13, 0, 0, [116, 1481, 35, 1482]), (yX13_init, cX13_init, 2, 13, 19, 2665, [116, 1453, 0, 1454])]
def kE (k : Nat) : MethodName × ByteArray × Nat × Nat × Nat × Nat × List Nat := kT.getD k (yX10_init, cX10_init, 0, 0, 0, 0, [])
def kN (k : Nat) : MethodName := (kE k).1
def kB (k : Nat) : ByteArray := (kE k).2.1
def kM (k : Nat) : Nat := (kE k).2.2.1
def kCn (k : Nat) : Nat := (kE k).2.2.2.1
def kmc (k : Nat) : Nat := (kE k).2.2.2.2.1
def kms (k : Nat) : Nat := (kE k).2.2.2.2.2.1
def kP (k : Nat) : List Nat := (kE k).2.2.2.2.2.2
def kini (k : Nat) : Bool := !(Nat.beq k 3 || (Nat.beq k 6 || Nat.beq k 13))
def kC_0 : List Op := [(0, .aload_n 0, []), (1, .invokespecial 3, [12, 139]), (4, .aload_n 0, []), (5, .sipush 940, []), (8, .newarray .int, [187]), (10, .putfield 9, [9, 0, 140]), (13, .return_, [])]
def kC_1 : List Op := [(0, .aload_n 0, []), (1, .invokespecial 3, [12, 193]), (4, .aload_n 0, []), (5, .aload_n 1, []), (6, .putfield 9, [8, 0, 194]), (9, .return_, [])]
def kC_2 : List Op := [(0, .aload_n 0, []), (1, .invokespecial 3, [12, 221]), (4, .aload_n 0, []), (5, .iload_n 1, []), (6, .iconst 0, []), (7, .invokestatic 9, [7, 222]), (10, .newarray .int, [187]), (12, .putfield 15, [2, 0, 225]), (15, .aload_n 0, []), (16, .iload_n 1, []), (17, .iconst 0, []), (18, .invokestatic 9, [7, 222]), (21, .newarray .int, [187]), (23, .putfield 21, [2, 1, 227]), (26, .return_, [])]
def kC_3 : List Op := [(0, .aload_n 0, []), (1, .iconst 0, []), (2, .putfield 58, [7, 2, 251]), (5, .aload_n 0, []), (6, .iconst 0, []), (7, .putfield 62, [7, 7, 274]), (10, .aload_n 0, []), (11, .iconst 0, []), (12, .putfield 65, [7, 12, 292]), (15, .aload_n 0, []), (16, .getfield 48, [7, 13, 297]), (19, .iconst 0, []), (20, .putfield 68, [2, 2, 230]), (23, .aload_n 0, []), (24, .getfield 52, [7, 14, 301]), (27, .iconst 0, []), (28, .putfield 68, [2, 2, 230]), (31, .aload_n 0, []), (32, .bipush 10, []), (34, .putfield 71, [7, 15, 304]), (37, .aload_n 0, []), (38, .sipush 900, []), (41, .putfield 74, [7, 16, 309]), (44, .aload_n 0, []), (45, .bipush 11, []), (47, .putfield 77, [7, 17, 311]), (50, .return_, [])]
def kC_4 : List Op := [(0, .aload_n 0, []), (1, .invokespecial 3, [12, 215]), (4, .aload_n 0, []), (5, .iconst 5, []), (6, .newarray .long, [240]), (8, .putfield 9, [7, 0, 245]), (11, .aload_n 0, []), (12, .iconst 5, []), (13, .newarray .int, [187]), (15, .putfield 15, [7, 1, 249]), (18, .aload_n 0, []), (19, .bipush 10, []), (21, .newarray .long, [240]), (23, .putfield 19, [7, 3, 257]), (26, .aload_n 0, []), (27, .bipush 10, []), (29, .newarray .int, [187]), (31, .putfield 22, [7, 4, 259]), (34, .aload_n 0, []), (35, .bipush 10, []), (37, .newarray .int, [187]), (39, .putfield 25, [7, 5, 264]), (42, .aload_n 0, []), (43, .bipush 10, []), (45, .newarray .int, [187]), (47, .putfield 28, [7, 6, 269]), (50, .aload_n 0, []), (51, .bipush 6, []), (53, .newarray .long, [240]), (55, .putfield 31, [7, 8, 281]), (58, .aload_n 0, []), (59, .bipush 6, []), (61, .newarray .int, [187]), (63, .putfield 34, [7, 9, 283]), (66, .aload_n 0, []), (67, .bipush 6, []), (69, .newarray .int, [187]), (71, .putfield 37, [7, 10, 286]), (74, .aload_n 0, []), (75, .bipush 6, []), (77, .newarray .int, [187]), (79, .putfield 40, [7, 11, 289]), (82, .aload_n 0, []), (83, .new 43, [2, 216, 217, 108]), (86, .dup, []), (87, .bipush 6, []), (89, .invokespecial 45, [13, 2, 1, 218]), (92, .putfield 48, [7, 13, 297]), (95, .aload_n 0, []), (96, .new 43, [2, 216, 217, 108]), (99, .dup, []), (100, .bipush 8, []), (102, .invokespecial 45, [13, 2, 1, 218]), (105, .putfield 52, [7, 14, 301]), (108, .aload_n 0, []), (109, .invokevirtual 55, [15, 3, 0, 241]), (112, .return_, [])]
def kC_5 : List Op := [(0, .aload_n 0, []), (1, .invokespecial 3, [12, 357]), (4, .aload_n 0, []), (5, .iconst 5, []), (6, .newarray .int, [187]), (8, .putfield 9, [6, 11, 382]), (11, .aload_n 0, []), (12, .bipush 6, []), (14, .newarray .int, [187]), (16, .putfield 15, [6, 12, 384]), (19, .aload_n 0, []), (20, .bipush 10, []), (22, .newarray .int, [187]), (24, .putfield 18, [6, 13, 386]), (27, .return_, [])]
def kC_6 : List Op := [(0, .aload_n 0, []), (1, .iconst 0, []), (2, .putfield 21, [6, 0, 358]), (5, .aload_n 0, []), (6, .aload_n 1, []), (7, .getfield 25, [7, 16, 308]), (10, .putfield 30, [6, 1, 361]), (13, .aload_n 0, []), (14, .iconst 0, []), (15, .putfield 31, [6, 2, 363]), (18, .aload_n 0, []), (19, .iconst 0, []), (20, .putfield 34, [6, 3, 365]), (23, .aload_n 0, []), (24, .iconst 0, []), (25, .putfield 37, [6, 4, 367]), (28, .aload_n 0, []), (29, .iconst 0, []), (30, .putfield 40, [6, 5, 369]), (33, .aload_n 0, []), (34, .iconst 0, []), (35, .putfield 43, [6, 6, 371]), (38, .aload_n 0, []), (39, .iconst 0, []), (40, .putfield 46, [6, 7, 373]), (43, .aload_n 0, []), (44, .iconst 0, []), (45, .putfield 49, [6, 8, 375]), (48, .aload_n 0, []), (49, .iconst 0, []), (50, .putfield 52, [6, 9, 377]), (53, .aload_n 0, []), (54, .iconst 0, []), (55, .putfield 55, [6, 10, 379]), (58, .iconst 0, []), (59, .istore_n 2, []), (60, .iload_n 2, []), (61, .iconst 5, []), (62, .if_icmp .ge 16, [78]), (65, .aload_n 0, []), (66, .getfield 9, [6, 11, 382]), (69, .iload_n 2, []), (70, .iconst 0, []), (71, .iastore, []), (72, .iinc 2 1, []), (75, .goto (-15), [60]), (78, .iconst 0, []), (79, .istore_n 2, []), (80, .iload_n 2, []), (81, .bipush 6, []), (83, .if_icmp .ge 16, [99]), (86, .aload_n 0, []), (87, .getfield 15, [6, 12, 384]), (90, .iload_n 2, []), (91, .iconst 0, []), (92, .iastore, []), (93, .iinc 2 1, []), (96, .goto (-16), [80]), (99, .iconst 0, []), (100, .istore_n 2, []), (101, .iload_n 2, []), (102, .bipush 10, []), (104, .if_icmp .ge 16, [120]), (107, .aload_n 0, []), (108, .getfield 18, [6, 13, 386]), (111, .iload_n 2, []), (112, .iconst (-1), []), (113, .iastore, []), (114, .iinc 2 1, []), (117, .goto (-16), [101]), (120, .return_, [])]
def kC_7 : List Op := [(0, .aload_n 0, []), (1, .invokespecial 3, [12, 426]), (4, .aload_n 0, []), (5, .bipush 8, []), (7, .anewarray 11, [5, 427]), (10, .putfield 13, [3, 0, 430]), (13, .iconst 0, []), (14, .istore_n 1, []), (15, .iload_n 1, []), (16, .bipush 8, []), (18, .if_icmp .ge 22, [40]), (21, .aload_n 0, []), (22, .getfield 13, [3, 0, 430]), (25, .iload_n 1, []), (26, .new 11, [6, 427, 353, 110]), (29, .dup, []), (30, .invokespecial 17, [14, 5, 0]), (33, .aastore, []), (34, .iinc 1 1, []), (37, .goto (-22), [15]), (40, .return_, [])]
def kC_8 : List Op := [(0, .aload_n 0, []), (1, .invokespecial 3, [12, 446]), (4, .aload_n 0, []), (5, .bipush 40, []), (7, .anewarray 11, [4, 447]), (10, .putfield 13, [5, 0, 449]), (13, .aload_n 0, []), (14, .bipush 40, []), (16, .newarray .int, [187]), (18, .putfield 17, [5, 1, 450]), (21, .aload_n 0, []), (22, .bipush 40, []), (24, .newarray .int, [187]), (26, .putfield 21, [5, 2, 451]), (29, .aload_n 0, []), (30, .bipush 20, []), (32, .newarray .int, [187]), (34, .putfield 24, [5, 3, 452]), (37, .return_, [])]
def kC_9 : List Op := [(0, .aload_n 0, []), (1, .invokespecial 3, [12, 474]), (4, .aload_n 0, []), (5, .bipush 40, []), (7, .anewarray 11, [4, 475]), (10, .putfield 13, [0, 0, 476]), (13, .aload_n 0, []), (14, .bipush 40, []), (16, .newarray .int, [187]), (18, .putfield 17, [0, 1, 477]), (21, .aload_n 0, []), (22, .bipush 40, []), (24, .newarray .int, [187]), (26, .putfield 21, [0, 2, 478]), (29, .aload_n 0, []), (30, .bipush 40, []), (32, .newarray .int, [187]), (34, .putfield 24, [0, 3, 479]), (37, .return_, [])]
def kC_10 : List Op := [(0, .aload_n 0, []), (1, .invokespecial 3, [12, 514]), (4, .aload_n 0, []), (5, .bipush 7, []), (7, .newarray .int, [187]), (9, .putfield 11, [4, 0, 517]), (12, .aload_n 0, []), (13, .iconst 5, []), (14, .bipush 7, []), (16, .multianewarray 15 2, [515, 187]), (20, .putfield 17, [4, 2, 519]), (23, .aload_n 0, []), (24, .iconst 5, []), (25, .bipush 7, []), (27, .multianewarray 15 2, [515, 187]), (31, .putfield 20, [4, 3, 520]), (34, .aload_n 0, []), (35, .iconst 5, []), (36, .newarray .int, [187]), (38, .putfield 23, [4, 4, 521]), (41, .aload_n 0, []), (42, .iconst 5, []), (43, .newarray .int, [187]), (45, .putfield 26, [4, 5, 522]), (48, .return_, [])]
def kC_11 : List Op := [(0, .aload_n 0, []), (1, .invokespecial 1, [12, 558]), (4, .aload_n 0, []), (5, .new 7, [7, 559, 211, 107]), (8, .dup, []), (9, .invokespecial 9, [13, 4, 0, 560]), (12, .putfield 10, [1, 0, 565]), (15, .aload_n 0, []), (16, .new 16, [6, 561, 353, 110]), (19, .dup, []), (20, .invokespecial 18, [14, 5, 0]), (23, .putfield 19, [1, 1, 567]), (26, .aload_n 0, []), (27, .new 23, [5, 563, 442, 112]), (30, .dup, []), (31, .invokespecial 25, [14, 8, 0]), (34, .putfield 26, [1, 2, 569]), (37, .return_, [])]
def kC_12 : List Op := [(0, .aload_n 0, []), (1, .invokespecial 1, [12, 131]), (4, .aload_n 0, []), (5, .new 7, [9, 134, 135, 105]), (8, .dup, []), (9, .invokespecial 9, [14, 0, 0]), (12, .putfield 10, [10, 0, 581]), (15, .aload_n 0, []), (16, .new 16, [8, 188, 189, 106]), (19, .dup, []), (20, .aload_n 0, []), (21, .getfield 10, [10, 0, 581]), (24, .invokespecial 18, [13, 1, 1, 190]), (27, .putfield 21, [10, 1, 582]), (30, .aload_n 0, []), (31, .new 25, [7, 210, 211, 107]), (34, .dup, []), (35, .invokespecial 27, [13, 4, 0, 212]), (38, .putfield 28, [10, 2, 583]), (41, .aload_n 0, []), (42, .new 25, [7, 210, 211, 107]), (45, .dup, []), (46, .invokespecial 27, [13, 4, 0, 212]), (49, .putfield 32, [10, 3, 584]), (52, .aload_n 0, []), (53, .new 35, [6, 352, 353, 110]), (56, .dup, []), (57, .invokespecial 37, [14, 5, 0]), (60, .putfield 38, [10, 4, 585]), (63, .aload_n 0, []), (64, .getfield 38, [10, 4, 585]), (67, .aload_n 0, []), (68, .getfield 28, [10, 2, 583]), (71, .invokevirtual 42, [15, 6, 1, 417]), (74, .aload_n 0, []), (75, .new 35, [6, 352, 353, 110]), (78, .dup, []), (79, .invokespecial 37, [14, 5, 0]), (82, .putfield 46, [10, 5, 586]), (85, .aload_n 0, []), (86, .new 49, [3, 421, 422, 111]), (89, .dup, []), (90, .invokespecial 51, [13, 7, 0, 423]), (93, .putfield 52, [10, 6, 587]), (96, .aload_n 0, []), (97, .new 56, [5, 441, 442, 112]), (100, .dup, []), (101, .invokespecial 58, [14, 8, 0]), (104, .putfield 59, [10, 7, 588]), (107, .aload_n 0, []), (108, .new 56, [5, 441, 442, 112]), (111, .dup, []), (112, .invokespecial 58, [14, 8, 0]), (115, .putfield 63, [10, 8, 589]), (118, .aload_n 0, []), (119, .new 66, [0, 469, 470, 113]), (122, .dup, []), (123, .invokespecial 68, [14, 9, 0]), (126, .putfield 69, [10, 9, 590]), (129, .aload_n 0, []), (130, .new 73, [4, 509, 510, 114]), (133, .dup, []), (134, .invokespecial 75, [14, 10, 0]), (137, .putfield 76, [10, 10, 591]), (140, .aload_n 0, []), (141, .iconst 2, []), (142, .anewarray 80, [6, 552]), (145, .putfield 82, [10, 11, 592]), (148, .iconst 0, []), (149, .istore_n 1, []), (150, .iload_n 1, []), (151, .iconst 2, []), (152, .if_icmp .ge 22, [174]), (155, .aload_n 0, []), (156, .getfield 82, [10, 11, 592]), (159, .iload_n 1, []), (160, .new 80, [1, 552, 554, 115]), (163, .dup, []), (164, .invokespecial 86, [14, 11, 0]), (167, .aastore, []), (168, .iinc 1 1, []), (171, .goto (-21), [150]), (174, .aload_n 0, []), (175, .iconst (-1), []), (176, .putfield 87, [10, 13, 594]), (179, .aload_n 0, []), (180, .iconst (-1), []), (181, .putfield 91, [10, 14, 595]), (184, .aload_n 0, []), (185, .iconst (-1), []), (186, .putfield 94, [10, 15, 596]), (189, .aload_n 0, []), (190, .iconst (-1), []), (191, .putfield 97, [10, 16, 597]), (194, .aload_n 0, []), (195, .iconst (-1), []), (196, .putfield 100, [10, 17, 598]), (199, .return_, [])]
def kC_13 : List Op := [(0, .iconst 0, []), (1, .istore_n 1, []), (2, .iload_n 1, []), (3, .bipush 89, []), (5, .if_icmp .ge 16, [21]), (8, .aload_n 0, []), (9, .getfield 37, [11, 7, 1490]), (12, .iload_n 1, []), (13, .iconst 0, []), (14, .iastore, []), (15, .iinc 1 1, []), (18, .goto (-16), [2]), (21, .aload_n 0, []), (22, .getfield 37, [11, 7, 1490]), (25, .iconst 5, []), (26, .bipush 10, []), (28, .iastore, []), (29, .aload_n 0, []), (30, .getfield 37, [11, 7, 1490]), (33, .bipush 6, []), (35, .sipush 900, []), (38, .iastore, []), (39, .aload_n 0, []), (40, .getfield 37, [11, 7, 1490]), (43, .bipush 7, []), (45, .bipush 11, []), (47, .iastore, []), (48, .return_, [])]
def kC_14 : List Op := [(0, .aload_n 0, []), (1, .invokespecial 27, [12, 1455]), (4, .aload_n 0, []), (5, .sipush 940, []), (8, .newarray .byte, [1389]), (10, .putfield 14, [11, 1, 1484]), (13, .aload_n 0, []), (14, .sipush 303, []), (17, .newarray .int, [187]), (19, .putfield 33, [11, 6, 1489]), (22, .aload_n 0, []), (23, .bipush 89, []), (25, .newarray .int, [187]), (27, .putfield 37, [11, 7, 1490]), (30, .aload_n 0, []), (31, .sipush 160, []), (34, .newarray .int, [187]), (36, .putfield 40, [11, 8, 1491]), (39, .aload_n 0, []), (40, .bipush 42, []), (42, .newarray .long, [240]), (44, .putfield 43, [11, 9, 1492]), (47, .aload_n 0, []), (48, .bipush 23, []), (50, .newarray .long, [240]), (52, .putfield 47, [11, 10, 1493]), (55, .aload_n 0, []), (56, .sipush 264, []), (59, .newarray .int, [187]), (61, .putfield 50, [11, 21, 1504]), (64, .aload_n 0, []), (65, .bipush 33, []), (67, .newarray .int, [187]), (69, .putfield 53, [11, 22, 1505]), (72, .aload_n 0, []), (73, .bipush 7, []), (75, .newarray .int, [187]), (77, .putfield 56, [11, 24, 1507]), (80, .aload_n 0, []), (81, .bipush 35, []), (83, .newarray .int, [187]), (85, .putfield 59, [11, 25, 1508]), (88, .aload_n 0, []), (89, .iconst 5, []), (90, .newarray .int, [187]), (92, .putfield 62, [11, 26, 1509]), (95, .aload_n 0, []), (96, .iconst (-1), []), (97, .putfield 65, [11, 28, 1511]), (100, .aload_n 0, []), (101, .bipush 10, []), (103, .newarray .int, [187]), (105, .putfield 68, [11, 34, 1517]), (108, .aload_n 0, []), (109, .bipush 10, []), (111, .newarray .int, [187]), (113, .putfield 71, [11, 35, 1518]), (116, .aload_n 0, []), (117, .iconst 4, []), (118, .newarray .int, [187]), (120, .putfield 74, [11, 42, 1525]), (123, .aload_n 0, []), (124, .bipush 45, []), (126, .newarray .int, [187]), (128, .putfield 77, [11, 44, 1527]), (131, .aload_n 0, []), (132, .bipush 45, []), (134, .newarray .boolean, [1646]), (136, .putfield 80, [11, 50, 1533]), (139, .aload_n 0, []), (140, .sipush 606, []), (143, .newarray .int, [187]), (145, .putfield 84, [11, 51, 1534]), (148, .aload_n 0, []), (149, .bipush 42, []), (151, .newarray .long, [240]), (153, .putfield 87, [11, 52, 1535]), (156, .aload_n 0, []), (157, .iconst 2, []), (158, .newarray .boolean, [1646]), (160, .putfield 90, [11, 53, 1536]), (163, .aload_n 0, []), (164, .getfield 47, [11, 10, 1493]), (167, .iconst 0, []), (168, .ldc2_w 93, [2002873452, 1456]), (171, .lastore, []), (172, .aload_n 0, []), (173, .getfield 47, [11, 10, 1493]), (176, .iconst 1, []), (177, .ldc2_w 95, [448546567013, 1457]), (180, .lastore, []), (181, .aload_n 0, []), (182, .getfield 47, [11, 10, 1493]), (185, .iconst 2, []), (186, .ldc2_w 97, [31372865427825765, 1458]), (189, .lastore, []), (190, .aload_n 0, []), (191, .getfield 47, [11, 10, 1493]), (194, .iconst 3, []), (195, .ldc2_w 99, [431415716206, 1459]), (198, .lastore, []), (199, .aload_n 0, []), (200, .getfield 47, [11, 10, 1493]), (203, .iconst 4, []), (204, .ldc2_w 101, [427121013620, 1460]), (207, .lastore, []), (208, .aload_n 0, []), (209, .getfield 47, [11, 10, 1493]), (212, .iconst 5, []), (213, .ldc2_w 103, [444016715621, 1461]), (216, .lastore, []), (217, .aload_n 0, []), (218, .getfield 47, [11, 10, 1493]), (221, .bipush 6, []), (223, .ldc2_w 105, [123580963646565, 1462]), (226, .lastore, []), (227, .aload_n 0, []), (228, .getfield 47, [11, 10, 1493]), (231, .bipush 7, []), (233, .ldc2_w 107, [1935765092, 1463]), (236, .lastore, []), (237, .aload_n 0, []), (238, .getfield 47, [11, 10, 1493]), (241, .bipush 8, []), (243, .ldc2_w 109, [1918989413, 1464]), (246, .lastore, []), (247, .aload_n 0, []), (248, .getfield 47, [11, 10, 1493]), (251, .bipush 9, []), (253, .ldc2_w 111, [1886352244, 1465]), (256, .lastore, []), (257, .aload_n 0, []), (258, .getfield 47, [11, 10, 1493]), (261, .bipush 10, []), (263, .ldc2_w 113, [1903520116, 1466]), (266, .lastore, []), (267, .aload_n 0, []), (268, .getfield 47, [11, 10, 1493]), (271, .bipush 11, []), (273, .ldc2_w 115, [30064, 1467]), (276, .lastore, []), (277, .aload_n 0, []), (278, .getfield 47, [11, 10, 1493]), (281, .bipush 12, []), (283, .ldc2_w 117, [1752135026, 1468]), (286, .lastore, []), (287, .aload_n 0, []), (288, .getfield 47, [11, 10, 1493]), (291, .bipush 13, []), (293, .ldc2_w 119, [28530, 1469]), (296, .lastore, []), (297, .aload_n 0, []), (298, .getfield 47, [11, 10, 1493]), (301, .bipush 14, []), (303, .ldc2_w 121, [6385252, 1470]), (306, .lastore, []), (307, .aload_n 0, []), (308, .getfield 47, [11, 10, 1493]), (311, .bipush 15, []), (313, .ldc2_w 123, [7237492, 1471]), (316, .lastore, []), (317, .aload_n 0, []), (318, .getfield 47, [11, 10, 1493]), (321, .bipush 16, []), (323, .ldc2_w 125, [28829673490507108, 1472]), (326, .lastore, []), (327, .aload_n 0, []), (328, .getfield 47, [11, 10, 1493]), (331, .bipush 17, []), (333, .ldc2_w 127, [504397587812, 1473]), (336, .lastore, []), (337, .aload_n 0, []), (338, .getfield 47, [11, 10, 1493]), (341, .bipush 18, []), (343, .ldc2_w 129, [1935763045, 1474]), (346, .lastore, []), (347, .aload_n 0, []), (348, .getfield 47, [11, 10, 1493]), (351, .bipush 19, []), (353, .ldc2_w 131, [108187682958948, 1475]), (356, .lastore, []), (357, .aload_n 0, []), (358, .getfield 47, [11, 10, 1493]), (361, .bipush 20, []), (363, .ldc2_w 133, [512970880104, 1476]), (366, .lastore, []), (367, .aload_n 0, []), (368, .getfield 47, [11, 10, 1493]), (371, .bipush 21, []), (373, .ldc2_w 135, [439905906546, 1477]), (376, .lastore, []), (377, .aload_n 0, []), (378, .getfield 47, [11, 10, 1493]), (381, .bipush 22, []), (383, .ldc2_w 137, [121450625394034, 1478]), (386, .lastore, []), (387, .aload_n 0, []), (388, .invokevirtual 139, [15, 13, 0, 1479]), (391, .iconst 0, []), (392, .istore_n 1, []), (393, .iload_n 1, []), (394, .bipush 89, []), (396, .if_icmp .ge 21, [417]), (399, .aload_n 0, []), (400, .getfield 33, [11, 6, 1489]), (403, .iload_n 1, []), (404, .aload_n 0, []), (405, .getfield 37, [11, 7, 1490]), (408, .iload_n 1, []), (409, .iaload, []), (410, .iastore, []), (411, .iinc 1 1, []), (414, .goto (-21), [393]), (417, .aload_n 0, []), (418, .getfield 33, [11, 6, 1489]), (421, .bipush 90, []), (423, .sipush 900, []), (426, .iastore, []), (427, .return_, [])]
def kC (k : Nat) : List Op := ([kC_0, kC_1, kC_2, kC_3, kC_4, kC_5, kC_6, kC_7, kC_8, kC_9, kC_10, kC_11, kC_12, kC_13, kC_14] : List (List Op)).getD k []
def kLaw0 : List Op := [(0, .new 8, [10, 126, 127, 104]), (3, .dup, []), (4, .invokespecial 22, [13, 12, 0, 128]), (7, .astore_n 1, []), (8, .new 23, [11, 1451, 1445, 116]), (11, .dup, []), (12, .invokespecial 25, [13, 14, 0, 1452]), (15, .astore_n 2, []), (16, .iconst 1, []), (17, .newarray .long, [240]), (19, .astore_n 3, []), (20, .iconst 0, []), (21, .istore 4, []), (23, .nop, [])]
def objP : List Nat := [132, 133]
def maxP : List Nat := [223, 109, 224]
/-! what an instruction must bring with it -/
def lenC (i : Instr) : Nat := match i with
  | .bipush _ => 2 | .newarray _ => 2 | .istore _ => 2
  | .sipush _ => 3 | .ldc2_w _ => 3 | .iinc _ _ => 3 | .goto _ => 3 | .if_icmp _ _ => 3 | .getfield _ => 3 | .putfield _ => 3 | .new _ => 3 | .anewarray _ => 3 | .invokespecial _ => 3 | .invokevirtual _ => 3 | .invokestatic _ => 3
  | .multianewarray _ _ => 4
  | _ => 1
def endC (i : Instr) : Bool := match i with
  | .goto _ => true | .return_ => true
  | _ => false
def isGe (c : Jvm.ClassFile.Cond) : Bool := match c with
  | .ge => true
  | _ => false
def fldC (cn idx : Nat) (inf : List Nat) : Bool := match inf with
  | ci :: k :: q :: _ => inP q (.fieldLink (Rn cn) idx (cq ci).1 ((cq ci).2.1 k).2.1 ((cq ci).2.1 k).2.2.1) && (Nat.blt k (cq ci).2.2 && (Nat.blt ci 12 && decide (((cq ci).2.1 k).1 = (cq ci).1)))
  | _ => false
def finC (ini : Bool) (cn : Nat) (inf : List Nat) : Bool := match inf with
  | ci :: k :: _ => !((cq ci).2.1 k).2.2.2 || (ini && decide ((cq ci).1 = Rn cn))
  | _ => false
def sideC (nL cn pc : Nat) (ini : Bool) (i : Instr) (inf : List Nat) : Bool := match i with
  | .iconst _ => true | .aload_n _ => true | .iload_n _ => true | .dup => true | .iaload => true | .iastore => true | .lastore => true | .aastore => true | .return_ => true
  | .bipush k => decide ((Int8.ofInt k).toInt32 = I k)
  | .sipush k => decide ((Int16.ofInt k).toInt32 = I k)
  | .ldc2_w idx => (match inf with | v :: q :: _ => inP q (.constantLong (Rn cn) idx (Int64.ofNat v)) | _ => false)
  | .istore_n k => Nat.blt k.val nL | .astore_n k => Nat.blt k.val nL | .istore k => Nat.blt k nL | .iinc k _ => Nat.blt k nL
  | .goto off => tgtI pc off inf | .if_icmp c off => isGe c && tgtI pc off inf
  | .getfield idx => fldC cn idx inf
  | .putfield idx => fldC cn idx inf && finC ini cn inf
  | .new idx => (match inf with | ci :: q1 :: q2 :: q3 :: _ => inP q1 (.classLink (Rn cn) idx (cq ci).1) && (inP q2 (.instantiable (cq ci).1 (cq ci).2.2) && (inP q3 (.initialized (cq ci).1) && Nat.blt ci 12)) | _ => false)
  | .newarray ty => (match inf with | q :: _ => inP q (.arrayClass (newarray.typeOf ty)) && Nat.blt (tA ty) 4 | _ => false)
  | .anewarray idx => (match inf with | t :: q :: _ => inP q (.classLink (Rn cn) idx (tC t)) && (Nat.ble 4 t && Nat.blt t 7) | _ => false)
  | .multianewarray idx n => (match inf with | q1 :: q2 :: _ => inP q1 (.classLink (Rn cn) idx "[[I") && (inP q2 (.arrayClass .int) && Nat.beq n 2) | _ => false)
  | .invokespecial idx => (match inf with
    | 12 :: q :: _ => inP q (.methodLink (Rn cn) idx Lib.objectInit)
    | 13 :: k :: n :: q :: _ => inP q (.methodLink (Rn cn) idx (kN k)) && (Nat.blt k 15 && (kini k && parN (kN k) n))
    | 14 :: k :: n :: _ => decide ((cn, idx, kN k) ∈ nestC) && (Nat.blt k 15 && (kini k && parN (kN k) n))
    | _ => false)
  | .invokevirtual idx => (match inf with | 15 :: k :: n :: q :: _ => inP q (.methodLink (Rn cn) idx (kN k)) && (Nat.blt k 15 && (!kini k && (parN (kN k) n && Nat.blt (kCn k) 14))) | _ => false)
  | .invokestatic idx => (match inf with | 7 :: q :: _ => inP q (.methodLink (Rn cn) idx Lib.Math.max.name) | _ => false)
  | _ => false
def decK (cc : ByteArray) (pc : Nat) (i : Instr) : Bool := match decode cc pc with
  | .ok (j, n) => decide (j = i) && Nat.beq n (lenC i)
  | .error _ => false
def chkC (cc : ByteArray) (nL cn : Nat) (ini : Bool) (is : List Op) : Bool := match is with
  | [] => true
  | o :: r => chkC cc nL cn ini r && (match isNop o.2.1 with
    | true => true
    | false => decK cc o.1 o.2.1 && (sideC nL cn o.1 ini o.2.1 o.2.2 && (endC o.2.1 || decide (hdP r = some (o.1 + lenC o.2.1)))))
def clsB (a k : Nat) : Bool := Nat.blt 0 (lay a) && (Nat.blt (lay a) 13 && decide ((cq (lay a - 1)).1 = (kN k).cls))
/-! the machine runs -/
def oI {α : Type} (S : List Value) (K : Int32 → List Value → Option α) : Option α := match S with
  | .int x :: r => K x r
  | _ => none
def oL {α : Type} (S : List Value) (K : Int64 → List Value → Option α) : Option α := match S with
  | .long x :: r => K x r
  | _ => none
def oA {α : Type} (S : List Value) (K : Nat → List Value → Option α) : Option α := match S with
  | .ref x :: r => K x r
  | _ => none
def oB {α : Type} (b : Bool) (K : Option α) : Option α := cond b K none
def oF {α β : Type} (o : Option β) (K : β → Option α) : Option α := match o with
  | some x => K x
  | none => none
def xI {α : Type} (L : List Value) (k : Nat) (K : Int32 → Option α) : Option α := match L.getD k (.retAddr 0) with
  | .int x => K x
  | _ => none
def xA {α : Type} (L : List Value) (k : Nat) (K : Nat → Option α) : Option α := match L.getD k (.retAddr 0) with
  | .ref x => K x
  | _ => none
/-- the topmost n values, the first of them last pushed behind; and the rest -/
def oT {α : Type} (n : Nat) (S acc : List Value) (K : List Value → List Value → Option α) : Option α := match n, S with
  | 0, S => K acc S
  | n + 1, v :: S => oT n S (v :: acc) K
  | _ + 1, [] => none
def inRB (i : Int32) (n : Nat) : Bool := !decide (i < 0) && Nat.blt i.toNatClampNeg n
def gvO {α : Type} (σ : Kst) (a k : Nat) (t : List Nat) (K : Value → Option α) : Option α := match t with
  | 0 :: _ => K (.int (lk 0 σ.2.2.1 a k))
  | 2 :: _ => K (.ref (lk 0 σ.2.2.2.2 a k))
  | 3 :: _ => K (.ref (lk 0 σ.2.2.2.2 a k))
  | 4 :: _ => K (.ref (lk 0 σ.2.2.2.2 a k))
  | _ => none
def okD (dm : List Nat) (x : Nat) : Bool := Nat.beq x 0 || kdm dm x
def pvO (σ : Kst) (a k : Nat) (t : List Nat) (v : Value) : Option Kst := match t, v with
  | 0 :: _, .int x => some (pI σ a k x)
  | 2 :: _, .ref x => oB (okD σ.2.1 x) (some (pR σ a k x))
  | 3 :: _, .ref x => oB (okD σ.2.1 x) (some (pR σ a k x))
  | 4 :: _, .ref x => oB (okD σ.2.1 x) (some (pR σ a k x))
  | _, _ => none
abbrev CR : Type := Bool × Nat × List Value × List Value × Kst × Nat × Nat
section RUN
variable (call : Nat → List Value → Kst → Option Kst) (lc lsl : Nat) (C : List Op)
def crun : Nat → List Op → List Value → List Value → Kst → Nat → Nat → Option CR
  | 0, _, _, _, _, _, _ => none
  | _ + 1, [], _, _, _, _, _ => none
  | n + 1, (pc, i, inf) :: is, L, S, σ, nc, ns => match i with
    | .nop => some (false, pc, L, S, σ, nc, ns)
    | .return_ => some (true, pc, L, S, σ, nc, ns)
    | .iconst k => crun n is L (.int (I k) :: S) σ nc ns
    | .bipush k => crun n is L (.int (I k) :: S) σ nc ns
    | .sipush k => crun n is L (.int (I k) :: S) σ nc ns
    | .ldc2_w _ => crun n is L (.long (Int64.ofNat (inf.getD 0 0)) :: S) σ nc ns
    | .aload_n k => xA L k.val fun a => oB (!Nat.beq a 0) (crun n is L (.ref a :: S) σ nc ns)
    | .iload_n k => xI L k.val fun x => crun n is L (.int x :: S) σ nc ns
    | .istore_n k => oI S fun v r => crun n is (stv L k.val (.int v)) r σ nc ns
    | .istore k => oI S fun v r => crun n is (stv L k (.int v)) r σ nc ns
    | .astore_n k => oA S fun a r => oB (!Nat.beq a 0) (crun n is (stv L k.val (.ref a)) r σ nc ns)
    | .iinc k c => xI L k fun x => crun n is (stv L k (.int (x + I c))) S σ nc ns
    | .dup => oA S fun a r => crun n is L (.ref a :: .ref a :: r) σ nc ns
    | .goto _ => crun n (jm C (inf.getD 0 0)) L S σ nc ns
    | .if_icmp _ _ => oI S fun y r => oI r fun x r => cond (decide (y ≤ x)) (crun n (jm C (inf.getD 0 0)) L r σ nc ns) (crun n is L r σ nc ns)
    | .getfield _ => oA S fun a r => match inf with
      | ci :: k :: _ => oB (Nat.beq (lay a) (ci + 1) && kdm σ.2.1 a) (gvO σ a k ((FT.getD ci []).getD k []) fun v => crun n is L (v :: r) σ nc ns)
      | _ => none
    | .putfield _ => match S with
      | v :: .ref a :: r => (match inf with
        | ci :: k :: _ => oB (Nat.beq (lay a) (ci + 1) && kdm σ.2.1 a) (oF (pvO σ a k ((FT.getD ci []).getD k []) v) fun σ' => crun n is L r σ' nc ns)
        | _ => none)
      | _ => none
    | .new _ => match σ.1 with
      | a :: sup => (match inf with
        | ci :: _ => oB (Nat.beq (lay a) (ci + 1) && (!kpB σ.2.1 a && (allV σ.2.1 L && (allV σ.2.1 S && (Nat.ble (nc + 1) lc && Nat.ble (ns + (cq ci).2.2) lsl))))) (crun n is L (.ref a :: S) (sup, σ.2.1 ++ [a], σ.2.2) (nc + 1) (ns + (cq ci).2.2))
        | _ => none)
      | [] => none
    | .newarray ty => oI S fun x r => match σ.1 with
      | a :: sup => oB (Nat.beq (lay a) (100 + tA ty) && (!decide (x < 0) && (Nat.beq x.toNatClampNeg (alen a) && (Nat.ble (alen a) 4095 && (!kpB σ.2.1 a && (allV σ.2.1 L && (allV σ.2.1 r && (Nat.ble (nc + 1) lc && Nat.ble (ns + alen a) lsl)))))))) (crun n is L (.ref a :: r) (sup, σ.2.1 ++ [a], σ.2.2) (nc + 1) (ns + alen a))
      | [] => none
    | .anewarray _ => oI S fun x r => match σ.1 with
      | a :: sup => oB (Nat.beq (lay a) (100 + inf.getD 0 0) && (!decide (x < 0) && (Nat.beq x.toNatClampNeg (alen a) && (Nat.ble (alen a) 4095 && (!kpB σ.2.1 a && (allV σ.2.1 L && (allV σ.2.1 r && (Nat.ble (nc + 1) lc && Nat.ble (ns + alen a) lsl)))))))) (crun n is L (.ref a :: r) (sup, σ.2.1 ++ [a], σ.2.2) (nc + 1) (ns + alen a))
      | [] => none
    | .multianewarray _ _ => oI S fun y r => oI r fun x r => match σ.1 with
      | a1 :: a2 :: a3 :: a4 :: a5 :: a0 :: sup => oB (decide (y = I 7) && (decide (x = I 5) && ((Nat.beq (lay a0) 107 && Nat.beq (alen a0) 5) && (([a1, a2, a3, a4, a5].all fun a => Nat.beq (lay a) 100 && Nat.beq (alen a) 7) && (decide ([a1, a2, a3, a4, a5, a0].Nodup) && (([a1, a2, a3, a4, a5, a0].all fun a => !kpB σ.2.1 a) && (allV σ.2.1 L && (allV σ.2.1 r && (Nat.ble (nc + 6) lc && Nat.ble (ns + 40) lsl))))))))) (crun n is L (.ref a0 :: r) (mnW (sup, σ.2.1 ++ [a1] ++ [a2] ++ [a3] ++ [a4] ++ [a5] ++ [a0], σ.2.2) a0 a1 a2 a3 a4 a5) (nc + 6) (ns + 40))
      | _ => none
    | .iaload => oI S fun i r => oA r fun a r => oB (kdm σ.2.1 a && (Nat.beq (lay a) 100 && inRB i (alen a))) (crun n is L (.int (lk 0 σ.2.2.1 a i.toNatClampNeg) :: r) σ nc ns)
    | .iastore => oI S fun v r => oI r fun i r => oA r fun a r => oB (kdm σ.2.1 a && (Nat.beq (lay a) 100 && inRB i (alen a))) (crun n is L r (pI σ a i.toNatClampNeg v) nc ns)
    | .lastore => oL S fun v r => oI r fun i r => oA r fun a r => oB (kdm σ.2.1 a && (Nat.beq (lay a) 101 && inRB i (alen a))) (crun n is L r (pL σ a i.toNatClampNeg v) nc ns)
    | .aastore => oA S fun v r => oI r fun i r => oA r fun a r => oB (kdm σ.2.1 a && (kdm σ.2.1 v && (((Nat.beq (lay a) 105 && Nat.beq (lay v) 7) || (Nat.beq (lay a) 106 && Nat.beq (lay v) 2)) && inRB i (alen a)))) (crun n is L r (pR σ a i.toNatClampNeg v) nc ns)
    | .invokespecial _ => match inf with
      | 12 :: _ => oA S fun a r => oB (!Nat.beq a 0 && Nat.ble r.length 4) (crun n is L r σ nc ns)
      | _ :: k :: na :: _ => oT na S [] fun as r => oA r fun a r => oB (kdm σ.2.1 a && (Nat.ble r.length 4 && (allV σ.2.1 L && (allV σ.2.1 r && (Nat.ble (nc + kmc k) lc && Nat.ble (ns + kms k) lsl))))) (oF (call k (.ref a :: as) σ) fun σ' => crun n is L r σ' (nc + kmc k) (ns + kms k))
      | _ => none
    | .invokevirtual _ => match inf with
      | _ :: k :: na :: _ => oT na S [] fun as r => oA r fun a r => oB (kdm σ.2.1 a && (Nat.ble r.length 4 && (allV σ.2.1 L && (allV σ.2.1 r && (Nat.ble (nc + kmc k) lc && (Nat.ble (ns + kms k) lsl && clsB a k)))))) (oF (call k (.ref a :: as) σ) fun σ' => crun n is L r σ' (nc + kmc k) (ns + kms k))
      | _ => none
    | .invokestatic _ => oI S fun y r => oI r fun x r => oB (Nat.ble r.length 4 && (Nat.ble nc lc && Nat.ble ns lsl)) (crun n is L (.int (if x < y then y else x) :: r) σ nc ns)
    | _ => none
end RUN
def cexec : Nat → Nat → List Value → Kst → Option Kst
  | 0, _, _, _ => none
  | d + 1, k, as, σ => match crun (cexec d) (kmc k) (kms k) (kC k) 2000 (kC k) (entL as ++ List.replicate (kM k - (entL as).length) (.retAddr 0)) [] σ 0 0 with
    | some (true, _, _, [], σ', nc, ns) => cond (Nat.ble (entL as).length (kM k) && (Nat.ble nc (kmc k) && Nat.ble ns (kms k))) (some σ') none
    | _ => none
