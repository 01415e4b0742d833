/-! THE CONSTRUCTORS: a machine over a growing list of cells; a reference is a place in the list -/
abbrev bC : Type := (Nat × Nat × (Nat → Int32)) ⊕ (List (Option Nat) ⊕ (Nat × List Value))
def bcX0 : zCd := [(0, .aload_n 0, 1, 0, 0, 0, 0), (1, .invokespecial 3, 3, 0, 0, 0, 0), (4, .aload_n 0, 1, 0, 0, 0, 0), (5, .bipush 8, 2, 0, 0, 0, 8), (7, .newarray .int, 2, 0, 0, 0, 0), (9, .putfield 9, 3, 0, 0, 1, 0), (12, .aload_n 0, 1, 0, 0, 0, 0), (13, .bipush 8, 2, 0, 0, 0, 8), (15, .newarray .int, 2, 0, 0, 0, 0), (17, .putfield 15, 3, 0, 1, 1, 0), (20, .return_, 1, 0, 0, 0, 0)]
def bcX1 : zCd := [(0, .aload_n 0, 1, 0, 0, 0, 0), (1, .invokespecial 3, 3, 0, 0, 0, 0), (4, .aload_n 0, 1, 0, 0, 0, 0), (5, .bipush 72, 2, 0, 0, 0, 72), (7, .newarray .int, 2, 0, 0, 0, 0), (9, .putfield 9, 3, 1, 0, 1, 0), (12, .aload_n 0, 1, 0, 0, 0, 0), (13, .bipush 8, 2, 0, 0, 0, 8), (15, .newarray .int, 2, 0, 0, 0, 0), (17, .putfield 15, 3, 1, 1, 1, 0), (20, .aload_n 0, 1, 0, 0, 0, 0), (21, .new 18, 3, 3, 0, 0, 0), (24, .dup, 1, 0, 0, 0, 0), (25, .invokespecial 20, 3, 3, 0, 1, 0), (28, .putfield 21, 3, 1, 2, 1, 0), (31, .aload_n 0, 1, 0, 0, 0, 0), (32, .bipush 60, 2, 0, 0, 0, 60), (34, .putfield 25, 3, 1, 5, 0, 0), (37, .aload_n 0, 1, 0, 0, 0, 0), (38, .bipush 20, 2, 0, 0, 0, 20), (40, .putfield 29, 3, 1, 6, 0, 0), (43, .aload_n 0, 1, 0, 0, 0, 0), (44, .iconst 2, 1, 0, 0, 0, 2), (45, .putfield 32, 3, 1, 7, 0, 0), (48, .aload_n 0, 1, 0, 0, 0, 0), (49, .iconst 1, 1, 0, 0, 0, 1), (50, .putfield 35, 3, 1, 11, 0, 0), (53, .return_, 1, 0, 0, 0, 0)]
def bcX2 : zCd := [(0, .aload_n 0, 1, 0, 0, 0, 0), (1, .invokespecial 3, 3, 0, 0, 0, 0), (4, .aload_n 0, 1, 0, 0, 0, 0), (5, .bipush 12, 2, 0, 0, 0, 12), (7, .newarray .int, 2, 0, 0, 0, 0), (9, .putfield 9, 3, 2, 0, 1, 0), (12, .aload_n 0, 1, 0, 0, 0, 0), (13, .bipush 12, 2, 0, 0, 0, 12), (15, .newarray .int, 2, 0, 0, 0, 0), (17, .putfield 15, 3, 2, 1, 1, 0), (20, .aload_n 0, 1, 0, 0, 0, 0), (21, .bipush 12, 2, 0, 0, 0, 12), (23, .newarray .int, 2, 0, 0, 0, 0), (25, .putfield 18, 3, 2, 2, 1, 0), (28, .aload_n 0, 1, 0, 0, 0, 0), (29, .bipush 12, 2, 0, 0, 0, 12), (31, .newarray .int, 2, 0, 0, 0, 0), (33, .putfield 21, 3, 2, 3, 1, 0), (36, .aload_n 0, 1, 0, 0, 0, 0), (37, .sipush 400, 3, 0, 0, 0, 400), (40, .newarray .int, 2, 0, 0, 0, 0), (42, .putfield 24, 3, 2, 4, 1, 0), (45, .aload_n 0, 1, 0, 0, 0, 0), (46, .bipush 32, 2, 0, 0, 0, 32), (48, .newarray .int, 2, 0, 0, 0, 0), (50, .putfield 27, 3, 2, 5, 1, 0), (53, .aload_n 0, 1, 0, 0, 0, 0), (54, .iconst (-1), 1, 0, 0, 0, (-1)), (55, .putfield 30, 3, 2, 6, 0, 0), (58, .return_, 1, 0, 0, 0, 0)]
def bcX3 : zCd := [(0, .aload_n 0, 1, 0, 0, 0, 0), (1, .invokespecial 3, 3, 0, 0, 0, 0), (4, .aload_n 0, 1, 0, 0, 0, 0), (5, .sipush 240, 3, 0, 0, 0, 240), (8, .newarray .int, 2, 0, 0, 0, 0), (10, .putfield 11, 3, 3, 0, 1, 0), (13, .return_, 1, 0, 0, 0, 0)]
def bcX4 : zCd := [(0, .aload_n 0, 1, 0, 0, 0, 0), (1, .invokespecial 3, 3, 0, 0, 0, 0), (4, .aload_n 0, 1, 0, 0, 0, 0), (5, .sipush 256, 3, 0, 0, 0, 256), (8, .newarray .int, 2, 0, 0, 0, 0), (10, .putfield 11, 3, 4, 0, 1, 0), (13, .return_, 1, 0, 0, 0, 0)]
def bcX5 : zCd := [(0, .aload_n 0, 1, 0, 0, 0, 0), (1, .invokespecial 3, 3, 0, 0, 0, 0), (4, .aload_n 0, 1, 0, 0, 0, 0), (5, .sipush 144, 3, 0, 0, 0, 144), (8, .newarray .int, 2, 0, 0, 0, 0), (10, .putfield 9, 3, 5, 0, 1, 0), (13, .aload_n 0, 1, 0, 0, 0, 0), (14, .sipush 144, 3, 0, 0, 0, 144), (17, .newarray .int, 2, 0, 0, 0, 0), (19, .putfield 15, 3, 5, 1, 1, 0), (22, .aload_n 0, 1, 0, 0, 0, 0), (23, .getfield 15, 3, 5, 1, 1, 0), (26, .sipush 1000, 3, 0, 0, 0, 1000), (29, .invokestatic 18, 3, 12, 0, 0, 0), (32, .iconst 0, 1, 0, 0, 0, 0), (33, .istore_n 1, 1, 0, 0, 0, 0), (34, .iload_n 1, 1, 0, 0, 0, 0), (35, .bipush 12, 2, 0, 0, 0, 12), (37, .if_icmp .ge 21, 3, 0, 0, 0, 0), (40, .aload_n 0, 1, 0, 0, 0, 0), (41, .getfield 15, 3, 5, 1, 1, 0), (44, .iload_n 1, 1, 0, 0, 0, 0), (45, .bipush 12, 2, 0, 0, 0, 12), (47, .imul, 1, 0, 0, 0, 0), (48, .iload_n 1, 1, 0, 0, 0, 0), (49, .iadd, 1, 0, 0, 0, 0), (50, .iconst 0, 1, 0, 0, 0, 0), (51, .iastore, 1, 0, 0, 0, 0), (52, .iinc 1 1, 3, 0, 0, 0, 1), (55, .goto (-21), 3, 0, 0, 0, 0), (58, .return_, 1, 0, 0, 0, 0)]
def bcX6 : zCd := [(0, .aload_n 0, 1, 0, 0, 0, 0), (1, .invokespecial 3, 3, 0, 0, 0, 0), (4, .aload_n 0, 1, 0, 0, 0, 0), (5, .new 9, 3, 1, 0, 0, 0), (8, .dup, 1, 0, 0, 0, 0), (9, .invokespecial 11, 3, 1, 0, 1, 0), (12, .putfield 12, 3, 6, 0, 1, 0), (15, .aload_n 0, 1, 0, 0, 0, 0), (16, .new 18, 3, 5, 0, 0, 0), (19, .dup, 1, 0, 0, 0, 0), (20, .invokespecial 20, 3, 5, 0, 2, 0), (23, .putfield 21, 3, 6, 1, 1, 0), (26, .aload_n 0, 1, 0, 0, 0, 0), (27, .new 25, 3, 2, 0, 0, 0), (30, .dup, 1, 0, 0, 0, 0), (31, .invokespecial 27, 3, 2, 0, 1, 0), (34, .putfield 28, 3, 6, 2, 1, 0), (37, .aload_n 0, 1, 0, 0, 0, 0), (38, .new 32, 3, 0, 0, 0, 0), (41, .dup, 1, 0, 0, 0, 0), (42, .invokespecial 34, 3, 0, 0, 1, 0), (45, .putfield 35, 3, 6, 3, 1, 0), (48, .return_, 1, 0, 0, 0, 0)]
def bcX7 : zCd := [(0, .aload_n 0, 1, 0, 0, 0, 0), (1, .invokespecial 3, 3, 0, 0, 0, 0), (4, .aload_n 0, 1, 0, 0, 0, 0), (5, .sipush 400, 3, 0, 0, 0, 400), (8, .newarray .int, 2, 0, 0, 0, 0), (10, .putfield 9, 3, 7, 0, 1, 0), (13, .aload_n 0, 1, 0, 0, 0, 0), (14, .iconst (-1), 1, 0, 0, 0, (-1)), (15, .putfield 15, 3, 7, 2, 0, 0), (18, .return_, 1, 0, 0, 0, 0)]
def bcX9 : zCd := [(0, .aload_n 0, 1, 0, 0, 0, 0), (1, .invokespecial 3, 3, 0, 0, 0, 0), (4, .aload_n 0, 1, 0, 0, 0, 0), (5, .sipush 2304, 3, 0, 0, 0, 2304), (8, .newarray .int, 2, 0, 0, 0, 0), (10, .putfield 11, 3, 8, 0, 1, 0), (13, .return_, 1, 0, 0, 0, 0)]
def bcX10 : zCd := [(0, .aload_n 0, 1, 0, 0, 0, 0), (1, .invokespecial 3, 3, 0, 0, 0, 0), (4, .aload_n 0, 1, 0, 0, 0, 0), (5, .bipush 8, 2, 0, 0, 0, 8), (7, .newarray .int, 2, 0, 0, 0, 0), (9, .putfield 9, 3, 9, 0, 1, 0), (12, .return_, 1, 0, 0, 0, 0)]
def bcX11 : zCd := [(0, .aload_n 0, 1, 0, 0, 0, 0), (1, .invokespecial 1, 3, 0, 0, 0, 0), (4, .aload_n 0, 1, 0, 0, 0, 0), (5, .new 7, 3, 7, 0, 0, 0), (8, .dup, 1, 0, 0, 0, 0), (9, .invokespecial 9, 3, 7, 0, 1, 0), (12, .putfield 10, 3, 10, 0, 1, 0), (15, .aload_n 0, 1, 0, 0, 0, 0), (16, .new 16, 3, 6, 0, 0, 0), (19, .dup, 1, 0, 0, 0, 0), (20, .invokespecial 18, 3, 6, 0, 1, 0), (23, .putfield 19, 3, 10, 1, 1, 0), (26, .aload_n 0, 1, 0, 0, 0, 0), (27, .new 16, 3, 6, 0, 0, 0), (30, .dup, 1, 0, 0, 0, 0), (31, .invokespecial 18, 3, 6, 0, 1, 0), (34, .putfield 23, 3, 10, 2, 1, 0), (37, .aload_n 0, 1, 0, 0, 0, 0), (38, .new 16, 3, 6, 0, 0, 0), (41, .dup, 1, 0, 0, 0, 0), (42, .invokespecial 18, 3, 6, 0, 1, 0), (45, .putfield 26, 3, 10, 3, 1, 0), (48, .aload_n 0, 1, 0, 0, 0, 0), (49, .bipush 12, 2, 0, 0, 0, 12), (51, .anewarray 29, 3, 0, 0, 0, 0), (54, .putfield 31, 3, 10, 5, 1, 0), (57, .aload_n 0, 1, 0, 0, 0, 0), (58, .new 35, 3, 8, 0, 0, 0), (61, .dup, 1, 0, 0, 0, 0), (62, .invokespecial 37, 3, 8, 0, 1, 0), (65, .putfield 38, 3, 10, 8, 1, 0), (68, .aload_n 0, 1, 0, 0, 0, 0), (69, .new 42, 3, 4, 0, 0, 0), (72, .dup, 1, 0, 0, 0, 0), (73, .invokespecial 44, 3, 4, 0, 1, 0), (76, .putfield 45, 3, 10, 9, 1, 0), (79, .aload_n 0, 1, 0, 0, 0, 0), (80, .new 49, 3, 9, 0, 0, 0), (83, .dup, 1, 0, 0, 0, 0), (84, .invokespecial 51, 3, 9, 0, 1, 0), (87, .putfield 52, 3, 10, 10, 1, 0), (90, .aload_n 0, 1, 0, 0, 0, 0), (91, .bipush 8, 2, 0, 0, 0, 8), (93, .newarray .int, 2, 0, 0, 0, 0), (95, .putfield 56, 3, 10, 11, 1, 0), (98, .iconst 0, 1, 0, 0, 0, 0), (99, .istore_n 1, 1, 0, 0, 0, 0), (100, .iload_n 1, 1, 0, 0, 0, 0), (101, .bipush 12, 2, 0, 0, 0, 12), (103, .if_icmp .ge 22, 3, 0, 0, 0, 0), (106, .aload_n 0, 1, 0, 0, 0, 0), (107, .getfield 31, 3, 10, 5, 1, 0), (110, .iload_n 1, 1, 0, 0, 0, 0), (111, .new 29, 3, 1, 0, 0, 0), (114, .dup, 1, 0, 0, 0, 0), (115, .invokespecial 60, 3, 1, 0, 1, 0), (118, .aastore, 1, 0, 0, 0, 0), (119, .iinc 1 1, 3, 0, 0, 0, 1), (122, .goto (-22), 3, 0, 0, 0, 0), (125, .return_, 1, 0, 0, 0, 0)]
def bcX12 : zCd := [(0, .aload_n 0, 1, 0, 0, 0, 0), (1, .invokespecial 7, 3, 0, 0, 0, 0), (4, .aload_n 0, 1, 0, 0, 0, 0), (5, .sipush 2173, 3, 0, 0, 0, 2173), (8, .newarray .int, 2, 0, 0, 0, 0), (10, .putfield 13, 3, 11, 1, 1, 0), (13, .aload_n 0, 1, 0, 0, 0, 0), (14, .sipush 1324, 3, 0, 0, 0, 1324), (17, .newarray .int, 2, 0, 0, 0, 0), (19, .putfield 17, 3, 11, 2, 1, 0), (22, .aload_n 0, 1, 0, 0, 0, 0), (23, .sipush 1324, 3, 0, 0, 0, 1324), (26, .newarray .int, 2, 0, 0, 0, 0), (28, .putfield 20, 3, 11, 3, 1, 0), (31, .aload_n 0, 1, 0, 0, 0, 0), (32, .sipush 475, 3, 0, 0, 0, 475), (35, .newarray .int, 2, 0, 0, 0, 0), (37, .putfield 23, 3, 11, 4, 1, 0), (40, .aload_n 0, 1, 0, 0, 0, 0), (41, .sipush 5700, 3, 0, 0, 0, 5700), (44, .newarray .int, 2, 0, 0, 0, 0), (46, .putfield 26, 3, 11, 5, 1, 0), (49, .aload_n 0, 1, 0, 0, 0, 0), (50, .sipush 144, 3, 0, 0, 0, 144), (53, .newarray .int, 2, 0, 0, 0, 0), (55, .putfield 29, 3, 11, 8, 1, 0), (58, .aload_n 0, 1, 0, 0, 0, 0), (59, .sipush 400, 3, 0, 0, 0, 400), (62, .newarray .byte, 2, 1, 0, 0, 0), (64, .putfield 32, 3, 11, 9, 1, 0), (67, .aload_n 0, 1, 0, 0, 0, 0), (68, .iconst (-1), 1, 0, 0, 0, (-1)), (69, .putfield 36, 3, 11, 15, 0, 0), (72, .aload_n 0, 1, 0, 0, 0, 0), (73, .iconst 5, 1, 0, 0, 0, 5), (74, .newarray .int, 2, 0, 0, 0, 0), (76, .putfield 39, 3, 11, 16, 1, 0), (79, .aload_n 0, 1, 0, 0, 0, 0), (80, .sipush 400, 3, 0, 0, 0, 400), (83, .newarray .int, 2, 0, 0, 0, 0), (85, .putfield 42, 3, 11, 18, 1, 0), (88, .aload_n 0, 1, 0, 0, 0, 0), (89, .sipush 2304, 3, 0, 0, 0, 2304), (92, .newarray .int, 2, 0, 0, 0, 0), (94, .putfield 45, 3, 11, 24, 1, 0), (97, .aload_n 0, 1, 0, 0, 0, 0), (98, .sipush 201, 3, 0, 0, 0, 201), (101, .newarray .int, 2, 0, 0, 0, 0), (103, .putfield 48, 3, 11, 25, 1, 0), (106, .aload_n 0, 1, 0, 0, 0, 0), (107, .sipush 256, 3, 0, 0, 0, 256), (110, .newarray .int, 2, 0, 0, 0, 0), (112, .putfield 51, 3, 11, 26, 1, 0), (115, .aload_n 0, 1, 0, 0, 0, 0), (116, .bipush 8, 2, 0, 0, 0, 8), (118, .newarray .int, 2, 0, 0, 0, 0), (120, .putfield 54, 3, 11, 27, 1, 0), (123, .aload_n 0, 1, 0, 0, 0, 0), (124, .getfield 13, 3, 11, 1, 1, 0), (127, .iconst 4, 1, 0, 0, 0, 4), (128, .bipush 60, 2, 0, 0, 0, 60), (130, .iastore, 1, 0, 0, 0, 0), (131, .aload_n 0, 1, 0, 0, 0, 0), (132, .getfield 13, 3, 11, 1, 1, 0), (135, .iconst 5, 1, 0, 0, 0, 5), (136, .bipush 20, 2, 0, 0, 0, 20), (138, .iastore, 1, 0, 0, 0, 0), (139, .aload_n 0, 1, 0, 0, 0, 0), (140, .getfield 13, 3, 11, 1, 1, 0), (143, .bipush 6, 2, 0, 0, 0, 6), (145, .iconst 2, 1, 0, 0, 0, 2), (146, .iastore, 1, 0, 0, 0, 0), (147, .aload_n 0, 1, 0, 0, 0, 0), (148, .getfield 13, 3, 11, 1, 1, 0), (151, .bipush 10, 2, 0, 0, 0, 10), (153, .iconst 1, 1, 0, 0, 0, 1), (154, .iastore, 1, 0, 0, 0, 0), (155, .aload_n 0, 1, 0, 0, 0, 0)]
def bNs : List (Nat × Nat × Nat) := [(1, 20, 3), (6, 11, 1), (6, 27, 2), (6, 34, 0), (11, 9, 7), (11, 18, 6), (11, 37, 8), (11, 44, 4), (11, 51, 9), (11, 60, 1)]
abbrev bTT : Type := MethodName × ByteArray × Nat × Nat × Nat × Nat × Nat × zCd
def bTb : List bTT := [
  (yX0_init, cX0_init, 1, 0, 2, 16, 20, bcX0),
  (yX1_init, cX1_init, 1, 1, 4, 323, 53, bcX1),
  (yX2_init, cX2_init, 1, 2, 6, 480, 58, bcX2),
  (yX3_init, cX3_init, 1, 3, 1, 240, 13, bcX3),
  (yX4_init, cX4_init, 1, 4, 1, 256, 13, bcX4),
  (yX5_init, cX5_init, 2, 5, 2, 288, 58, bcX5),
  (yX6_init, cX6_init, 1, 6, 18, 1136, 48, bcX6),
  (yX7_init, cX7_init, 1, 7, 1, 400, 18, bcX7),
  (yX9_init, cX9_init, 1, 9, 1, 2304, 13, bcX9),
  (yX10_init, cX10_init, 1, 10, 1, 8, 12, bcX10),
  (yX11_init, cX11_init, 2, 11, 127, 10441, 125, bcX11),
  (yX12_init, cX12_init, 1, 12, 13, 14714, 156, bcX12),
  (yJ7_fill_53178, cJ7_fill_53178, 4, 15, 0, 0, 20, zcJ7_fill_53178)]
def bT (y : Nat) : bTT := bTb.getD y (⟨"", "", ""⟩, .empty, 0, 99, 0, 0, 0, [])
def bY (y : Nat) : MethodName := (bT y).1
def bBy (y : Nat) : ByteArray := (bT y).2.1
def bMx (y : Nat) : Nat := (bT y).2.2.1
def bOw (y : Nat) : Nat := (bT y).2.2.2.1
def bKc (y : Nat) : Nat := (bT y).2.2.2.2.1
def bKs (y : Nat) : Nat := (bT y).2.2.2.2.2.1
def bSp (y : Nat) : Nat := (bT y).2.2.2.2.2.2.1
def bCd (y : Nat) : zCd := (bT y).2.2.2.2.2.2.2
def bS : bC → Nat
  | .inl (_, n, _) => n
  | .inr (.inl l) => l.length
  | .inr (.inr (_, fs)) => fs.length
def bSz (M : List bC) : Nat := (M.map bS).sum
def bRf (n : Nat) (v : Value) : Bool := match v with
  | .ref x => decide (x < n)
  | _ => true
def bOc (n : Nat) : bC → Bool
  | .inl _ => true
  | .inr (.inl l) => l.all fun o => match o with
    | some x => decide (x < n)
    | none => true
  | .inr (.inr (_, fs)) => fs.all (bRf n)
def bOk (ls : zLs) (st : List Value) (M : List bC) : Bool := M.all (bOc M.length) && st.all (bRf M.length) && ls.all (fun q => bRf M.length q.2)
def bDef (a : Nat) : List Value := (zFk a).map fun o => match o with
  | none => .int 0
  | some _ => .null
section OI
variable {α : Type}
def oIf (b : Bool) (x : Option α) : Option α := match b with
  | true => x
  | false => none
def oI1 (st : List Value) (k : Int32 → List Value → Option α) : Option α := match st with
  | .int x :: r => k x r
  | _ => none
def oI2 (st : List Value) (k : Int32 → Int32 → List Value → Option α) : Option α := match st with
  | .int y :: .int x :: r => k y x r
  | _ => none
def oR1 (st : List Value) (k : Nat → List Value → Option α) : Option α := match st with
  | .ref a :: r => k a r
  | _ => none
def oV1 (st : List Value) (k : Value → List Value → Option α) : Option α := match st with
  | v :: r => k v r
  | _ => none
def oVR (st : List Value) (k : Value → Nat → List Value → Option α) : Option α := match st with
  | v :: .ref a :: r => k v a r
  | _ => none
def oIR (st : List Value) (k : Int32 → Nat → List Value → Option α) : Option α := match st with
  | .int x :: .ref a :: r => k x a r
  | _ => none
def oIIR (st : List Value) (k : Int32 → Int32 → Nat → List Value → Option α) : Option α := match st with
  | .int x :: .int i :: .ref a :: r => k x i a r
  | _ => none
def oRIR (st : List Value) (k : Nat → Int32 → Nat → List Value → Option α) : Option α := match st with
  | .ref x :: .int i :: .ref a :: r => k x i a r
  | _ => none
def oLi (ls : zLs) (i : Nat) (k : Int32 → Option α) : Option α := match zLk ls i with
  | some (.int x) => k x
  | _ => none
def oLr (ls : zLs) (i : Nat) (k : Nat → Option α) : Option α := match zLk ls i with
  | some (.ref x) => k x
  | _ => none
def oJ (pc : Nat) (o : Int) (k : Nat → Option α) : Option α := match (pc : Int) + o with
  | .ofNat t => k t
  | .negSucc _ => none
def oA (M : List bC) (x : Nat) (k : Nat → (Nat → Int32) → Option α) : Option α := match M[x]? with
  | some (.inl (0, n, f)) => k n f
  | _ => none
def oQ (M : List bC) (x : Nat) (k : List (Option Nat) → Option α) : Option α := match M[x]? with
  | some (.inr (.inl l)) => k l
  | _ => none
def oO (M : List bC) (x a : Nat) (k : List Value → Option α) : Option α := match M[x]? with
  | some (.inr (.inr (c, fs))) => oIf (c == a) (k fs)
  | _ => none
def oG (o : Option α) (k : α → Option α) : Option α := match o with
  | some x => k x
  | none => none
end OI
def bFit (k : Nat) (v : Value) : Bool := match k, v with
  | 0, .int _ => true
  | 1, .ref _ => true
  | _, _ => false
def bAl (ls : zLs) (st : List Value) (M : List bC) (mx sx n : Nat) : Bool := bOk ls st M && decide (M.length + 1 ≤ mx) && decide (bSz M + n ≤ sx)
abbrev bRes : Type := Nat × zLs × List Value × List bC
def bCl (call : Nat → List Value → List bC → Option (List bC)) (y : Nat) (as : List Value) (M : List bC) (mx sx : Nat) (k : List bC → Option bRes) : Option bRes := match call y as M with
  | some M1 => oIf (decide (y < 13) && decide (M1.length = M.length + bKc y) && decide (bSz M1 = bSz M + bKs y) && decide (M1.length ≤ mx) && decide (bSz M1 ≤ sx)) (k M1)
  | none => none
def bSt (call : Nat → List Value → List bC → Option (List bC)) (cd : zCd) (mx sx pc : Nat) (ls : zLs) (st : List Value) (M : List bC) : Option bRes := match zLk cd pc with
  | none => none
  | some (i, _, a, b, k, v) => match i with
    | .iadd => oI2 st fun y x r => some (pc + 1, ls, .int (x + y) :: r, M)
    | .imul => oI2 st fun y x r => some (pc + 1, ls, .int (x * y) :: r, M)
    | .iconst _ => some (pc + 1, ls, .int v :: st, M)
    | .bipush _ => some (pc + 2, ls, .int v :: st, M)
    | .sipush _ => some (pc + 3, ls, .int v :: st, M)
    | .dup => oV1 st fun w r => oIf (w.category == 1) (some (pc + 1, ls, w :: w :: r, M))
    | .iload_n j => oLi ls j fun x => some (pc + 1, ls, .int x :: st, M)
    | .aload_n j => oLr ls j fun x => some (pc + 1, ls, .ref x :: st, M)
    | .istore_n j => oI1 st fun x r => some (pc + 1, zSet ls j (.int x), r, M)
    | .astore_n j => oR1 st fun x r => some (pc + 1, zSet ls j (.ref x), r, M)
    | .iinc j _ => oLi ls j fun x => some (pc + 3, zSet ls j (.int (x + v)), st, M)
    | .goto o => oJ pc o fun t => some (t, ls, st, M)
    | .if_icmp .ge o => oI2 st fun y x r => oJ pc o fun t => match decide (y ≤ x) with
      | true => some (t, ls, r, M)
      | false => some (pc + 3, ls, r, M)
    | .arraylength => oR1 st fun x r => oA M x fun n _ => some (pc + 1, ls, .int (Int32.ofNat n) :: r, M)
    | .new _ => oIf (bAl ls st M mx sx (bDef a).length) (some (pc + 3, ls, .ref M.length :: st, M ++ [.inr (.inr (a, bDef a))]))
    | .newarray _ => oI1 st fun x r => oIf (bAl ls r M mx sx x.toNatClampNeg && decide (¬ x < 0) && decide (x.toNatClampNeg ≤ 10000)) (some (pc + 2, ls, .ref M.length :: r, M ++ [.inl (a, x.toNatClampNeg, fun _ => 0)]))
    | .anewarray _ => oI1 st fun x r => oIf (bAl ls r M mx sx x.toNatClampNeg && decide (¬ x < 0) && decide (x.toNatClampNeg ≤ 10000)) (some (pc + 3, ls, .ref M.length :: r, M ++ [.inr (.inl (List.replicate x.toNatClampNeg none))]))
    | .getfield _ => oR1 st fun x r => oO M x a fun fs => match fs[b]? with
      | some w => some (pc + 3, ls, w :: r, M)
      | none => none
    | .putfield _ => oVR st fun w x r => oO M x a fun fs => oIf (bFit k w && decide (b < fs.length)) (some (pc + 3, ls, r, M.set x (.inr (.inr (a, fs.set b w)))))
    | .iastore => oIIR st fun w i x r => oA M x fun n f => oIf (decide (¬ (i < 0 ∨ n ≤ i.toNatClampNeg))) (some (pc + 1, ls, r, M.set x (.inl (0, n, upd f i.toNatClampNeg w))))
    | .aastore => oRIR st fun w i x r => oQ M x fun l => oO M w 1 fun _ => oIf (decide (¬ (i < 0 ∨ l.length ≤ i.toNatClampNeg))) (some (pc + 1, ls, r, M.set x (.inr (.inl (l.set i.toNatClampNeg (some w))))))
    | .invokespecial _ => match k with
      | 0 => oR1 st fun _ r => oIf (decide (r.length ≤ 4)) (some (pc + 3, ls, r, M))
      | _ => oR1 st fun x r => oIf (bOk ls st M && decide (r.length ≤ 4) && decide (a < 12)) (bCl call a [.ref x] M mx sx fun M1 => some (pc + 3, ls, r, M1))
    | .invokestatic _ => oIR st fun x q r => oIf (bOk ls st M && decide (r.length ≤ 4)) (bCl call 12 [.ref q, .int x] M mx sx fun M1 => some (pc + 3, ls, r, M1))
    | _ => none
def bRun (call : Nat → List Value → List bC → Option (List bC)) (cd : zCd) (mx sx stop : Nat) : Nat → Nat → zLs → List Value → List bC → Option (zLs × List Value × List bC)
  | 0, _, _, _, _ => none
  | n + 1, pc, ls, st, M => match Nat.beq pc stop with
    | true => some (ls, st, M)
    | false => match bSt call cd mx sx pc ls st M with
      | some (pc1, ls1, st1, M1) => oIf (decide (M.length ≤ M1.length) && decide (bSz M ≤ bSz M1)) (bRun call cd mx sx stop n pc1 ls1 st1 M1)
      | none => none
def bEnd (y : Nat) (M : List bC) (o : Option (zLs × List Value × List bC)) : Option (List bC) := match o with
  | some (_, [], M1) => oIf (decide (M1.length = M.length + bKc y) && decide (bSz M1 = bSz M + bKs y)) (some M1)
  | _ => none
def bCall : Nat → Nat → List Value → List bC → Option (List bC)
  | 0, _, _, _ => none
  | d + 1, y, as, M => oIf (as.all (fun v => v.category == 1) && decide (as.length ≤ bMx y) && decide (y < 13) && !decide (y = 11)) (bEnd y M (bRun (bCall d) (bCd y) (M.length + bKc y) (bSz M + bKs y) (bSp y) 4000 0 (lv_args 0 as) [] M))
