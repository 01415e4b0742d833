/-! the code seen as a whole: owners, sides, throws, heights of the stack -/
def yOos : List Nat := [0, 0, 0, 0, 0, 1, 1, 1, 1, 1, 1, 1, 1, 1, 1, 1, 1, 1, 1, 1, 1, 1, 1, 1, 1, 1, 2, 2, 2, 2, 2, 2, 2, 2, 2, 2, 2, 3, 3, 3, 3, 3, 4, 4, 4, 4, 4, 4, 4, 5, 5, 5, 5, 5, 5, 5, 5, 5, 5, 6, 6, 6, 6, 6, 6, 6, 6, 6, 6, 7, 7, 7, 7, 7, 7, 7, 7, 7, 7, 7, 7, 7, 7, 7, 8, 8, 8, 8, 8, 8, 8, 8, 8, 8, 9, 9, 9, 9, 9, 9, 9, 9, 9, 10, 10, 10, 10, 11, 11, 11, 11, 11, 11, 11, 11, 11, 11, 11, 11, 11, 11, 11, 11, 11, 11, 11, 11, 11, 11, 11, 11, 11, 11, 11, 11, 11, 11, 11, 11, 11, 11, 11, 11, 11, 11, 11, 11, 11, 11, 11, 11, 11, 11, 11, 11, 11, 11, 11, 11, 11, 11, 11, 11, 11, 11, 11, 11, 11, 11, 11, 11, 11, 11, 11, 11, 11, 11, 11, 11, 12, 12, 12, 12, 12, 12, 12, 12, 12, 12, 12, 12, 12, 12, 12, 12, 12, 12, 12, 12, 12, 12, 12, 12, 12, 12, 12, 12, 12, 12, 12, 12, 12, 12, 12, 12, 12, 12, 12, 12, 12, 12, 12, 12, 12, 12, 12, 12, 12, 12, 12, 12, 12, 12, 12, 12, 12, 12, 12, 12, 12, 12, 12, 12, 12, 12, 12, 12, 12, 12, 12, 12, 12, 12, 12, 12, 12, 12, 12, 12, 12, 12, 12, 12, 12, 12, 12, 12, 12, 12, 12, 12, 12, 12, 12, 12, 12, 12, 12, 12, 12, 12, 12, 12, 12, 12, 12, 12, 12, 12, 12, 12, 12, 12, 12, 12, 12, 12, 12, 12, 12, 12, 12, 12, 12, 12, 12, 12, 12, 12, 12, 12, 12, 12, 12, 12, 12, 12, 12, 12, 12, 12, 12, 12, 12, 12, 12, 14, 14, 15, 13, 13, 13, 13, 13, 13, 13, 13, 13, 13, 13, 13, 13, 13, 13, 13, 13, 13, 13, 13, 13, 13, 13, 13, 13, 13, 13, 13, 13, 13, 13, 13, 7, 8]
theorem yOos_ok : (zMts.map fun t => t.2.2.2.2.2.1) = yOos := by decide +kernel
theorem yOos_len : yOos.length = 363 := by decide +kernel
theorem zOo_eq {y : Nat} (hy : y < 363) : zOo y = yOos.getD y 99 := by
  have h1 : y < yOos.length := by rw [yOos_len]; exact hy
  have h2 : y < zMts.length := by
    rw [← yOos_ok, List.length_map] at h1
    exact h1
  unfold zOo zMt
  rw [← yOos_ok, List.getD_eq_getElem?_getD, List.getD_eq_getElem?_getD, List.getElem?_map, List.getElem?_eq_getElem h2]
  rfl
def ySb (o : Nat) (b : Bool) : Bool := o == 14 || o == 15 || ((o == 12) == b)
def yCal (o o2 : Nat) : Bool := o2 == 14 || o2 == 15 || (!(o == 14) && !(o == 15) && ((o2 == 12) == (o == 12)))
theorem ySb_go {o o2 : Nat} {b : Bool} (h : ySb o b = true) (hc : yCal o o2 = true) : ySb o2 b = true := by
  unfold ySb yCal at *
  revert h hc
  cases (o == 14) <;> cases (o == 15) <;> cases (o == 12) <;> cases (o2 == 14) <;> cases (o2 == 15) <;> cases (o2 == 12) <;> cases b <;> decide
theorem zSs_own {own idx a : Nat} {b : Bool} (h : (own, idx, a) ∈ zSs) (hb : ySb own b = true) : (own == 12) = b := by
  have h1 := List.all_eq_true.mp (show zSs.all (fun x => !(x.1 == 14) && !(x.1 == 15)) = true by decide +kernel) _ h
  simp only [Bool.and_eq_true, Bool.not_eq_true'] at h1
  unfold ySb at hb
  rw [h1.1, h1.2] at hb
  exact eq_of_beq hb
/-- a call stays on its side: the class's own methods, the reference's -/
def ySd (own : Nat) (x : zIn) : Bool := match x with
  | (.invokevirtual _, _, a, _, k, _) => decide (k = 50) || decide (k = 51) || own == 13 || yCal own (yOos.getD a 99)
  | (.invokestatic _, _, a, _, k, _) => !decide (k = 0) || own == 13 || yCal own (yOos.getD a 99)
  | _ => true
/-- what runs in the world of 142 cells -/
def yS : List Nat := [193, 197, 198]
def yEnt (x : zIn) : Bool := match x with
  | (.laload, _) => false
  | (.lastore, _) => false
  | (.arraylength, _) => false
  | (.invokevirtual _, _, a, _, k, _) => decide (k = 50) || decide (k = 51) || yS.contains a
  | (.invokestatic _, _, a, _, k, _) => !decide (k = 0) || yS.contains a
  | _ => true
def yNew (bs : ByteArray) (own pc : Nat) (x : zIn) : Bool := match x with
  | (.new ik, n, _, _, _, v) => own == 13 || ((n == 3 && own == 11) && yExs.any fun q => decide (q.1 = v) && q.2.2.1 == ik && zMsg.any fun i => decide (decode bs (pc + 3) = .ok (.dup, 1)) && ((decide (decode bs (pc + 4) = .ok (.ldc i, 2)) && decide (decode bs (pc + 6) = .ok (.invokespecial q.2.2.2, 3)) && decide (decode bs (pc + 9) = .ok (.athrow, 1))) || (decide (decode bs (pc + 4) = .ok (.ldc_w i, 3)) && decide (decode bs (pc + 7) = .ok (.invokespecial q.2.2.2, 3)) && decide (decode bs (pc + 10) = .ok (.athrow, 1)))))
  | _ => true
theorem yCk_ok : (zMts.all fun t => t.2.2.2.2.2.2.2.all fun x => ySd t.2.2.2.2.2.1 x.2 && yNew t.2.1 t.2.2.2.2.2.1 x.1 x.2) = true := by decide +kernel
theorem yCk {y : Nat} (hy : y < 363) {pc : Nat} {x : zIn} (h : zLk (zCode y) pc = some x) : ySd (zOo y) x = true ∧ yNew (zBy y) (zOo y) pc x = true := by
  have h1 := List.all_eq_true.mp (List.all_eq_true.mp yCk_ok _ (zMt_in hy)) _ (zLk_mem h)
  simp only [Bool.and_eq_true] at h1
  exact h1
theorem yS_ok : (yS.all fun y => decide (y < 363) && (zCode y).all fun x => yEnt x.2) = true := by decide +kernel
theorem yS_in {y : Nat} (hy : yS.contains y = true) {pc : Nat} {x : zIn} (h : zLk (zCode y) pc = some x) : yEnt x = true := by
  have h1 := List.all_eq_true.mp yS_ok y (List.contains_iff_mem.mp hy)
  simp only [Bool.and_eq_true] at h1
  exact List.all_eq_true.mp h1.2 _ (zLk_mem h)
/-- how high the stack may stand -/
def yDs : List (Nat × List (Nat × Nat)) := [
  (109, [(0, 0), (1, 1), (4, 1), (5, 2), (8, 2), (11, 1), (12, 2), (15, 2), (18, 2), (19, 3), (22, 3), (23, 4), (26, 4), (29, 3), (30, 4), (33, 4), (36, 4), (37, 5), (40, 5), (43, 5), (44, 6), (47, 4), (57, 4), (58, 5), (61, 5), (64, 5), (67, 5), (69, 6), (72, 4), (82, 4), (83, 5), (86, 5), (87, 6), (90, 6), (93, 5), (94, 6), (97, 6), (100, 6), (101, 7), (104, 7), (105, 8), (106, 7), (109, 5), (110, 6), (113, 6), (116, 6), (119, 6), (120, 7), (123, 7), (126, 7), (127, 8), (128, 9), (131, 7), (132, 8), (135, 8), (138, 8), (141, 8)]),
  (110, [(0, 0), (1, 1), (4, 1), (7, 1), (10, 1), (11, 2), (14, 2), (17, 2), (18, 3), (21, 3), (22, 4), (25, 4), (28, 4), (31, 3), (32, 4), (35, 4), (38, 4), (39, 5), (42, 5), (45, 5), (46, 6), (49, 4), (59, 4), (60, 5), (63, 5), (66, 5), (67, 6), (70, 6), (73, 6), (76, 5), (77, 6), (78, 7), (81, 5), (82, 6), (85, 6), (88, 6), (91, 6)]),
  (112, [(0, 0), (1, 1), (2, 2), (5, 1), (6, 2), (9, 1), (10, 2), (12, 3), (15, 1), (25, 1), (26, 2)]),
  (116, [(0, 0), (1, 1), (2, 2), (5, 0), (6, 1), (8, 2), (11, 0), (21, 0), (22, 1), (25, 1), (26, 2), (27, 1), (28, 2)]),
  (117, [(0, 0), (1, 1), (2, 2), (5, 1), (6, 2), (7, 3), (10, 1), (11, 2), (14, 3), (17, 1), (27, 1), (28, 2), (31, 2), (34, 3), (35, 4), (38, 4), (41, 4), (42, 5), (43, 6), (46, 4), (47, 5), (48, 4), (51, 3), (52, 2), (53, 3), (56, 3), (59, 3), (60, 4), (61, 5), (62, 6), (65, 3), (66, 4)]),
  (121, [(0, 0), (1, 1), (4, 0), (5, 1), (8, 2), (11, 0), (21, 0), (22, 1), (25, 1), (26, 2), (29, 2), (32, 2), (35, 2), (36, 1), (37, 2), (40, 2), (43, 2), (44, 3), (47, 1), (48, 2)]),
  (122, [(0, 0), (1, 1), (4, 0), (5, 1), (7, 2), (10, 0), (20, 0), (21, 1), (24, 1), (25, 2), (28, 2), (31, 2), (34, 2), (35, 1), (36, 2), (39, 2), (42, 2), (43, 3), (46, 1), (47, 2)]),
  (123, [(0, 0), (1, 1), (2, 2), (5, 1), (6, 2), (7, 3), (10, 2), (11, 3), (12, 4), (15, 3), (16, 4), (19, 4), (22, 4), (23, 5), (24, 6), (27, 4), (30, 3), (31, 4), (34, 3), (35, 4), (36, 3), (37, 4), (40, 4), (43, 4), (44, 5), (45, 6), (48, 4), (50, 3), (51, 4), (54, 4), (57, 4), (58, 5), (59, 6), (62, 4), (64, 3), (66, 4), (67, 5), (70, 3), (72, 4), (74, 5), (77, 3), (87, 3), (88, 4), (91, 4), (92, 5), (95, 5), (98, 5), (99, 6), (100, 7), (102, 8), (103, 9), (104, 8), (107, 5), (108, 6), (111, 6), (114, 6), (115, 7), (116, 8), (118, 9), (119, 10), (120, 9), (123, 6), (124, 7), (125, 8), (128, 6), (129, 7), (132, 6), (133, 7)]),
  (138, [(0, 0), (1, 1), (2, 2), (5, 1), (6, 2), (9, 2), (10, 3), (13, 2), (14, 3), (15, 4), (18, 2), (28, 2), (29, 3), (32, 3), (33, 4), (36, 4), (39, 3), (40, 4), (43, 4), (44, 5), (47, 4), (48, 5)]),
  (141, [(0, 0), (1, 1), (4, 1), (5, 2), (8, 2), (9, 3), (12, 3), (15, 3), (18, 3), (21, 1), (24, 0), (35, 0), (36, 1), (39, 1), (40, 2), (43, 2), (46, 1), (47, 2), (50, 1), (51, 2), (54, 2), (57, 2), (60, 1), (61, 2), (64, 2), (67, 2)]),
  (142, [(0, 0), (1, 1), (4, 1), (5, 2), (8, 2), (9, 3), (12, 3), (15, 3), (18, 3), (21, 1), (24, 0), (35, 0), (36, 1), (39, 1), (40, 2), (43, 2), (46, 1), (47, 2), (50, 2), (51, 3), (54, 3), (57, 3), (60, 3), (63, 2)]),
  (145, [(0, 0), (1, 1), (2, 2), (5, 1), (6, 2), (9, 1), (10, 2), (12, 3), (15, 1), (26, 1), (27, 2), (30, 2), (31, 3), (34, 2), (35, 3), (36, 2), (37, 3), (38, 4), (41, 2), (42, 3), (45, 3), (47, 2), (49, 3), (52, 2), (54, 3), (56, 4), (59, 2), (60, 3), (63, 3), (65, 4), (66, 6), (67, 5), (68, 6), (69, 5), (70, 2), (73, 2), (76, 2), (77, 3), (79, 4), (82, 2), (83, 3), (86, 3), (87, 4), (88, 3), (91, 2), (92, 3)]),
  (154, [(0, 0), (1, 1), (2, 2), (5, 1), (6, 2), (9, 1), (10, 2), (11, 3), (14, 1), (25, 1), (27, 2), (29, 3), (30, 4), (33, 4), (36, 4), (38, 5), (39, 6), (42, 6), (45, 6), (46, 7), (49, 4), (52, 3), (53, 2), (54, 1), (57, 2), (59, 1), (60, 2), (62, 1), (64, 2), (65, 3), (68, 1), (70, 2), (71, 3), (72, 2), (74, 3), (75, 2), (77, 1), (80, 1), (83, 1), (85, 2)]),
  (157, [(0, 0), (1, 1), (4, 0), (5, 1), (6, 2), (9, 0), (19, 0), (20, 1), (23, 1), (26, 1), (29, 1), (30, 2), (31, 3), (34, 1)]),
  (163, [(0, 0), (1, 1), (4, 0), (5, 1), (6, 2), (9, 2), (12, 2), (15, 2), (18, 0), (29, 0)]),
  (164, [(0, 0), (1, 1), (4, 0), (5, 1), (7, 2), (10, 0), (21, 0)]),
  (165, [(0, 0), (1, 1), (4, 0), (5, 1), (6, 2), (9, 0), (20, 0)]),
  (166, [(0, 0), (1, 1), (4, 0), (5, 1), (7, 2), (10, 0), (21, 0)]),
  (167, [(0, 0), (1, 1), (2, 2), (5, 0), (16, 0)]),
  (168, [(0, 0), (1, 1), (4, 0), (5, 1), (7, 2), (10, 0), (21, 0)])]
def yD (y pc : Nat) : Option Nat := match zLk yDs y with
  | some l => zLk l pc
  | none => none
def yLe (D : Nat → Option Nat) (pc t up down : Nat) : Bool := match D t with
  | none => true
  | some m => match D pc with
    | none => false
    | some n => decide (n + up ≤ m + down)
def yDk (D : Nat → Option Nat) (pc : Nat) (x : zIn) : Bool := match x with
  | (i, _, _, b, k, _) => match i with
    | .aload_n _ => yLe D pc (pc + 1) 1 0
    | .iload_n _ => yLe D pc (pc + 1) 1 0
    | .iconst _ => yLe D pc (pc + 1) 1 0
    | .iload _ => yLe D pc (pc + 2) 1 0
    | .aload _ => yLe D pc (pc + 2) 1 0
    | .bipush _ => yLe D pc (pc + 2) 1 0
    | .sipush _ => yLe D pc (pc + 3) 1 0
    | .istore_n _ => yLe D pc (pc + 1) 0 1
    | .istore _ => yLe D pc (pc + 2) 0 1
    | .iinc _ _ => yLe D pc (pc + 3) 0 0
    | .iadd => yLe D pc (pc + 1) 0 1
    | .isub => yLe D pc (pc + 1) 0 1
    | .imul => yLe D pc (pc + 1) 0 1
    | .idiv => yLe D pc (pc + 1) 0 1
    | .dup => yLe D pc (pc + 1) 1 0
    | .dup2 => yLe D pc (pc + 1) 2 0
    | .goto o => yLe D pc ((pc : Int) + o).toNat 0 0
    | .ifCond _ o => yLe D pc ((pc : Int) + o).toNat 0 1 && yLe D pc (pc + 3) 0 1
    | .if_icmp _ o => yLe D pc ((pc : Int) + o).toNat 0 2 && yLe D pc (pc + 3) 0 2
    | .tableswitch o _ _ os => (D ((pc : Int) + o).toNat).isNone && os.toList.all fun o => (D ((pc : Int) + o).toNat).isNone
    | .getfield _ => yLe D pc (pc + 3) 0 0
    | .putfield _ => yLe D pc (pc + 3) 0 2
    | .iaload => yLe D pc (pc + 1) 0 1
    | .iastore => yLe D pc (pc + 1) 0 3
    | .invokevirtual _ => !decide (k = 50) && !decide (k = 51) && yLe D pc (pc + 3) 1 (b + 1)
    | .invokestatic _ => match k with
      | 0 => yLe D pc (pc + 3) 1 b
      | 1 => yLe D pc (pc + 3) 0 1
      | 2 => yLe D pc (pc + 3) 0 1
      | _ => false
    | .ireturn => true
    | .return_ => true
    | .new _ => match D pc with
      | some n => decide (n ≤ 12)
      | none => false
    | _ => false
def yNo (x : zIn) : Bool := match x.1 with
  | .new _ => false
  | _ => true
theorem yDs_ok : (List.range 363).all (fun y => zOo y == 13 || (zCode y).all (fun x => yNo x.2) || (decide (yD y 0 = some 0) && (zCode y).all fun x => yDk (yD y) x.1 x.2)) = true := by decide +kernel
