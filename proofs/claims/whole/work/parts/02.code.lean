/-! THE CODE: written by wip/whole/gen.py out of the listing -/
def mx_isw : Jvm.ClassFile.Instr → Bool | .tableswitch .. => true | .lookupswitch .. => true | _ => false
def mx_ilen : Jvm.ClassFile.Instr → Nat
  | .bipush _ => 2 | .sipush _ => 3 | .ldc _ => 2 | .ldc2_w _ => 3 | .iload _ => 2 | .lload _ => 2 | .aload _ => 2 | .istore _ => 2 | .lstore _ => 2 | .astore _ => 2 | .iinc _ _ => 3
  | .goto _ => 3 | .ifCond _ _ => 3 | .if_icmp _ _ => 3 | .getfield _ => 3 | .putfield _ => 3 | .new _ => 3 | .newarray _ => 2 | .anewarray _ => 3 | .invokestatic _ => 3 | .invokevirtual _ => 3 | .invokespecial _ => 3
  | _ => 1
def mx_chk (b : ByteArray) (e : Nat × Jvm.ClassFile.Instr) : Bool := match decode b e.1 with
  | .ok (i, len) => decide (i = e.2) && (mx_isw i || Nat.beq len (mx_ilen i))
  | _ => false
theorem mx_chk_ok {b : ByteArray} {pc : Nat} {i : Jvm.ClassFile.Instr} (h : mx_chk b (pc, i) = true) : ∃ len, decode b pc = .ok (i, len) ∧ (mx_isw i = true ∨ len = mx_ilen i) := by
  unfold mx_chk at h
  split at h
  · rename_i i2 len hd
    simp only [Bool.and_eq_true, decide_eq_true_eq, Bool.or_eq_true, Nat.beq_eq] at h
    obtain ⟨rfl, h2⟩ := h
    exact ⟨len, hd, h2⟩
  · cases h
def mx_ct0 : List (List (Nat × Jvm.ClassFile.Instr)) := [[(0, .aload_n 0), (1, .invokespecial 3), (4, .aload_n 0), (5, .new 9), (8, .dup), (9, .invokespecial 11), (12, .putfield 12), (15, .aload_n 0)],
  [(16, .new 16), (19, .dup), (20, .invokespecial 18), (23, .putfield 19), (26, .aload_n 0), (27, .new 23), (30, .dup), (31, .aload_n 0)],
  [(32, .getfield 19), (35, .invokespecial 25), (38, .putfield 28), (41, .aload_n 0), (42, .new 32), (45, .dup), (46, .invokespecial 34)],
  [(49, .putfield 35), (52, .aload_n 0), (53, .new 39), (56, .dup), (57, .bipush 32), (59, .invokespecial 41), (62, .putfield 44)],
  [(65, .return_)]]
def mx_ct1 : List (List (Nat × Jvm.ClassFile.Instr)) := [[(0, .aload_n 0), (1, .getfield 12), (4, .lload_n 1), (5, .invokevirtual 48), (8, .ireturn)]]
def mx_ct2 : List (List (Nat × Jvm.ClassFile.Instr)) := [[(0, .lload_n 0), (1, .bipush 8), (3, .iload_n 2), (4, .imul), (5, .lushr), (6, .l2i), (7, .sipush 255), (10, .iand), (11, .ireturn)]]
def mx_ct3 : List (List (Nat × Jvm.ClassFile.Instr)) := [[(0, .iload_n 1), (1, .invokestatic 52), (4, .ifCond .eq 19), (7, .iload_n 2), (8, .ifCond .lt 15), (11, .iload_n 2), (12, .iload_n 3), (13, .if_icmp .gt 10)],
  [(16, .iload_n 3), (17, .sipush 255), (20, .if_icmp .le 5), (23, .iconst (-1)), (24, .ireturn), (25, .aload_n 0), (26, .getfield 12), (29, .getfield 56)],
  [(32, .iload_n 1), (33, .iload_n 2), (34, .iload_n 3), (35, .invokevirtual 60), (38, .ireturn)]]
def mx_ct4 : List (List (Nat × Jvm.ClassFile.Instr)) := [[(0, .iload_n 0), (1, .ifCond .lt 13), (4, .iload_n 0), (5, .bipush 8), (7, .if_icmp .ge 7), (10, .iconst 1), (11, .goto 4), (14, .iconst 0), (15, .ireturn)]]
def mx_ct5 : List (List (Nat × Jvm.ClassFile.Instr)) := [[(0, .lload_n 1), (1, .invokestatic 66), (4, .ifCond .eq 18), (7, .iload_n 3), (8, .ifCond .lt 14), (11, .iload_n 3), (12, .bipush 6), (14, .if_icmp .gt 8)],
  [(17, .iload_n 3), (18, .iconst 3), (19, .if_icmp .ne 5), (22, .iconst (-1)), (23, .ireturn), (24, .aload_n 0), (25, .getfield 12), (28, .getfield 56), (31, .lload_n 1)],
  [(32, .iload_n 3), (33, .invokevirtual 70), (36, .ireturn)]]
def mx_ct6 : List (List (Nat × Jvm.ClassFile.Instr)) := [[(0, .iconst 0), (1, .istore_n 2), (2, .iload_n 2), (3, .bipush 8), (5, .if_icmp .ge 20), (8, .lload_n 0), (9, .iload_n 2), (10, .invokestatic 271), (13, .invokestatic 274)],
  [(16, .ifCond .eq 9), (19, .iinc 2 1), (22, .goto (-20)), (25, .iload_n 2), (26, .bipush 8), (28, .if_icmp .eq 18), (31, .iload_n 2)],
  [(32, .ifCond .le 18), (35, .lload_n 0), (36, .bipush 8), (38, .iload_n 2), (39, .imul), (40, .lushr), (41, .lconst 0), (42, .lcmp), (43, .ifCond .ne 7), (46, .iconst 1), (47, .goto 4)],
  [(50, .iconst 0), (51, .ireturn)]]
def mx_ct7 : List (List (Nat × Jvm.ClassFile.Instr)) := [[(0, .iload_n 0), (1, .invokestatic 268), (4, .ifCond .ne 21), (7, .iload_n 0), (8, .bipush 48), (10, .if_icmp .lt 9), (13, .iload_n 0), (14, .bipush 57)],
  [(16, .if_icmp .le 9), (19, .iload_n 0), (20, .bipush 46), (22, .if_icmp .ne 7), (25, .iconst 1), (26, .goto 4), (29, .iconst 0), (30, .ireturn)]]
def mx_ct8 : List (List (Nat × Jvm.ClassFile.Instr)) := [[(0, .iload_n 0), (1, .bipush 97), (3, .if_icmp .lt 13), (6, .iload_n 0), (7, .bipush 122), (9, .if_icmp .gt 7), (12, .iconst 1), (13, .goto 4)],
  [(16, .iconst 0), (17, .ireturn)]]
def mx_ct9 : List (List (Nat × Jvm.ClassFile.Instr)) := [[(0, .iload_n 1), (1, .ifCond .lt 21), (4, .iload_n 1), (5, .iconst 2), (6, .if_icmp .gt 16), (9, .lload_n 2), (10, .lconst 0), (11, .lcmp), (12, .ifCond .eq 12), (15, .lload_n 2)],
  [(16, .invokestatic 66), (19, .ifCond .ne 5), (22, .iconst 0), (23, .ireturn), (24, .aload_n 0), (25, .getfield 12), (28, .getfield 56), (31, .iload_n 1)],
  [(32, .lload_n 2), (33, .invokevirtual 74), (36, .iconst 1), (37, .ireturn)]]
def mx_ct10 : List (List (Nat × Jvm.ClassFile.Instr)) := [[(0, .aload_n 0), (1, .getfield 12), (4, .getfield 78), (7, .istore_n 1), (8, .aload_n 0), (9, .getfield 12), (12, .invokevirtual 82), (15, .iload_n 1)],
  [(16, .ireturn)]]
def mx_ct11 : List (List (Nat × Jvm.ClassFile.Instr)) := [[(0, .iload_n 1), (1, .invokestatic 52), (4, .ifCond .eq 14), (7, .iload_n 2), (8, .ifCond .lt 10), (11, .iload_n 2), (12, .sipush 255), (15, .if_icmp .le 5)],
  [(18, .iconst (-1)), (19, .ireturn), (20, .aload_n 0), (21, .getfield 19), (24, .getfield 85), (27, .iload_n 1), (28, .aaload), (29, .astore_n 3), (30, .aload_n 3), (31, .getfield 89)],
  [(34, .ifCond .eq 6), (37, .bipush (-3)), (39, .ireturn), (40, .aload_n 3), (41, .aload_n 0), (42, .getfield 12), (45, .iload_n 2), (46, .invokevirtual 95)],
  [(49, .aload_n 0), (50, .getfield 12), (53, .invokevirtual 82), (56, .aload_n 0), (57, .getfield 19), (60, .invokevirtual 99), (63, .aload_n 0)],
  [(64, .invokevirtual 102), (67, .pop), (68, .aload_n 3), (69, .invokevirtual 106), (72, .ireturn)]]
def mx_ct12 : List (List (Nat × Jvm.ClassFile.Instr)) := [[(0, .aload_n 0), (1, .getfield 28), (4, .aload_n 0), (5, .getfield 44), (8, .invokevirtual 261), (11, .istore_n 1), (12, .aload_n 0), (13, .getfield 35)],
  [(16, .aload_n 0), (17, .getfield 28), (20, .getfield 247), (23, .invokevirtual 264), (26, .iload_n 1), (27, .ireturn)]]
def mx_ct13 : List (List (Nat × Jvm.ClassFile.Instr)) := [[(0, .iload_n 1), (1, .invokestatic 52), (4, .ifCond .eq 18), (7, .aload_n 0), (8, .getfield 19), (11, .getfield 85), (14, .iload_n 1), (15, .aaload)],
  [(16, .getfield 89), (19, .ifCond .ne 5), (22, .iconst (-1)), (23, .ireturn), (24, .aload_n 0), (25, .getfield 19), (28, .iload_n 1), (29, .invokevirtual 109)],
  [(32, .aload_n 0), (33, .getfield 19), (36, .getfield 85), (39, .iload_n 1), (40, .aaload), (41, .invokevirtual 112), (44, .aload_n 0), (45, .getfield 19)],
  [(48, .invokevirtual 99), (51, .aload_n 0), (52, .getfield 19), (55, .invokevirtual 115), (58, .aload_n 0), (59, .invokevirtual 102), (62, .ireturn)]]
def mx_ct14 : List (List (Nat × Jvm.ClassFile.Instr)) := [[(0, .iload_n 1), (1, .invokestatic 52), (4, .ifCond .eq 13), (7, .iload_n 2), (8, .ifCond .lt 9), (11, .iload_n 2), (12, .bipush 7), (14, .if_icmp .le 5)],
  [(17, .iconst (-1)), (18, .ireturn), (19, .aload_n 0), (20, .getfield 19), (23, .getfield 85), (26, .iload_n 1), (27, .aaload), (28, .astore_n 3), (29, .aload_n 3), (30, .getfield 89)],
  [(33, .ifCond .ne 5), (36, .iconst 0), (37, .ireturn), (38, .iload_n 2), (39, .tableswitch 79 0 6 #[41, 46, 51, 56, 61, 66, 71])],
  [],
  [],
  [(80, .aload_n 3), (81, .invokevirtual 118), (84, .ireturn), (85, .aload_n 3), (86, .getfield 121), (89, .ireturn), (90, .aload_n 3), (91, .invokevirtual 106), (94, .ireturn), (95, .aload_n 3)],
  [(96, .getfield 124), (99, .ireturn), (100, .aload_n 3), (101, .getfield 127), (104, .ireturn), (105, .aload_n 3), (106, .getfield 130), (109, .ireturn), (110, .aload_n 3), (111, .getfield 133)],
  [(114, .getfield 137), (117, .ireturn), (118, .aload_n 0), (119, .getfield 19), (122, .iload_n 1), (123, .invokevirtual 142), (126, .ireturn)]]
def mx_ct15 : List (List (Nat × Jvm.ClassFile.Instr)) := [[(0, .aload_n 0), (1, .getfield 28), (4, .lload_n 1), (5, .invokevirtual 146), (8, .iconst (-1)), (9, .if_icmp .ne 7), (12, .iconst (-1)), (13, .goto 11)],
  [(16, .aload_n 0), (17, .getfield 28), (20, .lload_n 1), (21, .invokevirtual 149), (24, .ireturn)]]
def mx_ct16 : List (List (Nat × Jvm.ClassFile.Instr)) := [[(0, .aload_n 0), (1, .getfield 28), (4, .lload_n 1), (5, .invokevirtual 146), (8, .iconst (-1)), (9, .if_icmp .ne 7), (12, .iconst (-1)), (13, .goto 12)],
  [(16, .aload_n 0), (17, .getfield 28), (20, .lload_n 1), (21, .iload_n 3), (22, .invokevirtual 152), (25, .ireturn)]]
def mx_ct17 : List (List (Nat × Jvm.ClassFile.Instr)) := [[(0, .aload_n 0), (1, .getfield 19), (4, .iload_n 1), (5, .invokevirtual 155), (8, .ifCond .ne 5), (11, .iconst (-1)), (12, .ireturn), (13, .aload_n 0), (14, .getfield 19)],
  [(17, .iload_n 1), (18, .invokevirtual 158), (21, .astore_n 3), (22, .iload_n 2), (23, .tableswitch 85 0 4 #[33, 49, 54, 63, 68])],
  [],
  [(56, .aload_n 0), (57, .getfield 19), (60, .iload_n 1), (61, .invokevirtual 162)],
  [(64, .aload_n 3), (65, .getfield 166), (68, .invokevirtual 171), (71, .ireturn), (72, .aload_n 3), (73, .getfield 174), (76, .ireturn), (77, .iload_n 1), (78, .aload_n 3), (79, .getfield 177)],
  [(82, .invokestatic 180), (85, .ireturn), (86, .aload_n 3), (87, .getfield 184), (90, .ireturn), (91, .aload_n 0), (92, .getfield 28), (95, .iload_n 1)],
  [(96, .invokevirtual 187), (99, .ifCond .eq 7), (102, .iconst 1), (103, .goto 4), (106, .iconst 0), (107, .ireturn), (108, .iconst (-1)), (109, .ireturn)]]
def mx_ct18 : List (List (Nat × Jvm.ClassFile.Instr)) := [[(0, .iload_n 1), (1, .iconst (-1)), (2, .if_icmp .ne 7), (5, .iconst (-1)), (6, .goto 12), (9, .iload_n 0), (10, .bipush 16), (12, .idiv), (13, .bipush 16), (15, .imul)],
  [(16, .iload_n 1), (17, .iadd), (18, .ireturn)]]
def mx_ct19 : List (List (Nat × Jvm.ClassFile.Instr)) := [[(0, .aload_n 0), (1, .getfield 19), (4, .iload_n 1), (5, .invokevirtual 158), (8, .getfield 190), (11, .lreturn)]]
def mx_ct20 : List (List (Nat × Jvm.ClassFile.Instr)) := [[(0, .aload_n 0), (1, .getfield 19), (4, .iload_n 1), (5, .invokevirtual 155), (8, .ifCond .ne 5), (11, .iconst (-1)), (12, .ireturn), (13, .aload_n 0), (14, .getfield 19)],
  [(17, .iload_n 1), (18, .invokevirtual 162), (21, .aload_n 0), (22, .getfield 19), (25, .iload_n 1), (26, .invokevirtual 158), (29, .getfield 166)],
  [(32, .iload_n 2), (33, .invokevirtual 194), (36, .istore_n 3), (37, .iload_n 3), (38, .iconst (-1)), (39, .if_icmp .ne 7), (42, .iconst (-1)), (43, .goto 8), (46, .iload_n 1), (47, .iload_n 3)],
  [(48, .invokestatic 180), (51, .ireturn)]]
def mx_ct21 : List (List (Nat × Jvm.ClassFile.Instr)) := [[(0, .aload_n 0), (1, .getfield 19), (4, .iload_n 1), (5, .invokevirtual 158), (8, .lload_n 2), (9, .invokevirtual 197), (12, .lreturn)]]
def mx_ct22 : List (List (Nat × Jvm.ClassFile.Instr)) := [[(0, .aload_n 0), (1, .getfield 28), (4, .iload_n 1), (5, .invokevirtual 187), (8, .ifCond .ne 5), (11, .iconst (-1)), (12, .ireturn), (13, .aload_n 0), (14, .getfield 19)],
  [(17, .iload_n 1), (18, .invokevirtual 158), (21, .astore 4), (23, .aload 4), (25, .lload_n 2), (26, .invokevirtual 197), (29, .lstore 5), (31, .lload 5)],
  [(33, .lconst 0), (34, .lcmp), (35, .ifCond .gt 6), (38, .bipush (-4)), (40, .ireturn), (41, .aload_n 0), (42, .getfield 19), (45, .iload_n 1), (46, .bipush 16)],
  [(48, .idiv), (49, .lload 5), (51, .invokevirtual 201), (54, .istore 7), (56, .iload 7), (58, .iconst (-1)), (59, .if_icmp .ne 6), (62, .bipush (-5))],
  [(64, .ireturn), (65, .aload_n 0), (66, .getfield 19), (69, .iload 7), (71, .iconst 0), (72, .invokevirtual 205), (75, .ifCond .ne 6), (78, .bipush (-6))],
  [(80, .ireturn), (81, .aload_n 0), (82, .getfield 19), (85, .iload 7), (87, .invokevirtual 209), (90, .bipush (-5)), (92, .iand), (93, .lookupswitch 33 #[(1, 27), (2, 30)])],
  [],
  [(120, .bipush (-7)), (122, .ireturn), (123, .bipush (-8)), (125, .ireturn), (126, .aload_n 0), (127, .getfield 35)],
  [(130, .iload_n 1), (131, .iload_n 1), (132, .aload 4), (134, .getfield 212), (137, .invokestatic 180), (140, .iload 7), (142, .invokestatic 215)],
  [(145, .invokevirtual 218), (148, .ireturn)]]
def mx_ct23 : List (List (Nat × Jvm.ClassFile.Instr)) := [[(0, .iload_n 1), (1, .ifCond .lt 14), (4, .iload_n 1), (5, .aload_n 0), (6, .getfield 35), (9, .getfield 221), (12, .if_icmp .lt 5), (15, .iconst (-1))],
  [(16, .ireturn), (17, .iload_n 2), (18, .tableswitch 64 0 2 #[26, 36, 46])],
  [(44, .aload_n 0), (45, .getfield 35)],
  [(48, .getfield 224), (51, .iload_n 1), (52, .iaload), (53, .ireturn), (54, .aload_n 0), (55, .getfield 35), (58, .getfield 228), (61, .iload_n 1), (62, .iaload), (63, .ireturn)],
  [(64, .aload_n 0), (65, .getfield 35), (68, .getfield 231), (71, .iload_n 1), (72, .baload), (73, .ifCond .eq 7), (76, .iconst 0), (77, .goto 4)],
  [(80, .iconst 1), (81, .ireturn), (82, .iconst (-1)), (83, .ireturn)]]
def mx_ct24 : List (List (Nat × Jvm.ClassFile.Instr)) := [[(0, .aload_n 0), (1, .getfield 44), (4, .iload_n 1), (5, .invokevirtual 235), (8, .ireturn)]]
def mx_ct25 : List (List (Nat × Jvm.ClassFile.Instr)) := [[(0, .aload_n 0), (1, .getfield 19), (4, .invokevirtual 238), (7, .ireturn)]]
def mx_ct26 : List (List (Nat × Jvm.ClassFile.Instr)) := [[(0, .aload_n 0), (1, .getfield 19), (4, .getfield 241), (7, .iload_n 1), (8, .invokevirtual 235), (11, .ireturn)]]
def mx_ct27 : List (List (Nat × Jvm.ClassFile.Instr)) := [[(0, .iload_n 1), (1, .tableswitch 147 0 9 #[55, 64, 73, 82, 93, 104, 112, 120, 128, 139])],
  [],
  [],
  [(56, .aload_n 0), (57, .getfield 19), (60, .iconst 1), (61, .invokevirtual 244)],
  [(64, .ireturn), (65, .aload_n 0), (66, .getfield 19), (69, .iconst 2), (70, .invokevirtual 244), (73, .ireturn), (74, .aload_n 0), (75, .getfield 19), (78, .iconst 3), (79, .invokevirtual 244)],
  [(82, .ireturn), (83, .aload_n 0), (84, .getfield 28), (87, .getfield 247), (90, .invokestatic 250), (93, .ireturn), (94, .aload_n 0), (95, .getfield 28)],
  [(98, .getfield 254), (101, .invokestatic 250), (104, .ireturn), (105, .aload_n 0), (106, .getfield 35), (109, .getfield 221)],
  [(112, .ireturn), (113, .aload_n 0), (114, .getfield 35), (117, .invokevirtual 257), (120, .ireturn), (121, .aload_n 0), (122, .getfield 44), (125, .getfield 260)],
  [(128, .ireturn), (129, .aload_n 0), (130, .getfield 19), (133, .getfield 241), (136, .getfield 260), (139, .ireturn), (140, .aload_n 0), (141, .getfield 12)],
  [(144, .getfield 78), (147, .ireturn), (148, .iconst (-1)), (149, .ireturn)]]
def mx_ct28 : List (List (Nat × Jvm.ClassFile.Instr)) := [[(0, .iconst 0), (1, .istore_n 1), (2, .aload_n 0), (3, .astore_n 2), (4, .aload_n 2), (5, .arraylength), (6, .istore_n 3), (7, .iconst 0), (8, .istore 4), (10, .iload 4), (12, .iload_n 3), (13, .if_icmp .ge 23)],
  [(16, .aload_n 2), (17, .iload 4), (19, .baload), (20, .istore 5), (22, .iload 5), (24, .ifCond .eq 6), (27, .iinc 1 1), (30, .iinc 4 1)],
  [(33, .goto (-23)), (36, .iload_n 1), (37, .ireturn)]]
def mx_ct29 : List (List (Nat × Jvm.ClassFile.Instr)) := [[(0, .aload_n 0), (1, .invokespecial 3), (4, .aload_n 0), (5, .sipush 200), (8, .newarray .byte), (10, .putfield 11), (13, .aload_n 0), (14, .new 15)],
  [(17, .dup), (18, .invokespecial 17), (21, .putfield 18), (24, .return_)]]
def mx_ct30 : List (List (Nat × Jvm.ClassFile.Instr)) := [[(0, .lload_n 1), (1, .invokestatic 22), (4, .istore_n 3), (5, .iload_n 3), (6, .ifCond .ne 5), (9, .iconst (-1)), (10, .ireturn), (11, .aload_n 0), (12, .getfield 26), (15, .iload_n 3)],
  [(16, .iadd), (17, .sipush 200), (20, .if_icmp .le 6), (23, .bipush (-2)), (25, .ireturn), (26, .iconst 0), (27, .istore 4), (29, .iload 4), (31, .iload_n 3)],
  [(32, .if_icmp .ge 28), (35, .aload_n 0), (36, .getfield 11), (39, .aload_n 0), (40, .getfield 26), (43, .iload 4), (45, .iadd), (46, .lload_n 1), (47, .iload 4)],
  [(49, .invokestatic 30), (52, .i2b), (53, .bastore), (54, .iinc 4 1), (57, .goto (-28)), (60, .aload_n 0), (61, .dup), (62, .getfield 26)],
  [(65, .iload_n 3), (66, .iadd), (67, .putfield 26), (70, .aload_n 0), (71, .getfield 26), (74, .ireturn)]]
def mx_ct31 : List (List (Nat × Jvm.ClassFile.Instr)) := [[(0, .iconst 0), (1, .istore_n 2), (2, .iload_n 2), (3, .bipush 8), (5, .if_icmp .ge 29), (8, .lload_n 0), (9, .iload_n 2), (10, .invokestatic 30), (13, .ifCond .eq 21)],
  [(16, .lload_n 0), (17, .iload_n 2), (18, .invokestatic 30), (21, .bipush 127), (23, .if_icmp .le 5), (26, .iconst 0), (27, .ireturn), (28, .iinc 2 1), (31, .goto (-29))],
  [(34, .iload_n 2), (35, .ireturn)]]
def mx_ct32 : List (List (Nat × Jvm.ClassFile.Instr)) := [[(0, .aload_n 0), (1, .iconst 0), (2, .putfield 26), (5, .aload_n 0), (6, .getfield 18), (9, .invokevirtual 34), (12, .return_)]]
def mx_ct33 : List (List (Nat × Jvm.ClassFile.Instr)) := [[(0, .aload_n 0), (1, .invokespecial 3), (4, .aload_n 0), (5, .iconst 3), (6, .newarray .int), (8, .putfield 11), (11, .aload_n 0), (12, .iconst 3), (13, .newarray .int), (15, .putfield 15)],
  [(18, .aload_n 0), (19, .iconst 3), (20, .newarray .int), (22, .putfield 18), (25, .aload_n 0), (26, .iconst 4), (27, .newarray .long), (29, .putfield 21)],
  [(32, .aload_n 0), (33, .iconst 4), (34, .newarray .int), (36, .putfield 25), (39, .return_)]]
def mx_ct34 : List (List (Nat × Jvm.ClassFile.Instr)) := [[(0, .aload_n 0), (1, .getfield 28), (4, .iconst 3), (5, .if_icmp .lt 6), (8, .bipush (-2)), (10, .ireturn), (11, .aload_n 0), (12, .getfield 11), (15, .aload_n 0)],
  [(16, .getfield 28), (19, .iload_n 1), (20, .iastore), (21, .aload_n 0), (22, .getfield 15), (25, .aload_n 0), (26, .getfield 28), (29, .iload_n 2), (30, .iastore), (31, .aload_n 0)],
  [(32, .getfield 18), (35, .aload_n 0), (36, .getfield 28), (39, .iload_n 3), (40, .iastore), (41, .aload_n 0), (42, .dup), (43, .getfield 28), (46, .iconst 1), (47, .iadd)],
  [(48, .putfield 28), (51, .aload_n 0), (52, .getfield 28), (55, .ireturn)]]
def mx_ct35 : List (List (Nat × Jvm.ClassFile.Instr)) := [[(0, .aload_n 0), (1, .getfield 32), (4, .iconst 4), (5, .if_icmp .lt 6), (8, .bipush (-2)), (10, .ireturn), (11, .aload_n 0), (12, .getfield 21), (15, .aload_n 0)],
  [(16, .getfield 32), (19, .lload_n 1), (20, .lastore), (21, .aload_n 0), (22, .getfield 25), (25, .aload_n 0), (26, .getfield 32), (29, .iload_n 3), (30, .iastore), (31, .aload_n 0)],
  [(32, .dup), (33, .getfield 32), (36, .iconst 1), (37, .iadd), (38, .putfield 32), (41, .aload_n 0), (42, .getfield 32), (45, .ireturn)]]
def mx_ct36 : List (List (Nat × Jvm.ClassFile.Instr)) := [[(0, .aload_n 0), (1, .iload_n 1), (2, .putfield 39), (5, .aload_n 0), (6, .iload_n 1), (7, .ifCond .ne 7), (10, .lconst 0), (11, .goto 4), (14, .lload_n 2), (15, .putfield 42)],
  [(18, .return_)]]
def mx_ct37 : List (List (Nat × Jvm.ClassFile.Instr)) := [[(0, .aload_n 0), (1, .iconst 0), (2, .putfield 28), (5, .aload_n 0), (6, .iconst 0), (7, .putfield 32), (10, .aload_n 0), (11, .iconst 0), (12, .lconst 0), (13, .invokevirtual 35)],
  [(16, .return_)]]
def mx_ct38 : List (List (Nat × Jvm.ClassFile.Instr)) := [[(0, .aload_n 0), (1, .invokevirtual 46), (4, .iconst 0), (5, .istore_n 2), (6, .iload_n 2), (7, .aload_n 1), (8, .getfield 28), (11, .if_icmp .ge 32), (14, .aload_n 0), (15, .aload_n 1)],
  [(16, .getfield 11), (19, .iload_n 2), (20, .iaload), (21, .aload_n 1), (22, .getfield 15), (25, .iload_n 2), (26, .iaload), (27, .aload_n 1), (28, .getfield 18), (31, .iload_n 2)],
  [(32, .iaload), (33, .invokevirtual 49), (36, .pop), (37, .iinc 2 1), (40, .goto (-34)), (43, .iconst 0), (44, .istore_n 2), (45, .iload_n 2), (46, .aload_n 1), (47, .getfield 32)],
  [(50, .if_icmp .ge 26), (53, .aload_n 0), (54, .aload_n 1), (55, .getfield 21), (58, .iload_n 2), (59, .laload), (60, .aload_n 1), (61, .getfield 25)],
  [(64, .iload_n 2), (65, .iaload), (66, .invokevirtual 53), (69, .pop), (70, .iinc 2 1), (73, .goto (-28)), (76, .aload_n 0), (77, .aload_n 1), (78, .getfield 39)],
  [(81, .aload_n 1), (82, .getfield 42), (85, .invokevirtual 35), (88, .return_)]]
def mx_ct39 : List (List (Nat × Jvm.ClassFile.Instr)) := [[(0, .iconst 0), (1, .istore_n 3), (2, .iload_n 3), (3, .aload_n 0), (4, .getfield 32), (7, .if_icmp .ge 22), (10, .aload_n 0), (11, .getfield 21), (14, .iload_n 3), (15, .laload)],
  [(16, .lload_n 1), (17, .lcmp), (18, .ifCond .ne 5), (21, .iload_n 3), (22, .ireturn), (23, .iinc 3 1), (26, .goto (-24)), (29, .iconst (-1)), (30, .ireturn)]]
def mx_ct40 : List (List (Nat × Jvm.ClassFile.Instr)) := [[(0, .iconst 0), (1, .istore_n 2), (2, .iload_n 2), (3, .aload_n 0), (4, .getfield 28), (7, .if_icmp .ge 21), (10, .aload_n 0), (11, .getfield 11), (14, .iload_n 2), (15, .iaload)],
  [(16, .iload_n 1), (17, .if_icmp .ne 5), (20, .iconst 1), (21, .ireturn), (22, .iinc 2 1), (25, .goto (-23)), (28, .iconst 0), (29, .ireturn)]]
def mx_ct41 : List (List (Nat × Jvm.ClassFile.Instr)) := [[(0, .aload_n 0), (1, .invokespecial 3), (4, .aload_n 0), (5, .iconst 4), (6, .newarray .long), (8, .putfield 11), (11, .aload_n 0), (12, .iconst 4), (13, .newarray .long), (15, .putfield 15)],
  [(18, .aload_n 0), (19, .iconst (-1)), (20, .putfield 18), (23, .aload_n 0), (24, .iconst (-1)), (25, .putfield 22), (28, .aload_n 0), (29, .iconst (-1)), (30, .putfield 25)],
  [(33, .return_)]]
def mx_ct42 : List (List (Nat × Jvm.ClassFile.Instr)) := [[(0, .aload_n 0), (1, .iload_n 2), (2, .putfield 18), (5, .aload_n 0), (6, .aload_n 1), (7, .getfield 18), (10, .putfield 22), (13, .aload_n 0), (14, .aload_n 1), (15, .getfield 28)],
  [(18, .iconst 1), (19, .iadd), (20, .putfield 28), (23, .aload_n 0), (24, .aload_n 0), (25, .getfield 28), (28, .iconst 1), (29, .if_icmp .ne 7)],
  [(32, .iload_n 2), (33, .goto 7), (36, .aload_n 1), (37, .getfield 25), (40, .putfield 25), (43, .aload_n 0), (44, .lconst 0), (45, .putfield 31)],
  [(48, .aload_n 0), (49, .iconst 0), (50, .putfield 35), (53, .return_)]]
def mx_ct43 : List (List (Nat × Jvm.ClassFile.Instr)) := [[(0, .aload_n 0), (1, .getfield 35), (4, .iconst 4), (5, .if_icmp .ge 7), (8, .iconst 1), (9, .goto 4), (12, .iconst 0), (13, .ireturn)]]
def mx_ct44 : List (List (Nat × Jvm.ClassFile.Instr)) := [[(0, .aload_n 0), (1, .lload_n 1), (2, .invokevirtual 42), (5, .lconst 0), (6, .lcmp), (7, .ifCond .lt 7), (10, .iconst 1), (11, .goto 4), (14, .iconst 0), (15, .ireturn)]]
def mx_ct45 : List (List (Nat × Jvm.ClassFile.Instr)) := [[(0, .iconst 0), (1, .istore_n 3), (2, .iload_n 3), (3, .aload_n 0), (4, .getfield 35), (7, .if_icmp .ge 27), (10, .aload_n 0), (11, .getfield 11), (14, .iload_n 3), (15, .laload)],
  [(16, .lload_n 1), (17, .lcmp), (18, .ifCond .ne 10), (21, .aload_n 0), (22, .getfield 15), (25, .iload_n 3), (26, .laload), (27, .lreturn), (28, .iinc 3 1), (31, .goto (-29))],
  [(34, .ldc2_w 46), (37, .lreturn)]]
def mx_ct46 : List (List (Nat × Jvm.ClassFile.Instr)) := [[(0, .aload_n 0), (1, .invokevirtual 38), (4, .ifCond .eq 33), (7, .aload_n 0), (8, .getfield 11), (11, .aload_n 0), (12, .getfield 35), (15, .lload_n 1)],
  [(16, .lastore), (17, .aload_n 0), (18, .getfield 15), (21, .aload_n 0), (22, .getfield 35), (25, .lload_n 3), (26, .lastore), (27, .aload_n 0), (28, .dup), (29, .getfield 35)],
  [(32, .iconst 1), (33, .iadd), (34, .putfield 35), (37, .return_)]]
def mx_ct47 : List (List (Nat × Jvm.ClassFile.Instr)) := [[(0, .aload_n 0), (1, .invokespecial 3), (4, .aload_n 0), (5, .aload_n 1), (6, .putfield 9), (9, .aload_n 0), (10, .bipush 16), (12, .anewarray 15), (15, .putfield 17)],
  [(18, .iconst 0), (19, .istore_n 2), (20, .iload_n 2), (21, .bipush 16), (23, .if_icmp .ge 22), (26, .aload_n 0), (27, .getfield 17), (30, .iload_n 2), (31, .new 15)],
  [(34, .dup), (35, .invokespecial 21), (38, .aastore), (39, .iinc 2 1), (42, .goto (-22)), (45, .return_)]]
def mx_ct48 : List (List (Nat × Jvm.ClassFile.Instr)) := [[(0, .aload_n 0), (1, .iconst 0), (2, .putfield 22), (5, .return_)]]
def mx_ct49 : List (List (Nat × Jvm.ClassFile.Instr)) := [[(0, .aload_n 0), (1, .getfield 22), (4, .bipush 16), (6, .if_icmp .ge 7), (9, .iconst 1), (10, .goto 4), (13, .iconst 0), (14, .ireturn)]]
def mx_ct50 : List (List (Nat × Jvm.ClassFile.Instr)) := [[(0, .aload_n 0), (1, .invokevirtual 26), (4, .ifCond .ne 5), (7, .aload_n 1), (8, .areturn), (9, .aload_n 0), (10, .getfield 17), (13, .aload_n 0), (14, .getfield 22)],
  [(17, .aaload), (18, .astore_n 2), (19, .aload_n 2), (20, .aload_n 1), (21, .aload_n 0), (22, .getfield 22), (25, .invokevirtual 30), (28, .aload_n 0), (29, .dup), (30, .getfield 22)],
  [(33, .iconst 1), (34, .iadd), (35, .putfield 22), (38, .aload_n 2), (39, .areturn)]]
def mx_ct51 : List (List (Nat × Jvm.ClassFile.Instr)) := [[(0, .iload_n 1), (1, .ifCond .lt 20), (4, .iload_n 1), (5, .aload_n 0), (6, .getfield 22), (9, .if_icmp .ge 12), (12, .aload_n 0), (13, .getfield 17)],
  [(16, .iload_n 1), (17, .aaload), (18, .goto 7), (21, .aload_n 0), (22, .getfield 9), (25, .areturn)]]
def mx_ct52 : List (List (Nat × Jvm.ClassFile.Instr)) := [[(0, .iconst 0), (1, .istore_n 2), (2, .iconst 0), (3, .istore_n 3), (4, .iload_n 3), (5, .aload_n 0), (6, .getfield 22), (9, .if_icmp .ge 25), (12, .aload_n 0), (13, .getfield 17)],
  [(16, .iload_n 3), (17, .aaload), (18, .getfield 34), (21, .iload_n 1), (22, .if_icmp .ne 6), (25, .iinc 2 1), (28, .iinc 3 1), (31, .goto (-27))],
  [(34, .iload_n 2), (35, .ireturn)]]
def mx_ct53 : List (List (Nat × Jvm.ClassFile.Instr)) := [[(0, .iconst 0), (1, .istore_n 3), (2, .iconst 0), (3, .istore 4), (5, .iload 4), (7, .aload_n 0), (8, .getfield 22), (11, .if_icmp .ge 34), (14, .aload_n 0), (15, .getfield 17)],
  [(18, .iload 4), (20, .aaload), (21, .getfield 34), (24, .iload_n 1), (25, .if_icmp .ne 14), (28, .iload_n 3), (29, .iload_n 2), (30, .if_icmp .ne 6)],
  [(33, .iload 4), (35, .ireturn), (36, .iinc 3 1), (39, .iinc 4 1), (42, .goto (-37)), (45, .iconst (-1)), (46, .ireturn)]]
def mx_ct54 : List (List (Nat × Jvm.ClassFile.Instr)) := [[(0, .aload_n 0), (1, .invokespecial 3), (4, .aload_n 0), (5, .aload_n 1), (6, .putfield 9), (9, .aload_n 0), (10, .aload_n 1), (11, .getfield 15), (14, .putfield 21)],
  [(17, .return_)]]
def mx_ct55 : List (List (Nat × Jvm.ClassFile.Instr)) := [[(0, .aload_n 0), (1, .getfield 9), (4, .invokevirtual 24), (7, .aload_n 0), (8, .aload_n 0), (9, .getfield 9), (12, .getfield 15), (15, .putfield 21)],
  [(18, .aload_n 0), (19, .iconst 0), (20, .putfield 27), (23, .iconst 0), (24, .istore_n 3), (25, .iload_n 3), (26, .iload_n 2), (27, .if_icmp .ge 27), (30, .iload_n 3), (31, .aload_n 1)],
  [(32, .arraylength), (33, .if_icmp .ge 21), (36, .aload_n 0), (37, .aload_n 1), (38, .iload_n 3), (39, .baload), (40, .invokevirtual 31), (43, .ifCond .ne 5), (46, .iload_n 3), (47, .ireturn)],
  [(48, .iinc 3 1), (51, .goto (-26)), (54, .aload_n 0), (55, .getfield 27), (58, .ifCond .ne 17), (61, .aload_n 0), (62, .getfield 21)],
  [(65, .getfield 35), (68, .ifCond .ne 7), (71, .iconst (-1)), (72, .goto 4), (75, .iload_n 2), (76, .ireturn)]]
def mx_ct56 : List (List (Nat × Jvm.ClassFile.Instr)) := [[(0, .aload_n 0), (1, .getfield 27), (4, .tableswitch 144 0 9 #[56, 62, 68, 74, 80, 86, 107, 113, 119, 138])],
  [],
  [],
  [(60, .aload_n 0), (61, .iload_n 1), (62, .invokevirtual 40)],
  [(65, .ireturn), (66, .aload_n 0), (67, .iload_n 1), (68, .invokevirtual 43), (71, .ireturn), (72, .aload_n 0), (73, .iload_n 1), (74, .invokevirtual 46), (77, .ireturn), (78, .aload_n 0), (79, .iload_n 1)],
  [(80, .invokevirtual 49), (83, .ireturn), (84, .aload_n 0), (85, .iload_n 1), (86, .invokevirtual 52), (89, .ireturn), (90, .iload_n 1), (91, .bipush 34), (93, .if_icmp .ne 16)],
  [(96, .aload_n 0), (97, .bipush 6), (99, .invokevirtual 55), (102, .ifCond .eq 7), (105, .iconst 1), (106, .goto 4), (109, .iconst 0), (110, .ireturn), (111, .aload_n 0)],
  [(112, .iload_n 1), (113, .invokevirtual 58), (116, .ireturn), (117, .aload_n 0), (118, .iload_n 1), (119, .invokevirtual 61), (122, .ireturn), (123, .iload_n 1), (124, .bipush 62), (126, .if_icmp .ne 14)],
  [(129, .aload_n 0), (130, .invokevirtual 64), (133, .ifCond .eq 7), (136, .iconst 1), (137, .goto 4), (140, .iconst 0), (141, .ireturn), (142, .aload_n 0), (143, .iload_n 1)],
  [(144, .invokevirtual 68), (147, .ireturn), (148, .aload_n 0), (149, .iload_n 1), (150, .invokevirtual 71), (153, .ireturn)]]
def mx_ct57 : List (List (Nat × Jvm.ClassFile.Instr)) := [[(0, .iload_n 1), (1, .bipush 60), (3, .if_icmp .ne 37), (6, .aload_n 0), (7, .getfield 21), (10, .getfield 35), (13, .ifCond .gt 13)],
  [(16, .aload_n 0), (17, .getfield 9), (20, .invokevirtual 91), (23, .ifCond .eq 15), (26, .aload_n 0), (27, .iconst 1), (28, .invokevirtual 81), (31, .ifCond .eq 7)],
  [(34, .iconst 1), (35, .goto 4), (38, .iconst 0), (39, .ireturn), (40, .iload_n 1), (41, .invokestatic 94), (44, .ireturn)]]
def mx_ct58 : List (List (Nat × Jvm.ClassFile.Instr)) := [[(0, .aload_n 0), (1, .iload_n 1), (2, .putfield 27), (5, .iconst 1), (6, .ireturn)]]
def mx_ct59 : List (List (Nat × Jvm.ClassFile.Instr)) := [[(0, .iload_n 0), (1, .bipush 32), (3, .if_icmp .eq 9), (6, .iload_n 0), (7, .bipush 10), (9, .if_icmp .ne 7), (12, .iconst 1), (13, .goto 4)],
  [(16, .iconst 0), (17, .ireturn)]]
def mx_ct60 : List (List (Nat × Jvm.ClassFile.Instr)) := [[(0, .iload_n 1), (1, .bipush 47), (3, .if_icmp .ne 28), (6, .aload_n 0), (7, .getfield 21), (10, .getfield 35), (13, .ifCond .le 16)],
  [(16, .aload_n 0), (17, .bipush 9), (19, .invokevirtual 55), (22, .ifCond .eq 7), (25, .iconst 1), (26, .goto 4), (29, .iconst 0), (30, .ireturn), (31, .iload_n 1)],
  [(32, .invokestatic 97), (35, .ifCond .eq 24), (38, .aload_n 0), (39, .getfield 9), (42, .invokevirtual 91), (45, .ifCond .eq 14)],
  [(48, .aload_n 0), (49, .getfield 21), (52, .getfield 35), (55, .iconst 4), (56, .if_icmp .lt 5), (59, .iconst 0), (60, .ireturn), (61, .aload_n 0), (62, .aload_n 0), (63, .getfield 9)],
  [(66, .aload_n 0), (67, .getfield 21), (70, .invokevirtual 100), (73, .putfield 21), (76, .aload_n 0), (77, .iconst 2), (78, .invokevirtual 55)],
  [(81, .pop), (82, .aload_n 0), (83, .iload_n 1), (84, .invokevirtual 46), (87, .ireturn)]]
def mx_ct61 : List (List (Nat × Jvm.ClassFile.Instr)) := [[(0, .aload_n 0), (1, .lconst 0), (2, .putfield 74), (5, .aload_n 0), (6, .iconst 0), (7, .putfield 78), (10, .aload_n 0), (11, .iload_n 1), (12, .invokevirtual 81), (15, .ireturn)]]
def mx_ct62 : List (List (Nat × Jvm.ClassFile.Instr)) := [[(0, .iload_n 1), (1, .invokestatic 97), (4, .ifCond .ne 9), (7, .aload_n 0), (8, .iload_n 1), (9, .invokevirtual 61), (12, .ireturn), (13, .aload_n 0), (14, .iload_n 1), (15, .invokevirtual 104)],
  [(18, .istore_n 2), (19, .aload_n 0), (20, .getfield 21), (23, .aload_n 0), (24, .getfield 74), (27, .putfield 107), (30, .iload_n 2), (31, .ireturn)]]
def mx_ct63 : List (List (Nat × Jvm.ClassFile.Instr)) := [[(0, .iload_n 1), (1, .lookupswitch 40 #[(47, 27), (62, 34)])],
  [(28, .aload_n 0), (29, .bipush 8), (31, .invokevirtual 81)],
  [(34, .ireturn), (35, .aload_n 0), (36, .iconst 0), (37, .invokevirtual 81), (40, .ireturn), (41, .iload_n 1), (42, .invokestatic 94), (45, .ifCond .eq 15)],
  [(48, .aload_n 0), (49, .iconst 3), (50, .invokevirtual 81), (53, .ifCond .eq 7), (56, .iconst 1), (57, .goto 4), (60, .iconst 0), (61, .ireturn)]]
def mx_ct64 : List (List (Nat × Jvm.ClassFile.Instr)) := [[(0, .aload_n 0), (1, .getfield 78), (4, .bipush 8), (6, .if_icmp .lt 5), (9, .iconst 0), (10, .ireturn), (11, .aload_n 0), (12, .dup), (13, .getfield 74)],
  [(16, .iload_n 1), (17, .i2l), (18, .bipush 8), (20, .aload_n 0), (21, .getfield 78), (24, .imul), (25, .lshl), (26, .lor), (27, .putfield 74), (30, .aload_n 0), (31, .dup)],
  [(32, .getfield 78), (35, .iconst 1), (36, .iadd), (37, .putfield 78), (40, .iconst 1), (41, .ireturn)]]
def mx_ct65 : List (List (Nat × Jvm.ClassFile.Instr)) := [[(0, .iload_n 1), (1, .invokestatic 97), (4, .ifCond .ne 9), (7, .aload_n 0), (8, .iload_n 1), (9, .invokevirtual 61), (12, .ireturn), (13, .aload_n 0), (14, .getfield 21)],
  [(17, .invokevirtual 110), (20, .ifCond .eq 23), (23, .aload_n 0), (24, .iconst 4), (25, .invokevirtual 55), (28, .ifCond .eq 15), (31, .aload_n 0)],
  [(32, .iload_n 1), (33, .invokevirtual 104), (36, .ifCond .eq 7), (39, .iconst 1), (40, .goto 4), (43, .iconst 0), (44, .ireturn)]]
def mx_ct66 : List (List (Nat × Jvm.ClassFile.Instr)) := [[(0, .iload_n 1), (1, .invokestatic 97), (4, .ifCond .eq 40), (7, .aload_n 0), (8, .iload_n 1), (9, .invokevirtual 104), (12, .ifCond .eq 30), (15, .aload_n 0)],
  [(16, .getfield 78), (19, .bipush 8), (21, .if_icmp .lt 17), (24, .aload_n 0), (25, .getfield 21), (28, .aload_n 0), (29, .getfield 74)],
  [(32, .invokevirtual 113), (35, .ifCond .ne 7), (38, .iconst 1), (39, .goto 4), (42, .iconst 0), (43, .ireturn), (44, .iload_n 1), (45, .bipush 61), (47, .if_icmp .ne 17)],
  [(50, .aload_n 0), (51, .getfield 21), (54, .aload_n 0), (55, .getfield 74), (58, .invokevirtual 113), (61, .ifCond .eq 5)],
  [(64, .iconst 0), (65, .ireturn), (66, .aload_n 0), (67, .aload_n 0), (68, .getfield 74), (71, .putfield 117), (74, .aload_n 0), (75, .iconst 5), (76, .invokevirtual 81), (79, .ireturn)]]
def mx_ct67 : List (List (Nat × Jvm.ClassFile.Instr)) := [[(0, .iload_n 1), (1, .bipush 34), (3, .if_icmp .ne 25), (6, .aload_n 0), (7, .getfield 21), (10, .aload_n 0), (11, .getfield 117), (14, .aload_n 0), (15, .getfield 74)],
  [(18, .invokevirtual 120), (21, .aload_n 0), (22, .bipush 7), (24, .invokevirtual 81), (27, .ireturn), (28, .iload_n 1), (29, .invokestatic 124)],
  [(32, .ifCond .eq 15), (35, .aload_n 0), (36, .iload_n 1), (37, .invokevirtual 104), (40, .ifCond .eq 7), (43, .iconst 1), (44, .goto 4), (47, .iconst 0)],
  [(48, .ireturn)]]
def mx_ct68 : List (List (Nat × Jvm.ClassFile.Instr)) := [[(0, .aload_n 0), (1, .aload_n 0), (2, .getfield 9), (5, .aload_n 0), (6, .getfield 21), (9, .getfield 84), (12, .invokevirtual 87), (15, .putfield 21)],
  [(18, .aload_n 0), (19, .iconst 0), (20, .invokevirtual 81), (23, .ireturn)]]
def mx_ct69 : List (List (Nat × Jvm.ClassFile.Instr)) := [[(0, .aload_n 0), (1, .getfield 74), (4, .aload_n 0), (5, .getfield 21), (8, .getfield 107), (11, .lcmp), (12, .ifCond .ne 9), (15, .aload_n 0)],
  [(16, .iload_n 1), (17, .invokevirtual 71), (20, .ireturn), (21, .iload_n 1), (22, .aload_n 0), (23, .getfield 21), (26, .getfield 107), (29, .aload_n 0), (30, .getfield 78)],
  [(33, .invokestatic 127), (36, .if_icmp .ne 15), (39, .aload_n 0), (40, .iload_n 1), (41, .invokevirtual 104), (44, .ifCond .eq 7), (47, .iconst 1)],
  [(48, .goto 4), (51, .iconst 0), (52, .ireturn)]]
def mx_ct70 : List (List (Nat × Jvm.ClassFile.Instr)) := [[(0, .iload_n 1), (1, .bipush 62), (3, .if_icmp .ne 8), (6, .aload_n 0), (7, .invokevirtual 64), (10, .ireturn), (11, .iload_n 1), (12, .invokestatic 94), (15, .ifCond .eq 16)],
  [(18, .aload_n 0), (19, .bipush 10), (21, .invokevirtual 81), (24, .ifCond .eq 7), (27, .iconst 1), (28, .goto 4), (31, .iconst 0)],
  [(32, .ireturn)]]
def mx_ct71 : List (List (Nat × Jvm.ClassFile.Instr)) := [[(0, .aload_n 0), (1, .invokespecial 3), (4, .aload_n 0), (5, .new 9), (8, .dup), (9, .invokespecial 11), (12, .putfield 12), (15, .aload_n 0)],
  [(16, .new 18), (19, .dup), (20, .aload_n 1), (21, .invokespecial 20), (24, .putfield 23), (27, .aload_n 0), (28, .new 27), (31, .dup)],
  [(32, .aload_n 0), (33, .getfield 23), (36, .invokespecial 29), (39, .putfield 32), (42, .return_)]]
def mx_ct72 : List (List (Nat × Jvm.ClassFile.Instr)) := [[(0, .aload_n 0), (1, .iconst 1), (2, .putfield 36), (5, .aload_n 0), (6, .iload_n 2), (7, .putfield 40), (10, .aload_n 0), (11, .iconst 0), (12, .putfield 44), (15, .aload_n 0)],
  [(16, .getfield 12), (19, .aload_n 1), (20, .getfield 47), (23, .invokevirtual 50), (26, .aload_n 0), (27, .aload_n 0), (28, .getfield 32), (31, .aload_n 1)],
  [(32, .getfield 54), (35, .aload_n 1), (36, .getfield 58), (39, .invokevirtual 61), (42, .putfield 65), (45, .aload_n 0), (46, .iconst (-1)), (47, .putfield 68)],
  [(50, .aload_n 0), (51, .getfield 65), (54, .iconst (-1)), (55, .if_icmp .eq 25), (58, .aload_n 0), (59, .getfield 23), (62, .invokevirtual 71)],
  [(65, .aload_n 0), (66, .aload_n 1), (67, .getfield 54), (70, .aload_n 0), (71, .getfield 65), (74, .invokestatic 74), (77, .putfield 68)],
  [(80, .return_)]]
def mx_ct73 : List (List (Nat × Jvm.ClassFile.Instr)) := [[(0, .iconst 1), (1, .istore_n 2), (2, .iconst 0), (3, .istore_n 3), (4, .iload_n 3), (5, .iload_n 1), (6, .if_icmp .ge 26), (9, .iload_n 3), (10, .aload_n 0), (11, .arraylength), (12, .if_icmp .ge 20), (15, .aload_n 0)],
  [(16, .iload_n 3), (17, .baload), (18, .bipush 10), (20, .if_icmp .ne 6), (23, .iinc 2 1), (26, .iinc 3 1), (29, .goto (-25))],
  [(32, .iload_n 2), (33, .ireturn)]]
def mx_ct74 : List (List (Nat × Jvm.ClassFile.Instr)) := [[(0, .aload_n 0), (1, .getfield 65), (4, .iconst (-1)), (5, .if_icmp .ne 7), (8, .iconst 0), (9, .goto 4), (12, .iconst 1), (13, .ireturn)]]
def mx_ct75 : List (List (Nat × Jvm.ClassFile.Instr)) := [[(0, .aload_n 0), (1, .iconst 0), (2, .putfield 36), (5, .aload_n 0), (6, .getfield 23), (9, .invokevirtual 71), (12, .return_)]]
def mx_ct76 : List (List (Nat × Jvm.ClassFile.Instr)) := [[(0, .aload_n 0), (1, .getfield 36), (4, .ifCond .ne 5), (7, .iconst 0), (8, .ireturn), (9, .aload_n 0), (10, .getfield 77), (13, .ifCond .ne 5)],
  [(16, .iconst 1), (17, .ireturn), (18, .aload_n 0), (19, .getfield 80), (22, .ifCond .eq 7), (25, .iconst 3), (26, .goto 4), (29, .iconst 2), (30, .ireturn)]]
def mx_ct77 : List (List (Nat × Jvm.ClassFile.Instr)) := [[(0, .aload_n 0), (1, .invokespecial 3), (4, .aload_n 0), (5, .new 9), (8, .dup), (9, .invokespecial 11), (12, .putfield 12), (15, .aload_n 0)],
  [(16, .bipush 8), (18, .anewarray 18), (21, .putfield 20), (24, .iconst 0), (25, .istore_n 1), (26, .iload_n 1), (27, .bipush 8), (29, .if_icmp .ge 26)],
  [(32, .aload_n 0), (33, .getfield 20), (36, .iload_n 1), (37, .new 18), (40, .dup), (41, .aload_n 0), (42, .getfield 12), (45, .invokespecial 24)],
  [(48, .aastore), (49, .iinc 1 1), (52, .goto (-26)), (55, .aload_n 0), (56, .new 27), (59, .dup), (60, .bipush 16), (62, .invokespecial 29)],
  [(65, .putfield 32), (68, .return_)]]
def mx_ct78 : List (List (Nat × Jvm.ClassFile.Instr)) := [[(0, .aload_n 0), (1, .getfield 20), (4, .astore_n 1), (5, .aload_n 1), (6, .arraylength), (7, .istore_n 2), (8, .iconst 0), (9, .istore_n 3), (10, .iload_n 3), (11, .iload_n 2), (12, .if_icmp .ge 24), (15, .aload_n 1)],
  [(16, .iload_n 3), (17, .aaload), (18, .astore 4), (20, .aload 4), (22, .aload 4), (24, .getfield 59), (27, .putfield 63), (30, .iinc 3 1)],
  [(33, .goto (-23)), (36, .iconst 0), (37, .istore_n 1), (38, .iload_n 1), (39, .bipush 8), (41, .if_icmp .ge 57), (44, .iconst 0), (45, .istore_n 2), (46, .iload_n 2), (47, .bipush 8)],
  [(49, .if_icmp .ge 43), (52, .aload_n 0), (53, .getfield 20), (56, .iload_n 2), (57, .aaload), (58, .aload_n 0), (59, .getfield 20), (62, .iload_n 2), (63, .aaload)],
  [(64, .getfield 63), (67, .ifCond .eq 15), (70, .aload_n 0), (71, .iload_n 2), (72, .invokevirtual 66), (75, .ifCond .ne 7), (78, .iconst 1), (79, .goto 4)],
  [(82, .iconst 0), (83, .putfield 63), (86, .iinc 2 1), (89, .goto (-43)), (92, .iinc 1 1), (95, .goto (-57))],
  [(98, .return_)]]
def mx_ct79 : List (List (Nat × Jvm.ClassFile.Instr)) := [[(0, .aload_n 0), (1, .getfield 20), (4, .iload_n 1), (5, .aaload), (6, .getfield 70), (9, .astore_n 2), (10, .iconst 0), (11, .istore_n 3), (12, .iload_n 3), (13, .aload_n 2), (14, .getfield 74)],
  [(17, .if_icmp .ge 62), (20, .aload_n 0), (21, .getfield 20), (24, .aload_n 2), (25, .getfield 79), (28, .iload_n 3), (29, .iaload), (30, .aaload), (31, .astore 4)],
  [(33, .aload 4), (35, .getfield 63), (38, .ifCond .eq 31), (41, .aload 4), (43, .getfield 83), (46, .aload_n 2), (47, .getfield 86)],
  [(50, .iload_n 3), (51, .iaload), (52, .if_icmp .lt 17), (55, .aload 4), (57, .getfield 83), (60, .aload_n 2), (61, .getfield 89)],
  [(64, .iload_n 3), (65, .iaload), (66, .if_icmp .le 7), (69, .iload_n 3), (70, .iconst 1), (71, .iadd), (72, .ireturn), (73, .iinc 3 1), (76, .goto (-64)), (79, .iconst 0)],
  [(80, .ireturn)]]
def mx_ct80 : List (List (Nat × Jvm.ClassFile.Instr)) := [[(0, .iload_n 1), (1, .ifCond .lt 25), (4, .iload_n 1), (5, .sipush 128), (8, .if_icmp .ge 18), (11, .aload_n 0), (12, .iload_n 1), (13, .invokevirtual 36)],
  [(16, .iload_n 1), (17, .bipush 16), (19, .irem), (20, .invokevirtual 40), (23, .goto 7), (26, .aload_n 0), (27, .getfield 12), (30, .areturn)]]
def mx_ct81 : List (List (Nat × Jvm.ClassFile.Instr)) := [[(0, .aload_n 0), (1, .getfield 20), (4, .iload_n 1), (5, .bipush 16), (7, .idiv), (8, .bipush 7), (10, .iand), (11, .aaload), (12, .getfield 51), (15, .areturn)]]
def mx_ct82 : List (List (Nat × Jvm.ClassFile.Instr)) := [[(0, .aload_n 0), (1, .getfield 20), (4, .iload_n 1), (5, .aaload), (6, .getfield 113), (9, .ifCond .eq 21), (12, .aload_n 0), (13, .getfield 20)],
  [(16, .iload_n 1), (17, .aaload), (18, .iconst 0), (19, .putfield 113), (22, .aload_n 0), (23, .getfield 32), (26, .iload_n 1), (27, .invokevirtual 138), (30, .return_)]]
def mx_ct83 : List (List (Nat × Jvm.ClassFile.Instr)) := [[(0, .iconst 0), (1, .istore_n 1), (2, .iload_n 1), (3, .bipush 8), (5, .if_icmp .ge 26), (8, .aload_n 0), (9, .getfield 20), (12, .iload_n 1), (13, .aaload), (14, .getfield 63)],
  [(17, .ifCond .ne 8), (20, .aload_n 0), (21, .iload_n 1), (22, .invokevirtual 141), (25, .iinc 1 1), (28, .goto (-26)), (31, .return_)]]
def mx_ct84 : List (List (Nat × Jvm.ClassFile.Instr)) := [[(0, .aload_n 0), (1, .iload_n 1), (2, .invokevirtual 46), (5, .getfield 47), (8, .ifCond .le 7), (11, .iconst 1), (12, .goto 4), (15, .iconst 0)],
  [(16, .ireturn)]]
def mx_ct85 : List (List (Nat × Jvm.ClassFile.Instr)) := [[(0, .aload_n 0), (1, .getfield 20), (4, .iload_n 1), (5, .aaload), (6, .getfield 70), (9, .astore 4), (11, .iconst 0), (12, .istore 5), (14, .iload 5)],
  [(16, .aload 4), (18, .getfield 74), (21, .if_icmp .ge 33), (24, .aload_n 0), (25, .aload 4), (27, .getfield 79), (30, .iload 5)],
  [(32, .iaload), (33, .lload_n 2), (34, .invokevirtual 92), (37, .istore 6), (39, .iload 6), (41, .iconst (-1)), (42, .if_icmp .eq 6), (45, .iload 6), (47, .ireturn)],
  [(48, .iinc 5 1), (51, .goto (-37)), (54, .aload_n 0), (55, .iload_n 1), (56, .lload_n 2), (57, .invokevirtual 92), (60, .ireturn)]]
def mx_ct86 : List (List (Nat × Jvm.ClassFile.Instr)) := [[(0, .aload_n 0), (1, .getfield 20), (4, .iload_n 1), (5, .aaload), (6, .getfield 70), (9, .lload_n 2), (10, .invokevirtual 96), (13, .istore 4), (15, .iload 4)],
  [(17, .iconst (-1)), (18, .if_icmp .ne 7), (21, .iconst (-1)), (22, .goto 9), (25, .iload_n 1), (26, .iconst 4), (27, .imul), (28, .iload 4), (30, .iadd), (31, .ireturn)]]
def mx_ct87 : List (List (Nat × Jvm.ClassFile.Instr)) := [[(0, .aload_n 0), (1, .iload_n 1), (2, .invokevirtual 106), (5, .iconst 4), (6, .iand), (7, .ifCond .ne 15), (10, .aload_n 0), (11, .iload_n 1), (12, .invokestatic 100), (15, .iload_n 2)],
  [(16, .invokevirtual 109), (19, .ifCond .eq 7), (22, .iconst 1), (23, .goto 4), (26, .iconst 0), (27, .ireturn)]]
def mx_ct88 : List (List (Nat × Jvm.ClassFile.Instr)) := [[(0, .aload_n 0), (1, .getfield 20), (4, .iload_n 1), (5, .invokestatic 100), (8, .aaload), (9, .getfield 70), (12, .getfield 103), (15, .iload_n 1)],
  [(16, .iconst 4), (17, .irem), (18, .iaload), (19, .ireturn)]]
def mx_ct89 : List (List (Nat × Jvm.ClassFile.Instr)) := [[(0, .iload_n 0), (1, .iconst 4), (2, .idiv), (3, .ireturn)]]
def mx_ct90 : List (List (Nat × Jvm.ClassFile.Instr)) := [[(0, .aload_n 0), (1, .getfield 20), (4, .iload_n 1), (5, .aaload), (6, .astore_n 3), (7, .aload_n 3), (8, .getfield 113), (11, .ifCond .ne 10), (14, .aload_n 3), (15, .getfield 116)],
  [(18, .ifCond .eq 5), (21, .iconst 1), (22, .ireturn), (23, .iload_n 2), (24, .bipush 8), (26, .if_icmp .lt 5), (29, .iconst 0), (30, .ireturn), (31, .aload_n 3)],
  [(32, .iconst 1), (33, .putfield 116), (36, .aload_n 3), (37, .dup), (38, .getfield 119), (41, .iconst 1), (42, .iadd), (43, .putfield 119), (46, .aload_n 3), (47, .aload_n 0)],
  [(48, .iload_n 1), (49, .iload_n 2), (50, .invokevirtual 122), (53, .putfield 113), (56, .aload_n 3), (57, .iconst 0), (58, .putfield 116), (61, .aload_n 3), (62, .getfield 113)],
  [(65, .ireturn)]]
def mx_ct91 : List (List (Nat × Jvm.ClassFile.Instr)) := [[(0, .aload_n 0), (1, .getfield 20), (4, .iload_n 1), (5, .aaload), (6, .getfield 70), (9, .astore_n 3), (10, .aload_n 3), (11, .getfield 125), (14, .lconst 0), (15, .lcmp)],
  [(16, .ifCond .eq 34), (19, .aload_n 0), (20, .iload_n 1), (21, .aload_n 3), (22, .getfield 125), (25, .invokevirtual 129), (28, .istore 4), (30, .iload 4)],
  [(32, .iconst (-1)), (33, .if_icmp .eq 15), (36, .aload_n 0), (37, .iload 4), (39, .iload_n 2), (40, .iconst 1), (41, .iadd), (42, .invokevirtual 132), (45, .ifCond .ne 5)],
  [(48, .iconst 0), (49, .ireturn), (50, .aload_n 3), (51, .getfield 135), (54, .iconst 2), (55, .if_icmp .eq 7), (58, .iconst 1), (59, .goto 4), (62, .iconst 0), (63, .ireturn)]]
def mx_ct92 : List (List (Nat × Jvm.ClassFile.Instr)) := [[(0, .aload_n 0), (1, .getfield 32), (4, .getfield 144), (7, .istore_n 1), (8, .iconst 0), (9, .istore_n 2), (10, .iload_n 2), (11, .bipush 8), (13, .if_icmp .ge 24)],
  [(16, .aload_n 0), (17, .invokevirtual 147), (20, .istore_n 3), (21, .iload_n 3), (22, .iconst (-1)), (23, .if_icmp .eq 8), (26, .aload_n 0), (27, .iload_n 3), (28, .invokevirtual 141), (31, .iinc 2 1)],
  [(34, .goto (-24)), (37, .aload_n 0), (38, .getfield 32), (41, .getfield 144), (44, .iload_n 1), (45, .isub), (46, .ireturn)]]
def mx_ct93 : List (List (Nat × Jvm.ClassFile.Instr)) := [[(0, .iconst (-1)), (1, .istore_n 1), (2, .bipush 7), (4, .istore_n 2), (5, .iload_n 2), (6, .ifCond .lt 37), (9, .aload_n 0), (10, .getfield 20), (13, .iload_n 2), (14, .aaload), (15, .getfield 113)],
  [(18, .ifCond .eq 19), (21, .aload_n 0), (22, .iload_n 2), (23, .invokevirtual 150), (26, .ifCond .ne 5), (29, .iload_n 2), (30, .ireturn), (31, .iload_n 1)],
  [(32, .iload_n 2), (33, .invokestatic 154), (36, .istore_n 1), (37, .iinc 2 (-1)), (40, .goto (-35)), (43, .iload_n 1), (44, .ireturn)]]
def mx_ct94 : List (List (Nat × Jvm.ClassFile.Instr)) := [[(0, .iconst 0), (1, .istore_n 2), (2, .iload_n 2), (3, .bipush 8), (5, .if_icmp .ge 44), (8, .iload_n 2), (9, .iload_n 1), (10, .if_icmp .eq 33), (13, .aload_n 0), (14, .getfield 20)],
  [(17, .iload_n 2), (18, .aaload), (19, .getfield 113), (22, .ifCond .eq 21), (25, .aload_n 0), (26, .getfield 20), (29, .iload_n 2), (30, .aaload), (31, .getfield 70)],
  [(34, .iload_n 1), (35, .invokevirtual 160), (38, .ifCond .eq 5), (41, .iconst 1), (42, .ireturn), (43, .iinc 2 1), (46, .goto (-44))],
  [(49, .iconst 0), (50, .ireturn)]]
def mx_ct95 : List (List (Nat × Jvm.ClassFile.Instr)) := [[(0, .iconst 0), (1, .istore_n 2), (2, .aload_n 0), (3, .getfield 20), (6, .astore_n 3), (7, .aload_n 3), (8, .arraylength), (9, .istore 4), (11, .iconst 0), (12, .istore 5), (14, .iload 5)],
  [(16, .iload 4), (18, .if_icmp .ge 27), (21, .aload_n 3), (22, .iload 5), (24, .aaload), (25, .astore 6), (27, .aload 6), (29, .invokevirtual 55)],
  [(32, .iload_n 1), (33, .if_icmp .lt 6), (36, .iinc 2 1), (39, .iinc 5 1), (42, .goto (-28)), (45, .iload_n 2), (46, .ireturn)]]
def mx_ct96 : List (List (Nat × Jvm.ClassFile.Instr)) := [[(0, .aload_n 0), (1, .invokespecial 3), (4, .aload_n 0), (5, .aload_n 1), (6, .putfield 9), (9, .aload_n 0), (10, .sipush 128), (13, .newarray .boolean), (15, .putfield 15)],
  [(18, .aload_n 0), (19, .sipush 128), (22, .newarray .boolean), (24, .putfield 19), (27, .aload_n 0), (28, .sipush 128), (31, .newarray .boolean)],
  [(33, .putfield 22), (36, .return_)]]
def mx_ct97 : List (List (Nat × Jvm.ClassFile.Instr)) := [[(0, .aload_n 0), (1, .invokevirtual 53), (4, .iconst 0), (5, .istore_n 2), (6, .iload_n 2), (7, .sipush 128), (10, .if_icmp .ge 51), (13, .aload_n 0), (14, .getfield 22)],
  [(17, .iload_n 2), (18, .aload_n 0), (19, .getfield 19), (22, .iload_n 2), (23, .baload), (24, .bastore), (25, .aload_n 0), (26, .getfield 19), (29, .iload_n 2), (30, .aload_n 0), (31, .iload_n 2)],
  [(32, .ldc2_w 56), (35, .invokevirtual 58), (38, .ifCond .eq 15), (41, .aload_n 0), (42, .iload_n 2), (43, .invokevirtual 62), (46, .ifCond .eq 7)],
  [(49, .iconst 1), (50, .goto 4), (53, .iconst 0), (54, .bastore), (55, .iinc 2 1), (58, .goto (-52)), (61, .aload_n 0), (62, .aload_n 1), (63, .invokevirtual 65)],
  [(66, .ireturn)]]
def mx_ct98 : List (List (Nat × Jvm.ClassFile.Instr)) := [[(0, .iconst 0), (1, .istore_n 1), (2, .iload_n 1), (3, .sipush 128), (6, .if_icmp .ge 16), (9, .aload_n 0), (10, .getfield 15), (13, .iload_n 1), (14, .iconst 0), (15, .bastore)],
  [(16, .iinc 1 1), (19, .goto (-17)), (22, .iconst 0), (23, .istore_n 1), (24, .iload_n 1), (25, .sipush 128), (28, .if_icmp .ge 61), (31, .aload_n 0)],
  [(32, .getfield 9), (35, .iload_n 1), (36, .invokevirtual 25), (39, .ldc2_w 31), (42, .invokevirtual 33), (45, .lstore_n 2), (46, .aload_n 0), (47, .getfield 15)],
  [(50, .iload_n 1), (51, .lload_n 2), (52, .lconst 0), (53, .lcmp), (54, .ifCond .le 27), (57, .aload_n 0), (58, .iload_n 1), (59, .ldc2_w 39), (62, .invokevirtual 58)],
  [(65, .ifCond .eq 16), (68, .aload_n 0), (69, .lload_n 2), (70, .invokevirtual 69), (73, .iconst (-1)), (74, .if_icmp .ne 7), (77, .iconst 1), (78, .goto 4)],
  [(81, .iconst 0), (82, .bastore), (83, .iinc 1 1), (86, .goto (-62)), (89, .return_)]]
def mx_ct99 : List (List (Nat × Jvm.ClassFile.Instr)) := [[(0, .aload_n 0), (1, .getfield 9), (4, .iload_n 1), (5, .invokevirtual 25), (8, .astore 4), (10, .aload 4), (12, .getfield 73), (15, .iconst 1)],
  [(16, .if_icmp .ne 35), (19, .aload 4), (21, .getfield 76), (24, .lload_n 2), (25, .lcmp), (26, .ifCond .ne 25), (29, .aload_n 0), (30, .getfield 9)],
  [(33, .getfield 80), (36, .iload_n 1), (37, .bipush 16), (39, .idiv), (40, .aaload), (41, .getfield 84), (44, .ifCond .eq 7), (47, .iconst 1)],
  [(48, .goto 4), (51, .iconst 0), (52, .ireturn)]]
def mx_ct100 : List (List (Nat × Jvm.ClassFile.Instr)) := [[(0, .iconst 0), (1, .istore_n 3), (2, .iload_n 3), (3, .sipush 128), (6, .if_icmp .ge 39), (9, .aload_n 0), (10, .getfield 15), (13, .iload_n 3), (14, .baload), (15, .ifCond .eq 24)],
  [(18, .aload_n 0), (19, .getfield 9), (22, .iload_n 3), (23, .invokevirtual 25), (26, .ldc2_w 31), (29, .invokevirtual 33)],
  [(32, .lload_n 1), (33, .lcmp), (34, .ifCond .ne 5), (37, .iload_n 3), (38, .ireturn), (39, .iinc 3 1), (42, .goto (-40)), (45, .iconst (-1)), (46, .ireturn)]]
def mx_ct101 : List (List (Nat × Jvm.ClassFile.Instr)) := [[(0, .aload_n 0), (1, .aload_n 0), (2, .getfield 9), (5, .iload_n 1), (6, .invokevirtual 25), (9, .ldc2_w 39), (12, .invokevirtual 33), (15, .invokevirtual 69)],
  [(18, .istore_n 2), (19, .iload_n 2), (20, .iconst (-1)), (21, .if_icmp .ne 5), (24, .iconst 0), (25, .ireturn), (26, .aload_n 0), (27, .iload_n 2), (28, .invokevirtual 90), (31, .ifCond .ne 5)],
  [(34, .iconst 1), (35, .ireturn), (36, .aload_n 0), (37, .getfield 9), (40, .iload_n 1), (41, .invokevirtual 93), (44, .astore_n 3), (45, .iconst 0), (46, .istore 4)],
  [(48, .iload 4), (50, .aload_n 3), (51, .getfield 97), (54, .if_icmp .ge 41), (57, .aload_n 3), (58, .iload 4), (60, .invokevirtual 102), (63, .getfield 103)],
  [(66, .iload_n 1), (67, .bipush 16), (69, .irem), (70, .if_icmp .ne 19), (73, .aload_n 0), (74, .aload_n 3), (75, .iload 4), (77, .invokevirtual 102)],
  [(80, .iload_n 2), (81, .invokevirtual 106), (84, .ifCond .ne 5), (87, .iconst 0), (88, .ireturn), (89, .iinc 4 1), (92, .goto (-44)), (95, .iconst 1)],
  [(96, .ireturn)]]
def mx_ct102 : List (List (Nat × Jvm.ClassFile.Instr)) := [[(0, .aload_n 0), (1, .getfield 9), (4, .iload_n 1), (5, .invokevirtual 93), (8, .astore_n 2), (9, .iconst 0), (10, .istore_n 3), (11, .iload_n 3), (12, .aload_n 2), (13, .getfield 97)],
  [(16, .if_icmp .ge 23), (19, .aload_n 2), (20, .iload_n 3), (21, .invokevirtual 102), (24, .iload_n 1), (25, .invokestatic 110), (28, .ifCond .eq 5), (31, .iconst 1)],
  [(32, .ireturn), (33, .iinc 3 1), (36, .goto (-25)), (39, .iconst 0), (40, .ireturn)]]
def mx_ct103 : List (List (Nat × Jvm.ClassFile.Instr)) := [[(0, .aload_n 0), (1, .getfield 103), (4, .iload_n 1), (5, .bipush 16), (7, .irem), (8, .if_icmp .ne 30), (11, .aload_n 0), (12, .getfield 76), (15, .ldc2_w 121)],
  [(18, .lcmp), (19, .ifCond .ne 19), (22, .aload_n 0), (23, .ldc2_w 113), (26, .invokevirtual 33), (29, .lconst 0), (30, .lcmp), (31, .ifCond .le 7)],
  [(34, .iconst 1), (35, .goto 4), (38, .iconst 0), (39, .ireturn)]]
def mx_ct104 : List (List (Nat × Jvm.ClassFile.Instr)) := [[(0, .aload_n 0), (1, .getfield 9), (4, .iload_n 2), (5, .invokevirtual 93), (8, .astore_n 3), (9, .iconst 0), (10, .istore 4), (12, .iload 4), (14, .aload_n 3), (15, .getfield 97)],
  [(18, .if_icmp .ge 74), (21, .aload_n 3), (22, .iload 4), (24, .invokevirtual 102), (27, .astore 5), (29, .aload 5), (31, .iload_n 2)],
  [(32, .invokestatic 110), (35, .ifCond .eq 51), (38, .aload 5), (40, .ldc2_w 113), (43, .invokevirtual 33), (46, .aload_n 1), (47, .getfield 76)],
  [(50, .lcmp), (51, .ifCond .ne 35), (54, .aload 5), (56, .ldc2_w 115), (59, .invokevirtual 33), (62, .lstore 6)],
  [(64, .lload 6), (66, .lconst 0), (67, .lcmp), (68, .ifCond .le 12), (71, .aload_n 1), (72, .lload 6), (74, .invokevirtual 117), (77, .ifCond .eq 7)],
  [(80, .iconst 1), (81, .goto 4), (84, .iconst 0), (85, .ireturn), (86, .iinc 4 1), (89, .goto (-77)), (92, .iconst 0), (93, .ireturn)]]
def mx_ct105 : List (List (Nat × Jvm.ClassFile.Instr)) := [[(0, .aload_n 1), (1, .getfield 123), (4, .istore_n 2), (5, .iconst 0), (6, .istore_n 3), (7, .iload_n 3), (8, .sipush 128), (11, .if_icmp .ge 32), (14, .aload_n 0), (15, .getfield 22)],
  [(18, .iload_n 3), (19, .baload), (20, .ifCond .eq 17), (23, .aload_n 0), (24, .getfield 19), (27, .iload_n 3), (28, .baload), (29, .ifCond .ne 8)],
  [(32, .aload_n 1), (33, .iload_n 3), (34, .invokevirtual 128), (37, .iinc 3 1), (40, .goto (-33)), (43, .iconst 0), (44, .istore_n 3), (45, .iload_n 3), (46, .sipush 128)],
  [(49, .if_icmp .ge 36), (52, .aload_n 0), (53, .getfield 19), (56, .iload_n 3), (57, .baload), (58, .ifCond .eq 21), (61, .aload_n 0), (62, .getfield 22)],
  [(65, .iload_n 3), (66, .baload), (67, .ifCond .ne 12), (70, .aload_n 1), (71, .iload_n 3), (72, .sipush 128), (75, .iadd), (76, .invokevirtual 128), (79, .iinc 3 1)],
  [(82, .goto (-37)), (85, .aload_n 1), (86, .getfield 123), (89, .iload_n 2), (90, .isub), (91, .ireturn)]]
def mx_ct106 : List (List (Nat × Jvm.ClassFile.Instr)) := [[(0, .iconst 0), (1, .istore_n 3), (2, .iconst 0), (3, .istore 4), (5, .iload 4), (7, .sipush 128), (10, .if_icmp .ge 42), (13, .aload_n 0), (14, .getfield 19)],
  [(17, .iload 4), (19, .baload), (20, .ifCond .eq 26), (23, .aload_n 0), (24, .getfield 9), (27, .iload 4), (29, .invokevirtual 25)],
  [(32, .ldc2_w 39), (35, .invokevirtual 33), (38, .lload_n 1), (39, .lcmp), (40, .ifCond .ne 6), (43, .iinc 3 1), (46, .iinc 4 1)],
  [(49, .goto (-44)), (52, .iload_n 3), (53, .ireturn)]]
def mx_ct107 : List (List (Nat × Jvm.ClassFile.Instr)) := [[(0, .iconst 0), (1, .istore 4), (3, .iconst 0), (4, .istore 5), (6, .iload 5), (8, .sipush 128), (11, .if_icmp .ge 51), (14, .aload_n 0), (15, .getfield 19)],
  [(18, .iload 5), (20, .baload), (21, .ifCond .eq 35), (24, .aload_n 0), (25, .getfield 9), (28, .iload 5), (30, .invokevirtual 25)],
  [(33, .ldc2_w 39), (36, .invokevirtual 33), (39, .lload_n 1), (40, .lcmp), (41, .ifCond .ne 15), (44, .iload 4), (46, .iload_n 3), (47, .if_icmp .ne 6)],
  [(50, .iload 5), (52, .ireturn), (53, .iinc 4 1), (56, .iinc 5 1), (59, .goto (-53)), (62, .iconst (-1)), (63, .ireturn)]]
def mx_ct108 : List (List (Nat × Jvm.ClassFile.Instr)) := [[(0, .aload_n 0), (1, .getfield 9), (4, .iload_n 1), (5, .invokevirtual 41), (8, .ifCond .eq 30), (11, .aload_n 0), (12, .getfield 19), (15, .iload_n 1)],
  [(16, .aload_n 0), (17, .getfield 9), (20, .iload_n 1), (21, .invokevirtual 25), (24, .getfield 45), (27, .invokestatic 49), (30, .baload), (31, .ifCond .eq 7)],
  [(34, .iconst 1), (35, .goto 4), (38, .iconst 0), (39, .ireturn)]]
def mx_ct109 : List (List (Nat × Jvm.ClassFile.Instr)) := [[(0, .aload_n 0), (1, .invokespecial 3), (4, .aload_n 0), (5, .bipush 24), (7, .newarray .int), (9, .putfield 11), (12, .aload_n 0), (13, .bipush 24), (15, .newarray .int)],
  [(17, .putfield 15), (20, .aload_n 0), (21, .bipush 24), (23, .newarray .int), (25, .putfield 18), (28, .aload_n 0), (29, .bipush 24), (31, .newarray .boolean)],
  [(33, .putfield 21), (36, .return_)]]
def mx_ct110 : List (List (Nat × Jvm.ClassFile.Instr)) := [[(0, .iconst 0), (1, .istore_n 2), (2, .iload_n 2), (3, .aload_n 0), (4, .getfield 25), (7, .if_icmp .ge 27), (10, .aload_n 1), (11, .aload_n 0), (12, .getfield 15), (15, .iload_n 2)],
  [(16, .iaload), (17, .baload), (18, .ifCond .ne 10), (21, .aload_n 0), (22, .getfield 21), (25, .iload_n 2), (26, .iconst 1), (27, .bastore), (28, .iinc 2 1), (31, .goto (-29))],
  [(34, .return_)]]
def mx_ct111 : List (List (Nat × Jvm.ClassFile.Instr)) := [[(0, .aload_n 0), (1, .getfield 25), (4, .bipush 24), (6, .if_icmp .lt 6), (9, .bipush (-2)), (11, .ireturn), (12, .aload_n 0), (13, .getfield 11)],
  [(16, .aload_n 0), (17, .getfield 25), (20, .iload_n 1), (21, .iastore), (22, .aload_n 0), (23, .getfield 15), (26, .aload_n 0), (27, .getfield 25), (30, .iload_n 2), (31, .iastore)],
  [(32, .aload_n 0), (33, .getfield 18), (36, .aload_n 0), (37, .getfield 25), (40, .iload_n 3), (41, .iastore), (42, .aload_n 0), (43, .dup), (44, .getfield 25), (47, .iconst 1)],
  [(48, .iadd), (49, .putfield 25), (52, .aload_n 0), (53, .getfield 25), (56, .iconst 1), (57, .isub), (58, .ireturn)]]
def mx_ct112 : List (List (Nat × Jvm.ClassFile.Instr)) := [[(0, .aload_n 0), (1, .getfield 25), (4, .aload_n 0), (5, .getfield 21), (8, .invokestatic 29), (11, .isub), (12, .ireturn)]]
def mx_ct113 : List (List (Nat × Jvm.ClassFile.Instr)) := [[(0, .aload_n 0), (1, .invokespecial 3), (4, .aload_n 0), (5, .iload_n 1), (6, .newarray .int), (8, .putfield 9), (11, .return_)]]
def mx_ct114 : List (List (Nat × Jvm.ClassFile.Instr)) := [[(0, .aload_n 0), (1, .getfield 9), (4, .aload_n 0), (5, .getfield 15), (8, .iload_n 1), (9, .iastore), (10, .aload_n 0), (11, .aload_n 0), (12, .getfield 15), (15, .iconst 1)],
  [(16, .iadd), (17, .aload_n 0), (18, .getfield 9), (21, .arraylength), (22, .if_icmp .ge 12), (25, .aload_n 0), (26, .getfield 15), (29, .iconst 1), (30, .iadd), (31, .goto 4)],
  [(34, .iconst 0), (35, .putfield 15), (38, .aload_n 0), (39, .dup), (40, .getfield 19), (43, .iconst 1), (44, .iadd), (45, .putfield 19)],
  [(48, .return_)]]
def mx_ct115 : List (List (Nat × Jvm.ClassFile.Instr)) := [[(0, .iload_n 1), (1, .ifCond .lt 20), (4, .iload_n 1), (5, .aload_n 0), (6, .getfield 9), (9, .arraylength), (10, .if_icmp .ge 11), (13, .iload_n 1), (14, .aload_n 0), (15, .getfield 19)],
  [(18, .if_icmp .lt 5), (21, .iconst (-1)), (22, .ireturn), (23, .aload_n 0), (24, .getfield 9), (27, .aload_n 0), (28, .getfield 15), (31, .iconst 1)],
  [(32, .isub), (33, .iload_n 1), (34, .isub), (35, .aload_n 0), (36, .getfield 9), (39, .arraylength), (40, .invokestatic 22), (43, .iaload), (44, .ireturn)]]
def mx_ct116 : List (List (Nat × Jvm.ClassFile.Instr)) := [[(0, .aload_n 0), (1, .invokespecial 1), (4, .aload_n 0), (5, .sipush 200), (8, .newarray .int), (10, .putfield 7), (13, .aload_n 0), (14, .bipush 9)],
  [(16, .newarray .int), (18, .putfield 13), (21, .aload_n 0), (22, .bipush 27), (24, .newarray .int), (26, .putfield 16), (29, .aload_n 0), (30, .bipush 27)],
  [(32, .newarray .int), (34, .putfield 19), (37, .aload_n 0), (38, .bipush 27), (40, .newarray .int), (42, .putfield 22), (45, .aload_n 0), (46, .bipush 9)],
  [(48, .newarray .int), (50, .putfield 25), (53, .aload_n 0), (54, .bipush 36), (56, .newarray .int), (58, .putfield 28), (61, .aload_n 0), (62, .bipush 9)],
  [(64, .newarray .int), (66, .putfield 31), (69, .aload_n 0), (70, .bipush 36), (72, .newarray .long), (74, .putfield 34), (77, .aload_n 0), (78, .bipush 9)],
  [(80, .newarray .long), (82, .putfield 38), (85, .aload_n 0), (86, .bipush 8), (88, .newarray .boolean), (90, .putfield 41), (93, .aload_n 0), (94, .bipush 8)],
  [(96, .newarray .boolean), (98, .putfield 45), (101, .aload_n 0), (102, .bipush 8), (104, .newarray .boolean), (106, .putfield 48), (109, .aload_n 0), (110, .bipush 8)],
  [(112, .newarray .boolean), (114, .putfield 51), (117, .aload_n 0), (118, .bipush 8), (120, .newarray .int), (122, .putfield 54), (125, .aload_n 0), (126, .bipush 8)],
  [(128, .newarray .int), (130, .putfield 57), (133, .aload_n 0), (134, .bipush 8), (136, .newarray .int), (138, .putfield 60), (141, .aload_n 0), (142, .bipush 8)],
  [(144, .newarray .int), (146, .putfield 63), (149, .aload_n 0), (150, .bipush 8), (152, .newarray .int), (154, .putfield 66), (157, .aload_n 0), (158, .bipush 8)],
  [(160, .newarray .int), (162, .putfield 69), (165, .aload_n 0), (166, .sipush 128), (169, .newarray .long), (171, .putfield 72), (174, .aload_n 0), (175, .sipush 512)],
  [(178, .newarray .long), (180, .putfield 75), (183, .aload_n 0), (184, .sipush 512), (187, .newarray .long), (189, .putfield 78)],
  [(192, .aload_n 0), (193, .sipush 128), (196, .newarray .int), (198, .putfield 81), (201, .aload_n 0), (202, .sipush 128), (205, .newarray .int), (207, .putfield 84)],
  [(210, .aload_n 0), (211, .sipush 128), (214, .newarray .int), (216, .putfield 87), (219, .aload_n 0), (220, .sipush 128), (223, .newarray .boolean)],
  [(225, .putfield 90), (228, .aload_n 0), (229, .sipush 128), (232, .newarray .boolean), (234, .putfield 93), (237, .aload_n 0), (238, .bipush 24)],
  [(240, .newarray .int), (242, .putfield 96), (245, .aload_n 0), (246, .bipush 24), (248, .newarray .int), (250, .putfield 99), (253, .aload_n 0), (254, .bipush 24)],
  [(256, .newarray .int), (258, .putfield 102), (261, .aload_n 0), (262, .bipush 32), (264, .newarray .int), (266, .putfield 105), (269, .aload_n 0), (270, .bipush 16)],
  [(272, .newarray .int), (274, .putfield 108), (277, .aload_n 0), (278, .bipush 24), (280, .newarray .boolean), (282, .putfield 111), (285, .return_)]]
def mx_ct117 : List (List (Nat × Jvm.ClassFile.Instr)) := [[(0, .iconst 0), (1, .istore_n 3), (2, .iload_n 3), (3, .bipush 8), (5, .if_icmp .ge 29), (8, .lload_n 1), (9, .iload_n 3), (10, .invokestatic 120), (13, .ifCond .le 21)],
  [(16, .lload_n 1), (17, .iload_n 3), (18, .invokestatic 120), (21, .bipush 127), (23, .if_icmp .le 5), (26, .iconst (-1)), (27, .ireturn), (28, .iinc 3 1), (31, .goto (-29))],
  [(34, .iload_n 3), (35, .ifCond .ne 5), (38, .iconst (-1)), (39, .ireturn), (40, .aload_n 0), (41, .getfield 128), (44, .iload_n 3), (45, .iadd), (46, .sipush 200)],
  [(49, .if_icmp .le 6), (52, .bipush (-2)), (54, .ireturn), (55, .iconst 0), (56, .istore 4), (58, .iload 4), (60, .iload_n 3), (61, .if_icmp .ge 31)],
  [(64, .aload_n 0), (65, .getfield 7), (68, .aload_n 0), (69, .dup), (70, .getfield 128), (73, .dup_x1), (74, .iconst 1), (75, .iadd), (76, .putfield 128), (79, .lload_n 1)],
  [(80, .iload 4), (82, .invokestatic 120), (85, .iastore), (86, .iinc 4 1), (89, .goto (-31)), (92, .aload_n 0), (93, .getfield 128)],
  [(96, .ireturn)]]
def mx_ct118 : List (List (Nat × Jvm.ClassFile.Instr)) := [[(0, .lload_n 0), (1, .bipush 8), (3, .iload_n 2), (4, .imul), (5, .lshr), (6, .ldc2_w 114), (9, .land), (10, .l2i), (11, .ireturn)]]
def mx_ct119 : List (List (Nat × Jvm.ClassFile.Instr)) := [[(0, .iload_n 1), (1, .iconst 0), (2, .bipush 7), (4, .invokestatic 116), (7, .ifCond .eq 25), (10, .iload_n 2), (11, .iconst 0), (12, .sipush 255), (15, .invokestatic 116)],
  [(18, .ifCond .eq 14), (21, .iload_n 3), (22, .iload_n 2), (23, .sipush 255), (26, .invokestatic 116), (29, .ifCond .ne 5)],
  [(32, .iconst (-1)), (33, .ireturn), (34, .aload_n 0), (35, .getfield 13), (38, .bipush 8), (40, .iaload), (41, .iconst 3), (42, .if_icmp .ne 6), (45, .bipush (-2)), (47, .ireturn)],
  [(48, .bipush 24), (50, .aload_n 0), (51, .getfield 13), (54, .bipush 8), (56, .dup2), (57, .iaload), (58, .dup_x2), (59, .iconst 1), (60, .iadd), (61, .iastore), (62, .iadd), (63, .istore 4)],
  [(65, .aload_n 0), (66, .getfield 16), (69, .iload 4), (71, .iload_n 1), (72, .iastore), (73, .aload_n 0), (74, .getfield 19), (77, .iload 4), (79, .iload_n 2)],
  [(80, .iastore), (81, .aload_n 0), (82, .getfield 22), (85, .iload 4), (87, .iload_n 3), (88, .iastore), (89, .aload_n 0), (90, .getfield 13), (93, .bipush 8), (95, .iaload)],
  [(96, .ireturn)]]
def mx_ct120 : List (List (Nat × Jvm.ClassFile.Instr)) := [[(0, .iload_n 0), (1, .iload_n 1), (2, .if_icmp .lt 12), (5, .iload_n 0), (6, .iload_n 2), (7, .if_icmp .gt 7), (10, .iconst 1), (11, .goto 4), (14, .iconst 0), (15, .ireturn)]]
def mx_ct121 : List (List (Nat × Jvm.ClassFile.Instr)) := [[(0, .lload_n 1), (1, .invokestatic 132), (4, .ifCond .eq 18), (7, .iload_n 3), (8, .iconst 0), (9, .bipush 6), (11, .invokestatic 116), (14, .ifCond .eq 8)],
  [(17, .iload_n 3), (18, .iconst 3), (19, .if_icmp .ne 5), (22, .iconst (-1)), (23, .ireturn), (24, .aload_n 0), (25, .getfield 25), (28, .bipush 8), (30, .iaload), (31, .iconst 4)],
  [(32, .if_icmp .ne 6), (35, .bipush (-2)), (37, .ireturn), (38, .aload_n 0), (39, .getfield 34), (42, .bipush 32), (44, .aload_n 0), (45, .getfield 25)],
  [(48, .bipush 8), (50, .iaload), (51, .iadd), (52, .lload_n 1), (53, .lastore), (54, .aload_n 0), (55, .getfield 28), (58, .bipush 32), (60, .aload_n 0), (61, .getfield 25)],
  [(64, .bipush 8), (66, .iaload), (67, .iadd), (68, .iload_n 3), (69, .iastore), (70, .aload_n 0), (71, .getfield 25), (74, .bipush 8), (76, .dup2), (77, .iaload), (78, .iconst 1), (79, .iadd)],
  [(80, .dup_x2), (81, .iastore), (82, .ireturn)]]
def mx_ct122 : List (List (Nat × Jvm.ClassFile.Instr)) := [[(0, .iconst 0), (1, .istore_n 2), (2, .iload_n 2), (3, .bipush 8), (5, .if_icmp .ge 20), (8, .lload_n 0), (9, .iload_n 2), (10, .invokestatic 120), (13, .invokestatic 124)],
  [(16, .ifCond .eq 9), (19, .iinc 2 1), (22, .goto (-20)), (25, .iload_n 2), (26, .ifCond .le 24), (29, .iload_n 2), (30, .bipush 8)],
  [(32, .if_icmp .eq 14), (35, .lload_n 0), (36, .bipush 8), (38, .iload_n 2), (39, .imul), (40, .lushr), (41, .lconst 0), (42, .lcmp), (43, .ifCond .ne 7), (46, .iconst 1), (47, .goto 4)],
  [(50, .iconst 0), (51, .ireturn)]]
def mx_ct123 : List (List (Nat × Jvm.ClassFile.Instr)) := [[(0, .iload_n 0), (1, .bipush 97), (3, .bipush 122), (5, .invokestatic 116), (8, .ifCond .ne 20), (11, .iload_n 0), (12, .bipush 48), (14, .bipush 57)],
  [(16, .invokestatic 116), (19, .ifCond .ne 9), (22, .iload_n 0), (23, .bipush 46), (25, .if_icmp .ne 7), (28, .iconst 1), (29, .goto 4)],
  [(32, .iconst 0), (33, .ireturn)]]
def mx_ct124 : List (List (Nat × Jvm.ClassFile.Instr)) := [[(0, .iload_n 1), (1, .iconst 0), (2, .iconst 2), (3, .invokestatic 116), (6, .ifCond .eq 16), (9, .lload_n 2), (10, .lconst 0), (11, .lcmp), (12, .ifCond .eq 12), (15, .lload_n 2)],
  [(16, .invokestatic 132), (19, .ifCond .ne 5), (22, .iconst 0), (23, .ireturn), (24, .aload_n 0), (25, .getfield 31), (28, .bipush 8), (30, .iload_n 1), (31, .iastore)],
  [(32, .aload_n 0), (33, .getfield 38), (36, .bipush 8), (38, .lload_n 2), (39, .lastore), (40, .iconst 1), (41, .ireturn)]]
def mx_ct125 : List (List (Nat × Jvm.ClassFile.Instr)) := [[(0, .aload_n 0), (1, .getfield 128), (4, .istore_n 1), (5, .aload_n 0), (6, .iconst 0), (7, .putfield 128), (10, .aload_n 0), (11, .getfield 13), (14, .bipush 8)],
  [(16, .iconst 0), (17, .iastore), (18, .aload_n 0), (19, .getfield 25), (22, .bipush 8), (24, .iconst 0), (25, .iastore), (26, .aload_n 0), (27, .getfield 31), (30, .bipush 8)],
  [(32, .iconst 0), (33, .iastore), (34, .aload_n 0), (35, .getfield 38), (38, .bipush 8), (40, .lconst 0), (41, .lastore), (42, .iload_n 1), (43, .ireturn)]]
def mx_ct126 : List (List (Nat × Jvm.ClassFile.Instr)) := [[(0, .iload_n 1), (1, .iconst 0), (2, .bipush 7), (4, .invokestatic 116), (7, .ifCond .eq 14), (10, .iload_n 2), (11, .iconst 0), (12, .sipush 255), (15, .invokestatic 116)],
  [(18, .ifCond .ne 5), (21, .iconst (-1)), (22, .ireturn), (23, .aload_n 0), (24, .getfield 41), (27, .iload_n 1), (28, .baload), (29, .ifCond .eq 6)],
  [(32, .bipush (-3)), (34, .ireturn), (35, .aload_n 0), (36, .getfield 41), (39, .iload_n 1), (40, .iconst 1), (41, .bastore), (42, .aload_n 0), (43, .getfield 54), (46, .iload_n 1), (47, .iload_n 2)],
  [(48, .iastore), (49, .aload_n 0), (50, .getfield 48), (53, .iload_n 1), (54, .iconst 0), (55, .bastore), (56, .aload_n 0), (57, .getfield 63), (60, .iload_n 1), (61, .iconst 0), (62, .iastore), (63, .aload_n 0)],
  [(64, .getfield 13), (67, .iload_n 1), (68, .aload_n 0), (69, .getfield 13), (72, .bipush 8), (74, .iaload), (75, .iastore), (76, .aload_n 0), (77, .getfield 25)],
  [(80, .iload_n 1), (81, .aload_n 0), (82, .getfield 25), (85, .bipush 8), (87, .iaload), (88, .iastore), (89, .aload_n 0), (90, .getfield 31), (93, .iload_n 1), (94, .aload_n 0), (95, .getfield 31)],
  [(98, .bipush 8), (100, .iaload), (101, .iastore), (102, .aload_n 0), (103, .getfield 38), (106, .iload_n 1), (107, .aload_n 0), (108, .getfield 38), (111, .bipush 8)],
  [(113, .laload), (114, .lastore), (115, .iconst 0), (116, .istore_n 3), (117, .iload_n 3), (118, .iconst 3), (119, .if_icmp .ge 66), (122, .aload_n 0), (123, .getfield 16), (126, .iconst 3), (127, .iload_n 1)],
  [(128, .imul), (129, .iload_n 3), (130, .iadd), (131, .aload_n 0), (132, .getfield 16), (135, .bipush 24), (137, .iload_n 3), (138, .iadd), (139, .iaload), (140, .iastore), (141, .aload_n 0), (142, .getfield 19)],
  [(145, .iconst 3), (146, .iload_n 1), (147, .imul), (148, .iload_n 3), (149, .iadd), (150, .aload_n 0), (151, .getfield 19), (154, .bipush 24), (156, .iload_n 3), (157, .iadd), (158, .iaload), (159, .iastore)],
  [(160, .aload_n 0), (161, .getfield 22), (164, .iconst 3), (165, .iload_n 1), (166, .imul), (167, .iload_n 3), (168, .iadd), (169, .aload_n 0), (170, .getfield 22), (173, .bipush 24), (175, .iload_n 3)],
  [(176, .iadd), (177, .iaload), (178, .iastore), (179, .iinc 3 1), (182, .goto (-65)), (185, .iconst 0), (186, .istore_n 3), (187, .iload_n 3), (188, .iconst 4), (189, .if_icmp .ge 47)],
  [(192, .aload_n 0), (193, .getfield 34), (196, .iconst 4), (197, .iload_n 1), (198, .imul), (199, .iload_n 3), (200, .iadd), (201, .aload_n 0), (202, .getfield 34), (205, .bipush 32), (207, .iload_n 3)],
  [(208, .iadd), (209, .laload), (210, .lastore), (211, .aload_n 0), (212, .getfield 28), (215, .iconst 4), (216, .iload_n 1), (217, .imul), (218, .iload_n 3), (219, .iadd), (220, .aload_n 0), (221, .getfield 28)],
  [(224, .bipush 32), (226, .iload_n 3), (227, .iadd), (228, .iaload), (229, .iastore), (230, .iinc 3 1), (233, .goto (-46)), (236, .aload_n 0), (237, .getfield 57)],
  [(240, .iload_n 1), (241, .aload_n 0), (242, .iload_n 1), (243, .invokevirtual 226), (246, .iastore), (247, .aload_n 0), (248, .getfield 60), (251, .iload_n 1), (252, .aload_n 0), (253, .getfield 57)],
  [(256, .iload_n 1), (257, .iaload), (258, .ifCond .ge 7), (261, .iconst (-1)), (262, .goto 4), (265, .iconst 1), (266, .iastore), (267, .iconst 0), (268, .istore_n 3), (269, .iload_n 3), (270, .aload_n 0), (271, .getfield 57)],
  [(274, .iload_n 1), (275, .iaload), (276, .if_icmp .ge 30), (279, .aload_n 0), (280, .getfield 7), (283, .iload_n 3), (284, .iaload), (285, .bipush 10), (287, .if_icmp .ne 13)],
  [(290, .aload_n 0), (291, .getfield 60), (294, .iload_n 1), (295, .dup2), (296, .iaload), (297, .iconst 1), (298, .iadd), (299, .iastore), (300, .iinc 3 1), (303, .goto (-34))],
  [(306, .aload_n 0), (307, .getfield 57), (310, .iload_n 1), (311, .iaload), (312, .ifCond .lt 10), (315, .aload_n 0), (316, .getfield 66), (319, .iload_n 1)],
  [(320, .iconst 0), (321, .iastore), (322, .aload_n 0), (323, .invokevirtual 229), (326, .pop), (327, .aload_n 0), (328, .invokevirtual 233), (331, .pop), (332, .aload_n 0), (333, .getfield 57)],
  [(336, .iload_n 1), (337, .iaload), (338, .ifCond .ge 7), (341, .iconst 0), (342, .goto 4), (345, .iconst 1), (346, .ireturn)]]
def mx_ct127 : List (List (Nat × Jvm.ClassFile.Instr)) := [[(0, .aload_n 0), (1, .iconst 0), (2, .putfield 136), (5, .aload_n 0), (6, .iconst (-1)), (7, .putfield 139), (10, .aload_n 0), (11, .getfield 66), (14, .iload_n 1), (15, .iconst 0)],
  [(16, .iastore), (17, .iconst 0), (18, .istore_n 2), (19, .iload_n 2), (20, .aload_n 0), (21, .getfield 128), (24, .if_icmp .ge 25), (27, .aload_n 0), (28, .iload_n 1), (29, .aload_n 0), (30, .getfield 7)],
  [(33, .iload_n 2), (34, .iaload), (35, .invokevirtual 142), (38, .ifCond .ne 5), (41, .iload_n 2), (42, .ireturn), (43, .iinc 2 1), (46, .goto (-27))],
  [(49, .aload_n 0), (50, .getfield 136), (53, .ifCond .ne 14), (56, .aload_n 0), (57, .getfield 139), (60, .ifCond .ge 7), (63, .iconst (-1))],
  [(64, .goto 7), (67, .aload_n 0), (68, .getfield 128), (71, .ireturn)]]
def mx_ct128 : List (List (Nat × Jvm.ClassFile.Instr)) := [[(0, .iload_n 2), (1, .bipush 97), (3, .bipush 122), (5, .invokestatic 116), (8, .istore_n 3), (9, .iload_n 2), (10, .bipush 32), (12, .if_icmp .eq 9), (15, .iload_n 2)],
  [(16, .bipush 10), (18, .if_icmp .ne 7), (21, .iconst 1), (22, .goto 4), (25, .iconst 0), (26, .istore 4), (28, .aload_n 0), (29, .getfield 136)],
  [(32, .tableswitch 434 0 9 #[56, 98, 147, 201, 221, 228, 251, 328, 336, 366])],
  [],
  [],
  [(88, .iload 4), (90, .ifCond .eq 5), (93, .iconst 1), (94, .ireturn), (95, .aload_n 0)],
  [(96, .iconst 1), (97, .putfield 136), (100, .iload_n 2), (101, .bipush 60), (103, .if_icmp .ne 25), (106, .aload_n 0), (107, .getfield 139), (110, .ifCond .ge 14)],
  [(113, .aload_n 0), (114, .getfield 66), (117, .iload_n 1), (118, .iaload), (119, .bipush 16), (121, .if_icmp .ge 7), (124, .iconst 1), (125, .goto 4)],
  [(128, .iconst 0), (129, .ireturn), (130, .iload_n 2), (131, .bipush 47), (133, .if_icmp .eq 22), (136, .iload_n 3), (137, .ifCond .eq 16), (140, .aload_n 0), (141, .iload_n 1), (142, .iload_n 2), (143, .invokevirtual 146)],
  [(146, .ifCond .eq 7), (149, .iconst 1), (150, .goto 4), (153, .iconst 0), (154, .ireturn), (155, .aload_n 0), (156, .bipush 9), (158, .putfield 136)],
  [(161, .aload_n 0), (162, .iconst 0), (163, .putfield 149), (166, .aload_n 0), (167, .getfield 139), (170, .ifCond .lt 7), (173, .iconst 1), (174, .goto 4)],
  [(177, .iconst 0), (178, .ireturn), (179, .iload_n 3), (180, .ifCond .ne 11), (183, .aload_n 0), (184, .iload_n 2), (185, .iload 4), (187, .invokevirtual 152), (190, .ireturn), (191, .aload_n 0)],
  [(192, .getfield 149), (195, .bipush 8), (197, .if_icmp .ne 5), (200, .iconst 0), (201, .ireturn), (202, .aload_n 0), (203, .getfield 72), (206, .aload_n 0), (207, .getfield 156)],
  [(210, .dup2), (211, .laload), (212, .iload_n 2), (213, .i2l), (214, .bipush 8), (216, .aload_n 0), (217, .dup), (218, .getfield 149), (221, .dup_x1), (222, .iconst 1), (223, .iadd)],
  [(224, .putfield 149), (227, .imul), (228, .lshl), (229, .lor), (230, .lastore), (231, .iconst 1), (232, .ireturn), (233, .iload_n 3), (234, .ifCond .eq 11), (237, .aload_n 0), (238, .iload_n 2), (239, .invokevirtual 159)],
  [(242, .goto 10), (245, .aload_n 0), (246, .iload_n 2), (247, .iload 4), (249, .invokevirtual 152), (252, .ireturn), (253, .aload_n 0), (254, .iload_n 2), (255, .iload_n 3)],
  [(256, .invokevirtual 162), (259, .ireturn), (260, .aload_n 0), (261, .bipush 6), (263, .putfield 136), (266, .aload_n 0), (267, .iconst 0), (268, .putfield 149), (271, .iload_n 2)],
  [(272, .bipush 34), (274, .if_icmp .ne 7), (277, .iconst 1), (278, .goto 4), (281, .iconst 0), (282, .ireturn), (283, .iload_n 2), (284, .bipush 34), (286, .if_icmp .ne 11)],
  [(289, .aload_n 0), (290, .bipush 7), (292, .putfield 136), (295, .iconst 1), (296, .ireturn), (297, .aload_n 0), (298, .getfield 149), (301, .bipush 8), (303, .if_icmp .eq 10)],
  [(306, .iload_n 2), (307, .invokestatic 124), (310, .ifCond .ne 5), (313, .iconst 0), (314, .ireturn), (315, .aload_n 0), (316, .getfield 78), (319, .iconst 4)],
  [(320, .aload_n 0), (321, .getfield 156), (324, .imul), (325, .aload_n 0), (326, .getfield 87), (329, .aload_n 0), (330, .getfield 156), (333, .iaload), (334, .iadd), (335, .iconst 1)],
  [(336, .isub), (337, .dup2), (338, .laload), (339, .iload_n 2), (340, .i2l), (341, .bipush 8), (343, .aload_n 0), (344, .dup), (345, .getfield 149), (348, .dup_x1), (349, .iconst 1), (350, .iadd), (351, .putfield 149)],
  [(354, .imul), (355, .lshl), (356, .lor), (357, .lastore), (358, .iconst 1), (359, .ireturn), (360, .aload_n 0), (361, .iload_n 2), (362, .iload 4), (364, .invokevirtual 152), (367, .ireturn)],
  [(368, .aload_n 0), (369, .iconst 0), (370, .putfield 136), (373, .aload_n 0), (374, .aload_n 0), (375, .getfield 81), (378, .aload_n 0), (379, .getfield 156), (382, .iaload), (383, .putfield 139)],
  [(386, .iload_n 2), (387, .bipush 62), (389, .if_icmp .ne 7), (392, .iconst 1), (393, .goto 4), (396, .iconst 0), (397, .ireturn), (398, .iload_n 2), (399, .aload_n 0)],
  [(400, .getfield 72), (403, .aload_n 0), (404, .getfield 139), (407, .laload), (408, .aload_n 0), (409, .getfield 149), (412, .invokestatic 120), (415, .if_icmp .eq 5)],
  [(418, .iconst 0), (419, .ireturn), (420, .aload_n 0), (421, .dup), (422, .getfield 149), (425, .iconst 1), (426, .iadd), (427, .putfield 149), (430, .aload_n 0), (431, .getfield 149)],
  [(434, .bipush 8), (436, .if_icmp .eq 22), (439, .aload_n 0), (440, .getfield 72), (443, .aload_n 0), (444, .getfield 139), (447, .laload)],
  [(448, .aload_n 0), (449, .getfield 149), (452, .invokestatic 120), (455, .ifCond .ne 9), (458, .aload_n 0), (459, .bipush 10), (461, .putfield 136)],
  [(464, .iconst 1), (465, .ireturn), (466, .iload 4), (468, .ifCond .eq 5), (471, .iconst 1), (472, .ireturn), (473, .aload_n 0), (474, .iconst 0), (475, .putfield 136), (478, .aload_n 0), (479, .aload_n 0)],
  [(480, .getfield 81), (483, .aload_n 0), (484, .getfield 139), (487, .iaload), (488, .putfield 139), (491, .iload_n 2), (492, .bipush 62), (494, .if_icmp .ne 7)],
  [(497, .iconst 1), (498, .goto 4), (501, .iconst 0), (502, .ireturn)]]
def mx_ct129 : List (List (Nat × Jvm.ClassFile.Instr)) := [[(0, .aload_n 0), (1, .getfield 139), (4, .ifCond .ge 7), (7, .iconst 1), (8, .goto 14), (11, .aload_n 0), (12, .getfield 84), (15, .aload_n 0)],
  [(16, .getfield 139), (19, .iaload), (20, .iconst 1), (21, .iadd), (22, .istore_n 3), (23, .aload_n 0), (24, .getfield 66), (27, .iload_n 1), (28, .iaload), (29, .bipush 16), (31, .if_icmp .eq 8)],
  [(34, .iload_n 3), (35, .iconst 4), (36, .if_icmp .le 5), (39, .iconst 0), (40, .ireturn), (41, .aload_n 0), (42, .bipush 16), (44, .iload_n 1), (45, .imul), (46, .aload_n 0), (47, .getfield 66)],
  [(50, .iload_n 1), (51, .dup2), (52, .iaload), (53, .dup_x2), (54, .iconst 1), (55, .iadd), (56, .iastore), (57, .iadd), (58, .putfield 156), (61, .aload_n 0), (62, .getfield 72)],
  [(65, .aload_n 0), (66, .getfield 156), (69, .iload_n 2), (70, .i2l), (71, .lastore), (72, .aload_n 0), (73, .getfield 81), (76, .aload_n 0), (77, .getfield 156)],
  [(80, .aload_n 0), (81, .getfield 139), (84, .iastore), (85, .aload_n 0), (86, .getfield 84), (89, .aload_n 0), (90, .getfield 156), (93, .iload_n 3), (94, .iastore), (95, .aload_n 0)],
  [(96, .getfield 87), (99, .aload_n 0), (100, .getfield 156), (103, .iconst 0), (104, .iastore), (105, .aload_n 0), (106, .iconst 1), (107, .putfield 149), (110, .aload_n 0), (111, .iconst 2)],
  [(112, .putfield 136), (115, .iconst 1), (116, .ireturn)]]
def mx_ct130 : List (List (Nat × Jvm.ClassFile.Instr)) := [[(0, .aload_n 0), (1, .iload_n 2), (2, .ifCond .eq 7), (5, .iconst 3), (6, .goto 15), (9, .iload_n 1), (10, .bipush 47), (12, .if_icmp .ne 8), (15, .bipush 8)],
  [(17, .goto 4), (20, .iconst 0), (21, .putfield 136), (24, .iload_n 1), (25, .bipush 62), (27, .if_icmp .ne 11), (30, .aload_n 0), (31, .aload_n 0)],
  [(32, .getfield 156), (35, .putfield 139), (38, .iload_n 2), (39, .ifCond .ne 15), (42, .iload_n 1), (43, .bipush 47), (45, .if_icmp .eq 9)],
  [(48, .iload_n 1), (49, .bipush 62), (51, .if_icmp .ne 7), (54, .iconst 1), (55, .goto 4), (58, .iconst 0), (59, .ireturn)]]
def mx_ct131 : List (List (Nat × Jvm.ClassFile.Instr)) := [[(0, .aload_n 0), (1, .getfield 87), (4, .aload_n 0), (5, .getfield 156), (8, .iaload), (9, .iconst 4), (10, .if_icmp .ne 5), (13, .iconst 0), (14, .ireturn), (15, .iconst 4)],
  [(16, .aload_n 0), (17, .getfield 156), (20, .imul), (21, .aload_n 0), (22, .getfield 87), (25, .aload_n 0), (26, .getfield 156), (29, .dup2), (30, .iaload), (31, .dup_x2)],
  [(32, .iconst 1), (33, .iadd), (34, .iastore), (35, .iadd), (36, .istore_n 2), (37, .aload_n 0), (38, .getfield 75), (41, .iload_n 2), (42, .lconst 0), (43, .lastore), (44, .aload_n 0), (45, .getfield 78)],
  [(48, .iload_n 2), (49, .lconst 0), (50, .lastore), (51, .aload_n 0), (52, .iconst 0), (53, .putfield 149), (56, .aload_n 0), (57, .iconst 4), (58, .putfield 136), (61, .aload_n 0), (62, .iload_n 1), (63, .iconst 1)],
  [(64, .invokevirtual 162), (67, .ireturn)]]
def mx_ct132 : List (List (Nat × Jvm.ClassFile.Instr)) := [[(0, .iconst 4), (1, .aload_n 0), (2, .getfield 156), (5, .imul), (6, .aload_n 0), (7, .getfield 87), (10, .aload_n 0), (11, .getfield 156), (14, .iaload), (15, .iadd)],
  [(16, .iconst 1), (17, .isub), (18, .istore_n 3), (19, .aload_n 0), (20, .getfield 87), (23, .aload_n 0), (24, .getfield 156), (27, .dup2), (28, .iaload), (29, .iconst 1), (30, .isub), (31, .iastore)],
  [(32, .iload_n 2), (33, .ifCond .eq 20), (36, .aload_n 0), (37, .getfield 149), (40, .bipush 8), (42, .if_icmp .ge 7), (45, .iconst 1), (46, .goto 35)],
  [(49, .iconst 0), (50, .goto 31), (53, .iload_n 1), (54, .bipush 61), (56, .if_icmp .ne 24), (59, .aload_n 0), (60, .aload_n 0), (61, .getfield 156)],
  [(64, .aload_n 0), (65, .getfield 75), (68, .iload_n 3), (69, .laload), (70, .invokevirtual 165), (73, .ifCond .ne 7), (76, .iconst 1), (77, .goto 4)],
  [(80, .iconst 0), (81, .istore 4), (83, .iload_n 2), (84, .ifCond .eq 67), (87, .iload 4), (89, .ifCond .eq 62), (92, .aload_n 0), (93, .getfield 75)],
  [(96, .iload_n 3), (97, .dup2), (98, .laload), (99, .iload_n 1), (100, .i2l), (101, .bipush 8), (103, .aload_n 0), (104, .dup), (105, .getfield 149), (108, .dup_x1), (109, .iconst 1), (110, .iadd), (111, .putfield 149)],
  [(114, .imul), (115, .lshl), (116, .lor), (117, .lastore), (118, .aload_n 0), (119, .getfield 149), (122, .bipush 8), (124, .if_icmp .lt 20), (127, .aload_n 0)],
  [(128, .aload_n 0), (129, .getfield 156), (132, .aload_n 0), (133, .getfield 75), (136, .iload_n 3), (137, .laload), (138, .invokevirtual 165), (141, .ifCond .ne 7)],
  [(144, .iconst 1), (145, .goto 4), (148, .iconst 0), (149, .istore 4), (151, .aload_n 0), (152, .getfield 87), (155, .aload_n 0), (156, .getfield 156), (159, .dup2)],
  [(160, .iaload), (161, .iconst 1), (162, .iadd), (163, .iastore), (164, .iload_n 2), (165, .ifCond .ne 8), (168, .aload_n 0), (169, .iconst 5), (170, .putfield 136), (173, .iload 4), (175, .ireturn)]]
def mx_ct133 : List (List (Nat × Jvm.ClassFile.Instr)) := [[(0, .iconst 0), (1, .istore 4), (3, .iload 4), (5, .aload_n 0), (6, .getfield 87), (9, .iload_n 1), (10, .iaload), (11, .if_icmp .ge 27), (14, .aload_n 0), (15, .getfield 75)],
  [(18, .iconst 4), (19, .iload_n 1), (20, .imul), (21, .iload 4), (23, .iadd), (24, .laload), (25, .lload_n 2), (26, .lcmp), (27, .ifCond .ne 5), (30, .iconst 1), (31, .ireturn)],
  [(32, .iinc 4 1), (35, .goto (-32)), (38, .iconst 0), (39, .ireturn)]]
def mx_ct134 : List (List (Nat × Jvm.ClassFile.Instr)) := [[(0, .aload_n 0), (1, .getfield 210), (4, .istore_n 1), (5, .aload_n 0), (6, .invokevirtual 213), (9, .iconst 0), (10, .istore_n 2), (11, .iload_n 2), (12, .sipush 128), (15, .if_icmp .ge 28)],
  [(18, .aload_n 0), (19, .getfield 93), (22, .iload_n 2), (23, .aload_n 0), (24, .getfield 90), (27, .iload_n 2), (28, .baload), (29, .bastore), (30, .aload_n 0), (31, .getfield 90)],
  [(34, .iload_n 2), (35, .iconst 0), (36, .bastore), (37, .iinc 2 1), (40, .goto (-29)), (43, .iconst 0), (44, .istore_n 2), (45, .iload_n 2), (46, .sipush 128)],
  [(49, .if_icmp .ge 20), (52, .aload_n 0), (53, .getfield 90), (56, .iload_n 2), (57, .aload_n 0), (58, .iload_n 2), (59, .invokevirtual 216), (62, .bastore), (63, .iinc 2 1)],
  [(66, .goto (-21)), (69, .iconst 0), (70, .istore_n 2), (71, .iload_n 2), (72, .sipush 128), (75, .if_icmp .ge 32), (78, .aload_n 0), (79, .getfield 93)],
  [(82, .iload_n 2), (83, .baload), (84, .ifCond .eq 17), (87, .aload_n 0), (88, .getfield 90), (91, .iload_n 2), (92, .baload), (93, .ifCond .ne 8)],
  [(96, .aload_n 0), (97, .iload_n 2), (98, .invokevirtual 219), (101, .iinc 2 1), (104, .goto (-33)), (107, .iconst 0), (108, .istore_n 2), (109, .iload_n 2), (110, .sipush 128)],
  [(113, .if_icmp .ge 36), (116, .aload_n 0), (117, .getfield 93), (120, .iload_n 2), (121, .baload), (122, .ifCond .ne 21), (125, .aload_n 0), (126, .getfield 90)],
  [(129, .iload_n 2), (130, .baload), (131, .ifCond .eq 12), (134, .aload_n 0), (135, .sipush 128), (138, .iload_n 2), (139, .iadd), (140, .invokevirtual 219), (143, .iinc 2 1)],
  [(146, .goto (-37)), (149, .aload_n 0), (150, .getfield 210), (153, .iload_n 1), (154, .isub), (155, .ireturn)]]
def mx_ct135 : List (List (Nat × Jvm.ClassFile.Instr)) := [[(0, .iconst 0), (1, .istore_n 1), (2, .iload_n 1), (3, .bipush 8), (5, .if_icmp .ge 21), (8, .aload_n 0), (9, .getfield 45), (12, .iload_n 1), (13, .aload_n 0), (14, .getfield 41)],
  [(17, .iload_n 1), (18, .baload), (19, .bastore), (20, .iinc 1 1), (23, .goto (-21)), (26, .iconst 0), (27, .istore_n 1), (28, .iload_n 1), (29, .bipush 8), (31, .if_icmp .ge 47)],
  [(34, .iconst 0), (35, .istore_n 2), (36, .iload_n 2), (37, .bipush 8), (39, .if_icmp .ge 33), (42, .aload_n 0), (43, .getfield 45), (46, .iload_n 2), (47, .baload)],
  [(48, .ifCond .eq 18), (51, .aload_n 0), (52, .iload_n 2), (53, .invokevirtual 172), (56, .ifCond .le 10), (59, .aload_n 0), (60, .getfield 45), (63, .iload_n 2)],
  [(64, .iconst 0), (65, .bastore), (66, .iinc 2 1), (69, .goto (-33)), (72, .iinc 1 1), (75, .goto (-47)), (78, .return_)]]
def mx_ct136 : List (List (Nat × Jvm.ClassFile.Instr)) := [[(0, .iconst 0), (1, .istore_n 2), (2, .iload_n 2), (3, .aload_n 0), (4, .getfield 13), (7, .iload_n 1), (8, .iaload), (9, .if_icmp .ge 22), (12, .aload_n 0), (13, .iload_n 1), (14, .iload_n 2), (15, .invokevirtual 169)],
  [(18, .ifCond .ne 7), (21, .iload_n 2), (22, .iconst 1), (23, .iadd), (24, .ireturn), (25, .iinc 2 1), (28, .goto (-26)), (31, .iconst 0)],
  [(32, .ireturn)]]
def mx_ct137 : List (List (Nat × Jvm.ClassFile.Instr)) := [[(0, .aload_n 0), (1, .getfield 16), (4, .iconst 3), (5, .iload_n 1), (6, .imul), (7, .iload_n 2), (8, .iadd), (9, .iaload), (10, .istore_n 3), (11, .aload_n 0), (12, .getfield 45), (15, .iload_n 3)],
  [(16, .baload), (17, .ifCond .eq 39), (20, .aload_n 0), (21, .getfield 54), (24, .iload_n 3), (25, .iaload), (26, .aload_n 0), (27, .getfield 19), (30, .iconst 3), (31, .iload_n 1)],
  [(32, .imul), (33, .iload_n 2), (34, .iadd), (35, .iaload), (36, .aload_n 0), (37, .getfield 22), (40, .iconst 3), (41, .iload_n 1), (42, .imul), (43, .iload_n 2), (44, .iadd), (45, .iaload), (46, .invokestatic 116)],
  [(49, .ifCond .eq 7), (52, .iconst 1), (53, .goto 4), (56, .iconst 0), (57, .ireturn)]]
def mx_ct138 : List (List (Nat × Jvm.ClassFile.Instr)) := [[(0, .aload_n 0), (1, .iload_n 1), (2, .ldc2_w 201), (5, .invokevirtual 183), (8, .ifCond .eq 18), (11, .aload_n 0), (12, .aload_n 0), (13, .iload_n 1), (14, .ldc2_w 181)],
  [(17, .invokevirtual 188), (20, .invokevirtual 203), (23, .goto 4), (26, .iconst (-1)), (27, .istore_n 2), (28, .iload_n 2), (29, .ifCond .ge 5)],
  [(32, .iconst 0), (33, .ireturn), (34, .iconst 0), (35, .istore_n 3), (36, .iload_n 2), (37, .iconst 1), (38, .iadd), (39, .istore 4), (41, .aload_n 0), (42, .iload 4), (44, .invokevirtual 178), (47, .ifCond .eq 31)],
  [(50, .iload 4), (52, .bipush 16), (54, .idiv), (55, .iload_n 2), (56, .bipush 16), (58, .idiv), (59, .if_icmp .ne 19), (62, .iload_n 3), (63, .aload_n 0)],
  [(64, .iload 4), (66, .iload_n 2), (67, .invokevirtual 196), (70, .ior), (71, .istore_n 3), (72, .iinc 4 1), (75, .goto (-34)), (78, .iload_n 1), (79, .iconst 1)],
  [(80, .iadd), (81, .istore 4), (83, .aload_n 0), (84, .iload 4), (86, .invokevirtual 178), (89, .ifCond .eq 48), (92, .iload 4), (94, .bipush 16)],
  [(96, .idiv), (97, .iload_n 1), (98, .bipush 16), (100, .idiv), (101, .if_icmp .ne 36), (104, .iload_n 3), (105, .ifCond .eq 32), (108, .aload_n 0), (109, .getfield 81)],
  [(112, .iload 4), (114, .iaload), (115, .iload_n 1), (116, .if_icmp .ne 15), (119, .aload_n 0), (120, .iload 4), (122, .iload_n 2), (123, .invokevirtual 207), (126, .ifCond .ne 5)],
  [(129, .iconst 0), (130, .ireturn), (131, .iinc 4 1), (134, .goto (-51)), (137, .iconst 1), (138, .ireturn)]]
def mx_ct139 : List (List (Nat × Jvm.ClassFile.Instr)) := [[(0, .aload_n 0), (1, .iload_n 1), (2, .invokevirtual 178), (5, .ifCond .eq 40), (8, .aload_n 0), (9, .getfield 45), (12, .iload_n 1), (13, .bipush 16), (15, .idiv)],
  [(16, .baload), (17, .ifCond .eq 28), (20, .aload_n 0), (21, .getfield 84), (24, .iload_n 1), (25, .iaload), (26, .iconst 1), (27, .if_icmp .ne 18), (30, .aload_n 0), (31, .getfield 72)],
  [(34, .iload_n 1), (35, .laload), (36, .lload_n 2), (37, .lcmp), (38, .ifCond .ne 7), (41, .iconst 1), (42, .goto 4), (45, .iconst 0), (46, .ireturn)]]
def mx_ct140 : List (List (Nat × Jvm.ClassFile.Instr)) := [[(0, .iload_n 1), (1, .iconst 0), (2, .bipush 127), (4, .invokestatic 116), (7, .ifCond .eq 35), (10, .aload_n 0), (11, .getfield 41), (14, .iload_n 1), (15, .bipush 16)],
  [(17, .idiv), (18, .baload), (19, .ifCond .eq 23), (22, .iload_n 1), (23, .bipush 16), (25, .irem), (26, .aload_n 0), (27, .getfield 66), (30, .iload_n 1), (31, .bipush 16)],
  [(33, .idiv), (34, .iaload), (35, .if_icmp .ge 7), (38, .iconst 1), (39, .goto 4), (42, .iconst 0), (43, .ireturn)]]
def mx_ct141 : List (List (Nat × Jvm.ClassFile.Instr)) := [[(0, .iconst 0), (1, .istore 4), (3, .iload 4), (5, .aload_n 0), (6, .getfield 87), (9, .iload_n 1), (10, .iaload), (11, .if_icmp .ge 37), (14, .aload_n 0), (15, .getfield 75)],
  [(18, .iconst 4), (19, .iload_n 1), (20, .imul), (21, .iload 4), (23, .iadd), (24, .laload), (25, .lload_n 2), (26, .lcmp), (27, .ifCond .ne 15), (30, .aload_n 0), (31, .getfield 78)],
  [(34, .iconst 4), (35, .iload_n 1), (36, .imul), (37, .iload 4), (39, .iadd), (40, .laload), (41, .lreturn), (42, .iinc 4 1), (45, .goto (-42))],
  [(48, .ldc2_w 176), (51, .lreturn)]]
def mx_ct142 : List (List (Nat × Jvm.ClassFile.Instr)) := [[(0, .iconst 0), (1, .istore_n 3), (2, .iload_n 3), (3, .sipush 128), (6, .if_icmp .ge 41), (9, .lload_n 1), (10, .lconst 0), (11, .lcmp), (12, .ifCond .le 29), (15, .aload_n 0)],
  [(16, .iload_n 3), (17, .ldc2_w 181), (20, .invokevirtual 183), (23, .ifCond .eq 18), (26, .aload_n 0), (27, .iload_n 3), (28, .ldc2_w 186), (31, .invokevirtual 188)],
  [(34, .lload_n 1), (35, .lcmp), (36, .ifCond .ne 5), (39, .iload_n 3), (40, .ireturn), (41, .iinc 3 1), (44, .goto (-42)), (47, .iconst (-1))],
  [(48, .ireturn)]]
def mx_ct143 : List (List (Nat × Jvm.ClassFile.Instr)) := [[(0, .aload_n 0), (1, .getfield 81), (4, .iload_n 1), (5, .iaload), (6, .iload_n 2), (7, .if_icmp .ne 33), (10, .aload_n 0), (11, .getfield 72), (14, .iload_n 1), (15, .laload)],
  [(16, .ldc2_w 192), (19, .lcmp), (20, .ifCond .ne 20), (23, .aload_n 0), (24, .iload_n 1), (25, .ldc2_w 194), (28, .invokevirtual 188), (31, .lconst 0)],
  [(32, .lcmp), (33, .ifCond .le 7), (36, .iconst 1), (37, .goto 4), (40, .iconst 0), (41, .ireturn)]]
def mx_ct144 : List (List (Nat × Jvm.ClassFile.Instr)) := [[(0, .iload_n 2), (1, .iconst 1), (2, .iadd), (3, .istore_n 3), (4, .aload_n 0), (5, .iload_n 3), (6, .invokevirtual 178), (9, .ifCond .eq 47), (12, .iload_n 3), (13, .bipush 16), (15, .idiv)],
  [(16, .iload_n 2), (17, .bipush 16), (19, .idiv), (20, .if_icmp .ne 36), (23, .aload_n 0), (24, .iload_n 3), (25, .iload_n 2), (26, .invokevirtual 196), (29, .ifCond .eq 21)],
  [(32, .aload_n 0), (33, .iload_n 3), (34, .ldc2_w 194), (37, .invokevirtual 188), (40, .aload_n 0), (41, .getfield 72), (44, .iload_n 1), (45, .laload), (46, .lcmp), (47, .ifCond .eq 9)],
  [(50, .iinc 3 1), (53, .goto (-49)), (56, .aload_n 0), (57, .iload_n 3), (58, .invokevirtual 178), (61, .ifCond .eq 14)],
  [(64, .iload_n 3), (65, .bipush 16), (67, .idiv), (68, .iload_n 2), (69, .bipush 16), (71, .idiv), (72, .if_icmp .eq 5), (75, .iconst 0), (76, .ireturn), (77, .aload_n 0), (78, .iload_n 3), (79, .ldc2_w 199)],
  [(82, .invokevirtual 188), (85, .lstore 4), (87, .lload 4), (89, .lconst 0), (90, .lcmp), (91, .ifCond .le 15), (94, .aload_n 0), (95, .iload_n 1)],
  [(96, .lload 4), (98, .invokevirtual 188), (101, .lconst 0), (102, .lcmp), (103, .ifCond .lt 7), (106, .iconst 1), (107, .goto 4), (110, .iconst 0), (111, .ireturn)]]
def mx_ct145 : List (List (Nat × Jvm.ClassFile.Instr)) := [[(0, .bipush 31), (2, .istore_n 2), (3, .iload_n 2), (4, .ifCond .le 23), (7, .aload_n 0), (8, .getfield 105), (11, .iload_n 2), (12, .aload_n 0), (13, .getfield 105)],
  [(16, .iload_n 2), (17, .iconst 1), (18, .isub), (19, .iaload), (20, .iastore), (21, .iinc 2 (-1)), (24, .goto (-21)), (27, .aload_n 0), (28, .getfield 105), (31, .iconst 0)],
  [(32, .iload_n 1), (33, .iastore), (34, .aload_n 0), (35, .dup), (36, .getfield 210), (39, .iconst 1), (40, .iadd), (41, .putfield 210), (44, .iload_n 1), (45, .sipush 128)],
  [(48, .if_icmp .lt 4), (51, .return_), (52, .iconst 0), (53, .istore_n 2), (54, .iload_n 2), (55, .aload_n 0), (56, .getfield 223), (59, .if_icmp .ge 26), (62, .aload_n 0), (63, .getfield 102)],
  [(66, .iload_n 2), (67, .iaload), (68, .iload_n 1), (69, .if_icmp .ne 10), (72, .aload_n 0), (73, .getfield 111), (76, .iload_n 2), (77, .iconst 1), (78, .bastore), (79, .iinc 2 1)],
  [(82, .goto (-28)), (85, .return_)]]
def mx_ct146 : List (List (Nat × Jvm.ClassFile.Instr)) := [[(0, .iload_n 1), (1, .iconst 0), (2, .bipush 7), (4, .invokestatic 116), (7, .ifCond .eq 12), (10, .aload_n 0), (11, .getfield 41), (14, .iload_n 1), (15, .baload)],
  [(16, .ifCond .ne 5), (19, .iconst (-1)), (20, .ireturn), (21, .aload_n 0), (22, .getfield 48), (25, .iload_n 1), (26, .baload), (27, .ifCond .eq 8), (30, .aload_n 0), (31, .iload_n 1)],
  [(32, .invokevirtual 239), (35, .aload_n 0), (36, .getfield 41), (39, .iload_n 1), (40, .iconst 0), (41, .bastore), (42, .aload_n 0), (43, .invokevirtual 233), (46, .istore_n 2), (47, .iconst 0)],
  [(48, .istore_n 3), (49, .iload_n 3), (50, .bipush 8), (52, .if_icmp .ge 32), (55, .aload_n 0), (56, .getfield 48), (59, .iload_n 3), (60, .baload), (61, .ifCond .eq 17)],
  [(64, .aload_n 0), (65, .getfield 45), (68, .iload_n 3), (69, .baload), (70, .ifCond .ne 8), (73, .aload_n 0), (74, .iload_n 3), (75, .invokevirtual 239), (78, .iinc 3 1)],
  [(81, .goto (-32)), (84, .iload_n 2), (85, .ireturn)]]
def mx_ct147 : List (List (Nat × Jvm.ClassFile.Instr)) := [[(0, .aload_n 0), (1, .getfield 48), (4, .iload_n 1), (5, .iconst 0), (6, .bastore), (7, .bipush 15), (9, .istore_n 2), (10, .iload_n 2), (11, .ifCond .le 23), (14, .aload_n 0), (15, .getfield 108)],
  [(18, .iload_n 2), (19, .aload_n 0), (20, .getfield 108), (23, .iload_n 2), (24, .iconst 1), (25, .isub), (26, .iaload), (27, .iastore), (28, .iinc 2 (-1)), (31, .goto (-21))],
  [(34, .aload_n 0), (35, .getfield 108), (38, .iconst 0), (39, .iload_n 1), (40, .iastore), (41, .aload_n 0), (42, .dup), (43, .getfield 236), (46, .iconst 1), (47, .iadd)],
  [(48, .putfield 236), (51, .return_)]]
def mx_ct148 : List (List (Nat × Jvm.ClassFile.Instr)) := [[(0, .iconst 0), (1, .istore_n 1), (2, .aload_n 0), (3, .invokevirtual 242), (6, .istore_n 2), (7, .iload_n 2), (8, .ifCond .lt 19), (11, .aload_n 0), (12, .iload_n 2), (13, .invokevirtual 239)],
  [(16, .iinc 1 1), (19, .aload_n 0), (20, .invokevirtual 242), (23, .istore_n 2), (24, .goto (-17)), (27, .iload_n 1), (28, .ireturn)]]
def mx_ct149 : List (List (Nat × Jvm.ClassFile.Instr)) := [[(0, .iconst (-1)), (1, .istore_n 1), (2, .iconst (-1)), (3, .istore_n 2), (4, .iconst 0), (5, .istore_n 3), (6, .iload_n 3), (7, .bipush 8), (9, .if_icmp .ge 112), (12, .aload_n 0), (13, .getfield 48)],
  [(16, .iload_n 3), (17, .baload), (18, .ifCond .ne 6), (21, .goto 94), (24, .iload_n 3), (25, .istore_n 1), (26, .iconst 0), (27, .istore 4), (29, .iconst 0), (30, .istore 5)],
  [(32, .iload 5), (34, .bipush 8), (36, .if_icmp .ge 72), (39, .iconst 0), (40, .istore 6), (42, .iload 6), (44, .aload_n 0), (45, .getfield 13)],
  [(48, .iload 5), (50, .iaload), (51, .if_icmp .ge 51), (54, .aload_n 0), (55, .getfield 48), (58, .iload 5), (60, .baload), (61, .ifCond .eq 41)],
  [(64, .iload 4), (66, .iload 5), (68, .iload_n 3), (69, .if_icmp .eq 23), (72, .aload_n 0), (73, .getfield 16), (76, .iconst 3), (77, .iload 5), (79, .imul)],
  [(80, .iload 6), (82, .iadd), (83, .iaload), (84, .iload_n 3), (85, .if_icmp .ne 7), (88, .iconst 1), (89, .goto 4), (92, .iconst 0), (93, .ior), (94, .istore 4)],
  [(96, .iinc 6 1), (99, .goto (-57)), (102, .iinc 5 1), (105, .goto (-73)), (108, .iload 4), (110, .ifCond .ne 5)],
  [(113, .iload_n 3), (114, .istore_n 2), (115, .iinc 3 1), (118, .goto (-112)), (121, .iload_n 2), (122, .ifCond .lt 7), (125, .iload_n 2), (126, .goto 4)],
  [(129, .iload_n 1), (130, .ireturn)]]
def mx_ct150 : List (List (Nat × Jvm.ClassFile.Instr)) := [[(0, .aload_n 0), (1, .iload_n 1), (2, .invokevirtual 178), (5, .ifCond .eq 16), (8, .aload_n 0), (9, .getfield 90), (12, .aload_n 0), (13, .iload_n 1), (14, .invokevirtual 249)],
  [(17, .baload), (18, .ifCond .ne 5), (21, .iconst (-1)), (22, .ireturn), (23, .aload_n 0), (24, .iload_n 1), (25, .lload_n 2), (26, .invokevirtual 188), (29, .lstore 4), (31, .lload 4)],
  [(33, .lconst 0), (34, .lcmp), (35, .ifCond .gt 6), (38, .bipush (-4)), (40, .ireturn), (41, .aload_n 0), (42, .iload_n 1), (43, .bipush 16), (45, .idiv), (46, .lload 4)],
  [(48, .invokevirtual 245), (51, .istore 6), (53, .iload 6), (55, .ifCond .ge 6), (58, .bipush (-5)), (60, .ireturn), (61, .aload_n 0), (62, .iload 6)],
  [(64, .invokevirtual 252), (67, .istore 7), (69, .iload 7), (71, .ifCond .ne 6), (74, .bipush (-6)), (76, .ireturn), (77, .aload_n 0), (78, .getfield 28)],
  [(81, .iload 6), (83, .iaload), (84, .iconst 3), (85, .iand), (86, .istore 8), (88, .iload 8), (90, .ifCond .le 17), (93, .iload 8), (95, .iconst 1)],
  [(96, .if_icmp .ne 8), (99, .bipush (-7)), (101, .goto 5), (104, .bipush (-8)), (106, .ireturn), (107, .aload_n 0), (108, .getfield 223), (111, .bipush 24)],
  [(113, .if_icmp .ne 6), (116, .bipush (-2)), (118, .ireturn), (119, .aload_n 0), (120, .getfield 96), (123, .aload_n 0), (124, .getfield 223), (127, .iload_n 1)],
  [(128, .iastore), (129, .aload_n 0), (130, .getfield 102), (133, .aload_n 0), (134, .getfield 223), (137, .aload_n 0), (138, .iload_n 1), (139, .invokevirtual 249), (142, .iastore), (143, .aload_n 0)],
  [(144, .getfield 99), (147, .aload_n 0), (148, .getfield 223), (151, .iload 6), (153, .iconst 4), (154, .idiv), (155, .iastore), (156, .aload_n 0), (157, .getfield 111)],
  [(160, .aload_n 0), (161, .getfield 223), (164, .iconst 0), (165, .bastore), (166, .aload_n 0), (167, .dup), (168, .getfield 223), (171, .dup_x1), (172, .iconst 1), (173, .iadd), (174, .putfield 223)],
  [(177, .ireturn)]]
def mx_ct151 : List (List (Nat × Jvm.ClassFile.Instr)) := [[(0, .iload_n 1), (1, .istore_n 2), (2, .aload_n 0), (3, .getfield 81), (6, .iload_n 2), (7, .iaload), (8, .ifCond .lt 13), (11, .aload_n 0), (12, .getfield 81), (15, .iload_n 2)],
  [(16, .iaload), (17, .istore_n 2), (18, .goto (-16)), (21, .iload_n 2), (22, .ireturn)]]
def mx_ct152 : List (List (Nat × Jvm.ClassFile.Instr)) := [[(0, .iconst 0), (1, .istore 4), (3, .iload 4), (5, .aload_n 0), (6, .getfield 13), (9, .iload_n 1), (10, .iaload), (11, .if_icmp .gt 93), (14, .iload 4)],
  [(16, .aload_n 0), (17, .getfield 13), (20, .iload_n 1), (21, .iaload), (22, .if_icmp .ge 17), (25, .aload_n 0), (26, .getfield 16), (29, .iconst 3), (30, .iload_n 1), (31, .imul)],
  [(32, .iload 4), (34, .iadd), (35, .iaload), (36, .goto 4), (39, .iload_n 1), (40, .istore 5), (42, .iconst 0), (43, .istore 6), (45, .iload 6), (47, .aload_n 0)],
  [(48, .getfield 25), (51, .iload 5), (53, .iaload), (54, .if_icmp .ge 44), (57, .aload_n 0), (58, .getfield 41), (61, .iload 5), (63, .baload)],
  [(64, .ifCond .eq 34), (67, .aload_n 0), (68, .getfield 34), (71, .iconst 4), (72, .iload 5), (74, .imul), (75, .iload 6), (77, .iadd), (78, .laload), (79, .lload_n 2)],
  [(80, .lcmp), (81, .ifCond .ne 11), (84, .iconst 4), (85, .iload 5), (87, .imul), (88, .iload 6), (90, .iadd), (91, .ireturn), (92, .iinc 6 1), (95, .goto (-50))],
  [(98, .iinc 4 1), (101, .goto (-98)), (104, .iconst (-1)), (105, .ireturn)]]
def mx_ct153 : List (List (Nat × Jvm.ClassFile.Instr)) := [[(0, .iconst 0), (1, .istore_n 2), (2, .iload_n 1), (3, .istore_n 3), (4, .iconst 1), (5, .istore 4), (7, .iconst 1), (8, .istore 5), (10, .iload 5), (12, .ifCond .eq 144), (15, .iload_n 3)],
  [(16, .ifCond .ge 7), (19, .iconst 0), (20, .goto 6), (23, .iload_n 3), (24, .iconst 4), (25, .idiv), (26, .istore 6), (28, .iconst 0), (29, .istore 5), (31, .iload_n 3)],
  [(32, .ifCond .ge 9), (35, .iconst 0), (36, .istore 4), (38, .goto 115), (41, .aload_n 0), (42, .getfield 28), (45, .iload_n 3), (46, .iaload), (47, .iconst 4)],
  [(48, .if_icmp .ge 105), (51, .aload_n 0), (52, .getfield 48), (55, .iload 6), (57, .baload), (58, .ifCond .ne 95), (61, .aload_n 0), (62, .getfield 51)],
  [(65, .iload 6), (67, .baload), (68, .ifCond .ne 85), (71, .aload_n 0), (72, .getfield 51), (75, .iload 6), (77, .iconst 1), (78, .bastore), (79, .aload_n 0)],
  [(80, .getfield 63), (83, .iload 6), (85, .dup2), (86, .iaload), (87, .iconst 1), (88, .iadd), (89, .iastore), (90, .aload_n 0), (91, .getfield 69), (94, .iload_n 2), (95, .iinc 2 1)],
  [(98, .iload 6), (100, .iastore), (101, .aload_n 0), (102, .getfield 31), (105, .iload 6), (107, .iaload), (108, .ifCond .le 19), (111, .aload_n 0)],
  [(112, .getfield 38), (115, .iload 6), (117, .laload), (118, .lconst 0), (119, .lcmp), (120, .ifCond .eq 7), (123, .iconst 1), (124, .goto 4), (127, .iconst 0)],
  [(128, .istore 5), (130, .iload 5), (132, .ifCond .eq 19), (135, .aload_n 0), (136, .iload 6), (138, .aload_n 0), (139, .getfield 38), (142, .iload 6)],
  [(144, .laload), (145, .invokevirtual 245), (148, .goto 4), (151, .iconst 0), (152, .istore_n 3), (153, .goto (-143)), (156, .iload_n 2), (157, .iconst 1), (158, .isub), (159, .istore 6)],
  [(161, .iload 6), (163, .ifCond .lt 58), (166, .aload_n 0), (167, .getfield 69), (170, .iload 6), (172, .iaload), (173, .istore 7), (175, .aload_n 0)],
  [(176, .getfield 51), (179, .iload 7), (181, .iconst 0), (182, .bastore), (183, .iload 4), (185, .ifCond .eq 18), (188, .aload_n 0), (189, .getfield 31)],
  [(192, .iload 7), (194, .iaload), (195, .iconst 2), (196, .if_icmp .eq 7), (199, .iconst 1), (200, .goto 4), (203, .iconst 0), (204, .istore 4), (206, .aload_n 0), (207, .getfield 48)],
  [(210, .iload 7), (212, .iload 4), (214, .bastore), (215, .iinc 6 (-1)), (218, .goto (-57)), (221, .iload 4), (223, .ireturn)]]
def mx_ct154 : List (List (Nat × Jvm.ClassFile.Instr)) := [[(0, .iload_n 1), (1, .iconst 0), (2, .bipush 7), (4, .invokestatic 116), (7, .ifCond .eq 13), (10, .iload_n 2), (11, .iconst 0), (12, .bipush 7), (14, .invokestatic 116)],
  [(17, .ifCond .ne 5), (20, .iconst (-1)), (21, .ireturn), (22, .aload_n 0), (23, .getfield 41), (26, .iload_n 1), (27, .baload), (28, .ifCond .ne 5), (31, .iconst 0)],
  [(32, .ireturn), (33, .iload_n 2), (34, .tableswitch 120 0 6 #[42, 70, 77, 92, 99, 106, 113])],
  [],
  [(76, .aload_n 0), (77, .getfield 48)],
  [(80, .iload_n 1), (81, .baload), (82, .ifCond .eq 7), (85, .iconst 3), (86, .goto 17), (89, .aload_n 0), (90, .getfield 45), (93, .iload_n 1), (94, .baload), (95, .ifCond .eq 7)],
  [(98, .iconst 2), (99, .goto 4), (102, .iconst 1), (103, .ireturn), (104, .aload_n 0), (105, .getfield 54), (108, .iload_n 1), (109, .iaload), (110, .ireturn), (111, .aload_n 0)],
  [(112, .getfield 57), (115, .iload_n 1), (116, .iaload), (117, .ifCond .ge 7), (120, .iconst 0), (121, .goto 4), (124, .iconst 1), (125, .ireturn), (126, .aload_n 0), (127, .getfield 57)],
  [(130, .iload_n 1), (131, .iaload), (132, .ireturn), (133, .aload_n 0), (134, .getfield 60), (137, .iload_n 1), (138, .iaload), (139, .ireturn), (140, .aload_n 0), (141, .getfield 63)],
  [(144, .iload_n 1), (145, .iaload), (146, .ireturn), (147, .aload_n 0), (148, .getfield 66), (151, .iload_n 1), (152, .iaload), (153, .ireturn), (154, .aload_n 0), (155, .iload_n 1), (156, .invokevirtual 172), (159, .ireturn)]]
def mx_ct155 : List (List (Nat × Jvm.ClassFile.Instr)) := [[(0, .aload_n 0), (1, .lload_n 1), (2, .invokevirtual 203), (5, .ifCond .ge 5), (8, .iconst (-1)), (9, .ireturn), (10, .iconst 0), (11, .istore_n 3), (12, .iconst 0), (13, .istore 4), (15, .iload 4)],
  [(17, .sipush 128), (20, .if_icmp .ge 36), (23, .aload_n 0), (24, .getfield 90), (27, .iload 4), (29, .baload), (30, .ifCond .eq 20)],
  [(33, .aload_n 0), (34, .iload 4), (36, .ldc2_w 181), (39, .invokevirtual 188), (42, .lload_n 1), (43, .lcmp), (44, .ifCond .ne 6), (47, .iinc 3 1)],
  [(50, .iinc 4 1), (53, .goto (-38)), (56, .iload_n 3), (57, .ireturn)]]
def mx_ct156 : List (List (Nat × Jvm.ClassFile.Instr)) := [[(0, .iconst 0), (1, .istore 4), (3, .iconst 0), (4, .istore 5), (6, .iload 5), (8, .sipush 128), (11, .if_icmp .ge 45), (14, .aload_n 0), (15, .getfield 90)],
  [(18, .iload 5), (20, .baload), (21, .ifCond .eq 29), (24, .aload_n 0), (25, .iload 5), (27, .ldc2_w 181), (30, .invokevirtual 188)],
  [(33, .lload_n 1), (34, .lcmp), (35, .ifCond .ne 15), (38, .iload 4), (40, .iinc 4 1), (43, .iload_n 3), (44, .if_icmp .ne 6), (47, .iload 5)],
  [(49, .ireturn), (50, .iinc 5 1), (53, .goto (-47)), (56, .iconst (-1)), (57, .ireturn)]]
def mx_ct157 : List (List (Nat × Jvm.ClassFile.Instr)) := [[(0, .aload_n 0), (1, .iload_n 1), (2, .invokevirtual 178), (5, .ifCond .ne 5), (8, .iconst (-1)), (9, .ireturn), (10, .iload_n 2), (11, .tableswitch 79 0 4 #[33, 39, 46, 53, 60])],
  [],
  [(44, .aload_n 0), (45, .iload_n 1), (46, .invokevirtual 255)],
  [(49, .ireturn), (50, .aload_n 0), (51, .getfield 87), (54, .iload_n 1), (55, .iaload), (56, .ireturn), (57, .aload_n 0), (58, .getfield 81), (61, .iload_n 1), (62, .iaload), (63, .ireturn)],
  [(64, .aload_n 0), (65, .getfield 84), (68, .iload_n 1), (69, .iaload), (70, .ireturn), (71, .aload_n 0), (72, .getfield 90), (75, .aload_n 0), (76, .iload_n 1), (77, .invokevirtual 249)],
  [(80, .baload), (81, .ifCond .eq 7), (84, .iconst 1), (85, .goto 4), (88, .iconst 0), (89, .ireturn), (90, .iconst (-1)), (91, .ireturn)]]
def mx_ct158 : List (List (Nat × Jvm.ClassFile.Instr)) := [[(0, .iconst 0), (1, .istore_n 2), (2, .iload_n 1), (3, .iconst 1), (4, .iadd), (5, .istore_n 3), (6, .aload_n 0), (7, .iload_n 3), (8, .invokevirtual 178), (11, .ifCond .eq 33), (14, .iload_n 3), (15, .bipush 16)],
  [(17, .idiv), (18, .iload_n 1), (19, .bipush 16), (21, .idiv), (22, .if_icmp .ne 22), (25, .aload_n 0), (26, .getfield 81), (29, .iload_n 3), (30, .iaload), (31, .iload_n 1)],
  [(32, .if_icmp .ne 6), (35, .iinc 2 1), (38, .iinc 3 1), (41, .goto (-35)), (44, .iload_n 2), (45, .ireturn)]]
def mx_ct159 : List (List (Nat × Jvm.ClassFile.Instr)) := [[(0, .aload_n 0), (1, .iload_n 1), (2, .invokevirtual 178), (5, .ifCond .eq 12), (8, .aload_n 0), (9, .getfield 72), (12, .iload_n 1), (13, .laload), (14, .goto 4)],
  [(17, .lconst 0), (18, .lreturn)]]
def mx_ct160 : List (List (Nat × Jvm.ClassFile.Instr)) := [[(0, .iconst 0), (1, .istore_n 3), (2, .iload_n 1), (3, .iconst 1), (4, .iadd), (5, .istore 4), (7, .aload_n 0), (8, .iload_n 1), (9, .invokevirtual 178), (12, .ifCond .eq 52), (15, .aload_n 0)],
  [(16, .iload 4), (18, .invokevirtual 178), (21, .ifCond .eq 43), (24, .iload 4), (26, .bipush 16), (28, .idiv), (29, .iload_n 1), (30, .bipush 16)],
  [(32, .idiv), (33, .if_icmp .ne 31), (36, .aload_n 0), (37, .getfield 81), (40, .iload 4), (42, .iaload), (43, .iload_n 1), (44, .if_icmp .ne 14), (47, .iload_n 3)],
  [(48, .iinc 3 1), (51, .iload_n 2), (52, .if_icmp .ne 6), (55, .iload 4), (57, .ireturn), (58, .iinc 4 1), (61, .goto (-54))],
  [(64, .iconst (-1)), (65, .ireturn)]]
def mx_ct161 : List (List (Nat × Jvm.ClassFile.Instr)) := [[(0, .aload_n 0), (1, .iload_n 1), (2, .invokevirtual 178), (5, .ifCond .eq 12), (8, .aload_n 0), (9, .iload_n 1), (10, .lload_n 2), (11, .invokevirtual 188), (14, .goto 6)],
  [(17, .ldc2_w 176), (20, .lreturn)]]
def mx_ct162 : List (List (Nat × Jvm.ClassFile.Instr)) := [[(0, .iload_n 1), (1, .iconst 0), (2, .aload_n 0), (3, .getfield 223), (6, .iconst 1), (7, .isub), (8, .invokestatic 116), (11, .ifCond .ne 5), (14, .iconst (-1)), (15, .ireturn)],
  [(16, .iload_n 2), (17, .ifCond .ne 12), (20, .aload_n 0), (21, .getfield 96), (24, .iload_n 1), (25, .iaload), (26, .goto 40), (29, .iload_n 2), (30, .iconst 1), (31, .if_icmp .ne 12)],
  [(34, .aload_n 0), (35, .getfield 99), (38, .iload_n 1), (39, .iaload), (40, .goto 26), (43, .iload_n 2), (44, .iconst 2), (45, .if_icmp .ne 20)],
  [(48, .aload_n 0), (49, .getfield 111), (52, .iload_n 1), (53, .baload), (54, .ifCond .eq 7), (57, .iconst 0), (58, .goto 8), (61, .iconst 1), (62, .goto 4)],
  [(65, .iconst (-1)), (66, .ireturn)]]
def mx_ct163 : List (List (Nat × Jvm.ClassFile.Instr)) := [[(0, .iload_n 1), (1, .iconst 0), (2, .bipush 31), (4, .invokestatic 116), (7, .ifCond .eq 20), (10, .iload_n 1), (11, .aload_n 0), (12, .getfield 210), (15, .if_icmp .ge 12)],
  [(18, .aload_n 0), (19, .getfield 105), (22, .iload_n 1), (23, .iaload), (24, .goto 4), (27, .iconst (-1)), (28, .ireturn)]]
def mx_ct164 : List (List (Nat × Jvm.ClassFile.Instr)) := [[(0, .iload_n 1), (1, .iconst 0), (2, .bipush 15), (4, .invokestatic 116), (7, .ifCond .eq 20), (10, .iload_n 1), (11, .aload_n 0), (12, .getfield 236), (15, .if_icmp .ge 12)],
  [(18, .aload_n 0), (19, .getfield 108), (22, .iload_n 1), (23, .iaload), (24, .goto 4), (27, .iconst (-1)), (28, .ireturn)]]
def mx_ct165 : List (List (Nat × Jvm.ClassFile.Instr)) := [[(0, .iconst 0), (1, .istore_n 2), (2, .iload_n 1), (3, .tableswitch 281 0 9 #[53, 81, 118, 155, 184, 231, 236, 266, 271, 276])],
  [],
  [],
  [(56, .iconst 0), (57, .istore_n 3), (58, .iload_n 3), (59, .bipush 8), (61, .if_icmp .ge 21)],
  [(64, .aload_n 0), (65, .getfield 41), (68, .iload_n 3), (69, .baload), (70, .ifCond .eq 6), (73, .iinc 2 1), (76, .iinc 3 1), (79, .goto (-21))],
  [(82, .iload_n 2), (83, .ireturn), (84, .iconst 0), (85, .istore_n 3), (86, .iload_n 3), (87, .bipush 8), (89, .if_icmp .ge 30), (92, .aload_n 0), (93, .getfield 41)],
  [(96, .iload_n 3), (97, .baload), (98, .ifCond .eq 15), (101, .aload_n 0), (102, .getfield 45), (105, .iload_n 3), (106, .baload), (107, .ifCond .eq 6), (110, .iinc 2 1)],
  [(113, .iinc 3 1), (116, .goto (-30)), (119, .iload_n 2), (120, .ireturn), (121, .iconst 0), (122, .istore_n 3), (123, .iload_n 3), (124, .bipush 8), (126, .if_icmp .ge 30)],
  [(129, .aload_n 0), (130, .getfield 41), (133, .iload_n 3), (134, .baload), (135, .ifCond .eq 15), (138, .aload_n 0), (139, .getfield 48), (142, .iload_n 3), (143, .baload)],
  [(144, .ifCond .eq 6), (147, .iinc 2 1), (150, .iinc 3 1), (153, .goto (-30)), (156, .iload_n 2), (157, .ireturn), (158, .iconst 0), (159, .istore_n 3)],
  [(160, .iload_n 3), (161, .sipush 128), (164, .if_icmp .ge 21), (167, .aload_n 0), (168, .getfield 90), (171, .iload_n 3), (172, .baload), (173, .ifCond .eq 6)],
  [(176, .iinc 2 1), (179, .iinc 3 1), (182, .goto (-22)), (185, .iload_n 2), (186, .ireturn), (187, .iconst 0), (188, .istore_n 3), (189, .iload_n 3), (190, .sipush 128)],
  [(193, .if_icmp .ge 39), (196, .aload_n 0), (197, .iload_n 3), (198, .ldc2_w 181), (201, .invokevirtual 183), (204, .ifCond .eq 22), (207, .aload_n 0)],
  [(208, .aload_n 0), (209, .iload_n 3), (210, .ldc2_w 186), (213, .invokevirtual 188), (216, .invokevirtual 203), (219, .iload_n 3), (220, .if_icmp .ne 6), (223, .iinc 2 1)],
  [(226, .iinc 3 1), (229, .goto (-40)), (232, .iload_n 2), (233, .ireturn), (234, .aload_n 0), (235, .getfield 223), (238, .ireturn), (239, .iconst 0)],
  [(240, .istore_n 3), (241, .iload_n 3), (242, .aload_n 0), (243, .getfield 223), (246, .if_icmp .ge 21), (249, .aload_n 0), (250, .getfield 111), (253, .iload_n 3), (254, .baload), (255, .ifCond .ne 6)],
  [(258, .iinc 2 1), (261, .iinc 3 1), (264, .goto (-23)), (267, .iload_n 2), (268, .ireturn), (269, .aload_n 0), (270, .getfield 210)],
  [(273, .ireturn), (274, .aload_n 0), (275, .getfield 236), (278, .ireturn), (279, .aload_n 0), (280, .getfield 128), (283, .ireturn), (284, .iconst (-1)), (285, .ireturn)]]
def mx_ct166 : List (List (Nat × Jvm.ClassFile.Instr)) := [[(0, .iload_n 0), (1, .iload_n 1), (2, .irem), (3, .istore_n 2), (4, .iload_n 0), (5, .iload_n 1), (6, .ixor), (7, .ifCond .ge 11), (10, .iload_n 2), (11, .ifCond .eq 7), (14, .iload_n 2), (15, .iload_n 1)],
  [(16, .iadd), (17, .ireturn), (18, .iload_n 2), (19, .ireturn)]]
def mx_ct167 : List (List (Nat × Jvm.ClassFile.Instr)) := [[(0, .iload_n 0), (1, .iload_n 1), (2, .if_icmp .lt 7), (5, .iload_n 0), (6, .goto 4), (9, .iload_n 1), (10, .ireturn)]]
def mx_cl0 : List (Nat × Jvm.ClassFile.Instr) := [(0, .new 7), (3, .dup), (4, .invokespecial 9), (7, .astore_n 1), (8, .new 10), (11, .dup), (12, .invokespecial 12), (15, .astore_n 2)]
def mx_cl1 : List (Nat × Jvm.ClassFile.Instr) := [(16, .iconst 0), (17, .istore_n 3), (18, .iload_n 3), (19, .aload_n 0), (20, .arraylength), (21, .iconst 4), (22, .isub), (23, .if_icmp .gt 883), (26, .aload_n 0), (27, .iload_n 3), (28, .iaload), (29, .bipush 31), (31, .iand)]
def mx_cl2 : List (Nat × Jvm.ClassFile.Instr) := [(32, .tableswitch 868 0 19 #[96, 149, 192, 255, 318, 331, 364, 387, 420, 473, 536, 569, 593, 626, 690, 753, 786, 809, 822, 845])]
def mx_cl3 : List (Nat × Jvm.ClassFile.Instr) := []
def mx_cl4 : List (Nat × Jvm.ClassFile.Instr) := []
def mx_cl5 : List (Nat × Jvm.ClassFile.Instr) := []
def mx_cl6 : List (Nat × Jvm.ClassFile.Instr) := []
def mx_cl7 : List (Nat × Jvm.ClassFile.Instr) := []
def mx_cl8 : List (Nat × Jvm.ClassFile.Instr) := [(128, .aload_n 1), (129, .aload_n 0), (130, .iload_n 3), (131, .iconst 1), (132, .iadd), (133, .iaload), (134, .i2l), (135, .bipush 32), (137, .lshl), (138, .aload_n 0), (139, .iload_n 3), (140, .iconst 2), (141, .iadd), (142, .iaload), (143, .i2l)]
def mx_cl9 : List (Nat × Jvm.ClassFile.Instr) := [(144, .ldc2_w 13), (147, .land), (148, .lor), (149, .invokevirtual 15), (152, .aload_n 2), (153, .aload_n 0), (154, .iload_n 3), (155, .iconst 1), (156, .iadd), (157, .iaload), (158, .i2l), (159, .bipush 32)]
def mx_cl10 : List (Nat × Jvm.ClassFile.Instr) := [(161, .lshl), (162, .aload_n 0), (163, .iload_n 3), (164, .iconst 2), (165, .iadd), (166, .iaload), (167, .i2l), (168, .ldc2_w 13), (171, .land), (172, .lor), (173, .invokevirtual 19)]
def mx_cl11 : List (Nat × Jvm.ClassFile.Instr) := [(176, .if_icmp .eq 724), (179, .iconst 0), (180, .ireturn), (181, .aload_n 1), (182, .aload_n 0), (183, .iload_n 3), (184, .iconst 1), (185, .iadd), (186, .iaload), (187, .aload_n 0), (188, .iload_n 3), (189, .iconst 2), (190, .iadd), (191, .iaload)]
def mx_cl12 : List (Nat × Jvm.ClassFile.Instr) := [(192, .aload_n 0), (193, .iload_n 3), (194, .iconst 3), (195, .iadd), (196, .iaload), (197, .invokevirtual 20), (200, .aload_n 2), (201, .aload_n 0), (202, .iload_n 3), (203, .iconst 1), (204, .iadd), (205, .iaload), (206, .aload_n 0), (207, .iload_n 3)]
def mx_cl13 : List (Nat × Jvm.ClassFile.Instr) := [(208, .iconst 2), (209, .iadd), (210, .iaload), (211, .aload_n 0), (212, .iload_n 3), (213, .iconst 3), (214, .iadd), (215, .iaload), (216, .invokevirtual 24), (219, .if_icmp .eq 681), (222, .iconst 0), (223, .ireturn)]
def mx_cl14 : List (Nat × Jvm.ClassFile.Instr) := [(224, .aload_n 1), (225, .aload_n 0), (226, .iload_n 3), (227, .iconst 1), (228, .iadd), (229, .iaload), (230, .i2l), (231, .bipush 32), (233, .lshl), (234, .aload_n 0), (235, .iload_n 3), (236, .iconst 2), (237, .iadd), (238, .iaload), (239, .i2l)]
def mx_cl15 : List (Nat × Jvm.ClassFile.Instr) := [(240, .ldc2_w 13), (243, .land), (244, .lor), (245, .aload_n 0), (246, .iload_n 3), (247, .iconst 3), (248, .iadd), (249, .iaload), (250, .invokevirtual 25), (253, .aload_n 2), (254, .aload_n 0), (255, .iload_n 3)]
def mx_cl16 : List (Nat × Jvm.ClassFile.Instr) := [(256, .iconst 1), (257, .iadd), (258, .iaload), (259, .i2l), (260, .bipush 32), (262, .lshl), (263, .aload_n 0), (264, .iload_n 3), (265, .iconst 2), (266, .iadd), (267, .iaload), (268, .i2l), (269, .ldc2_w 13)]
def mx_cl17 : List (Nat × Jvm.ClassFile.Instr) := [(272, .land), (273, .lor), (274, .aload_n 0), (275, .iload_n 3), (276, .iconst 3), (277, .iadd), (278, .iaload), (279, .invokevirtual 29), (282, .if_icmp .eq 618), (285, .iconst 0), (286, .ireturn), (287, .aload_n 1)]
def mx_cl18 : List (Nat × Jvm.ClassFile.Instr) := [(288, .aload_n 0), (289, .iload_n 3), (290, .iconst 1), (291, .iadd), (292, .iaload), (293, .aload_n 0), (294, .iload_n 3), (295, .iconst 2), (296, .iadd), (297, .iaload), (298, .i2l), (299, .bipush 32), (301, .lshl), (302, .aload_n 0), (303, .iload_n 3)]
def mx_cl19 : List (Nat × Jvm.ClassFile.Instr) := [(304, .iconst 3), (305, .iadd), (306, .iaload), (307, .i2l), (308, .ldc2_w 13), (311, .land), (312, .lor), (313, .invokevirtual 30), (316, .aload_n 2), (317, .aload_n 0), (318, .iload_n 3), (319, .iconst 1)]
def mx_cl20 : List (Nat × Jvm.ClassFile.Instr) := [(320, .iadd), (321, .iaload), (322, .aload_n 0), (323, .iload_n 3), (324, .iconst 2), (325, .iadd), (326, .iaload), (327, .i2l), (328, .bipush 32), (330, .lshl), (331, .aload_n 0), (332, .iload_n 3), (333, .iconst 3), (334, .iadd), (335, .iaload)]
def mx_cl21 : List (Nat × Jvm.ClassFile.Instr) := [(336, .i2l), (337, .ldc2_w 13), (340, .land), (341, .lor), (342, .invokevirtual 34), (345, .if_icmp .eq 555), (348, .iconst 0), (349, .ireturn), (350, .aload_n 1), (351, .invokevirtual 35)]
def mx_cl22 : List (Nat × Jvm.ClassFile.Instr) := [(354, .aload_n 2), (355, .invokevirtual 39), (358, .if_icmp .eq 542), (361, .iconst 0), (362, .ireturn), (363, .aload_n 1), (364, .aload_n 0), (365, .iload_n 3), (366, .iconst 1), (367, .iadd)]
def mx_cl23 : List (Nat × Jvm.ClassFile.Instr) := [(368, .iaload), (369, .aload_n 0), (370, .iload_n 3), (371, .iconst 2), (372, .iadd), (373, .iaload), (374, .invokevirtual 40), (377, .aload_n 2), (378, .aload_n 0), (379, .iload_n 3), (380, .iconst 1), (381, .iadd), (382, .iaload), (383, .aload_n 0)]
def mx_cl24 : List (Nat × Jvm.ClassFile.Instr) := [(384, .iload_n 3), (385, .iconst 2), (386, .iadd), (387, .iaload), (388, .invokevirtual 44), (391, .if_icmp .eq 509), (394, .iconst 0), (395, .ireturn), (396, .aload_n 1), (397, .aload_n 0), (398, .iload_n 3), (399, .iconst 1)]
def mx_cl25 : List (Nat × Jvm.ClassFile.Instr) := [(400, .iadd), (401, .iaload), (402, .invokevirtual 45), (405, .aload_n 2), (406, .aload_n 0), (407, .iload_n 3), (408, .iconst 1), (409, .iadd), (410, .iaload), (411, .invokevirtual 49), (414, .if_icmp .eq 486)]
def mx_cl26 : List (Nat × Jvm.ClassFile.Instr) := [(417, .iconst 0), (418, .ireturn), (419, .aload_n 1), (420, .aload_n 0), (421, .iload_n 3), (422, .iconst 1), (423, .iadd), (424, .iaload), (425, .aload_n 0), (426, .iload_n 3), (427, .iconst 2), (428, .iadd), (429, .iaload), (430, .invokevirtual 50)]
def mx_cl27 : List (Nat × Jvm.ClassFile.Instr) := [(433, .aload_n 2), (434, .aload_n 0), (435, .iload_n 3), (436, .iconst 1), (437, .iadd), (438, .iaload), (439, .aload_n 0), (440, .iload_n 3), (441, .iconst 2), (442, .iadd), (443, .iaload), (444, .invokevirtual 53), (447, .if_icmp .eq 453)]
def mx_cl28 : List (Nat × Jvm.ClassFile.Instr) := [(450, .iconst 0), (451, .ireturn), (452, .aload_n 1), (453, .aload_n 0), (454, .iload_n 3), (455, .iconst 1), (456, .iadd), (457, .iaload), (458, .i2l), (459, .bipush 32), (461, .lshl), (462, .aload_n 0), (463, .iload_n 3)]
def mx_cl29 : List (Nat × Jvm.ClassFile.Instr) := [(464, .iconst 2), (465, .iadd), (466, .iaload), (467, .i2l), (468, .ldc2_w 13), (471, .land), (472, .lor), (473, .invokevirtual 54), (476, .aload_n 2), (477, .aload_n 0), (478, .iload_n 3), (479, .iconst 1)]
def mx_cl30 : List (Nat × Jvm.ClassFile.Instr) := [(480, .iadd), (481, .iaload), (482, .i2l), (483, .bipush 32), (485, .lshl), (486, .aload_n 0), (487, .iload_n 3), (488, .iconst 2), (489, .iadd), (490, .iaload), (491, .i2l), (492, .ldc2_w 13), (495, .land)]
def mx_cl31 : List (Nat × Jvm.ClassFile.Instr) := [(496, .lor), (497, .invokevirtual 57), (500, .if_icmp .eq 400), (503, .iconst 0), (504, .ireturn), (505, .aload_n 1), (506, .aload_n 0), (507, .iload_n 3), (508, .iconst 1), (509, .iadd), (510, .iaload), (511, .i2l)]
def mx_cl32 : List (Nat × Jvm.ClassFile.Instr) := [(512, .bipush 32), (514, .lshl), (515, .aload_n 0), (516, .iload_n 3), (517, .iconst 2), (518, .iadd), (519, .iaload), (520, .i2l), (521, .ldc2_w 13), (524, .land), (525, .lor), (526, .aload_n 0), (527, .iload_n 3)]
def mx_cl33 : List (Nat × Jvm.ClassFile.Instr) := [(528, .iconst 3), (529, .iadd), (530, .iaload), (531, .invokevirtual 58), (534, .aload_n 2), (535, .aload_n 0), (536, .iload_n 3), (537, .iconst 1), (538, .iadd), (539, .iaload), (540, .i2l), (541, .bipush 32), (543, .lshl)]
def mx_cl34 : List (Nat × Jvm.ClassFile.Instr) := [(544, .aload_n 0), (545, .iload_n 3), (546, .iconst 2), (547, .iadd), (548, .iaload), (549, .i2l), (550, .ldc2_w 13), (553, .land), (554, .lor), (555, .aload_n 0), (556, .iload_n 3), (557, .iconst 3), (558, .iadd), (559, .iaload)]
def mx_cl35 : List (Nat × Jvm.ClassFile.Instr) := [(560, .invokevirtual 61), (563, .if_icmp .eq 337), (566, .iconst 0), (567, .ireturn), (568, .aload_n 1), (569, .aload_n 0), (570, .iload_n 3), (571, .iconst 1), (572, .iadd), (573, .iaload), (574, .aload_n 0), (575, .iload_n 3)]
def mx_cl36 : List (Nat × Jvm.ClassFile.Instr) := [(576, .iconst 2), (577, .iadd), (578, .iaload), (579, .invokevirtual 62), (582, .aload_n 2), (583, .aload_n 0), (584, .iload_n 3), (585, .iconst 1), (586, .iadd), (587, .iaload), (588, .aload_n 0), (589, .iload_n 3), (590, .iconst 2), (591, .iadd)]
def mx_cl37 : List (Nat × Jvm.ClassFile.Instr) := [(592, .iaload), (593, .invokevirtual 65), (596, .if_icmp .eq 304), (599, .iconst 0), (600, .ireturn), (601, .aload_n 1), (602, .aload_n 0), (603, .iload_n 3), (604, .iconst 1), (605, .iadd), (606, .iaload), (607, .invokevirtual 66)]
def mx_cl38 : List (Nat × Jvm.ClassFile.Instr) := [(610, .aload_n 2), (611, .aload_n 0), (612, .iload_n 3), (613, .iconst 1), (614, .iadd), (615, .iaload), (616, .invokevirtual 70), (619, .lcmp), (620, .ifCond .eq 280), (623, .iconst 0)]
def mx_cl39 : List (Nat × Jvm.ClassFile.Instr) := [(624, .ireturn), (625, .aload_n 1), (626, .aload_n 0), (627, .iload_n 3), (628, .iconst 1), (629, .iadd), (630, .iaload), (631, .aload_n 0), (632, .iload_n 3), (633, .iconst 2), (634, .iadd), (635, .iaload), (636, .invokevirtual 71), (639, .aload_n 2)]
def mx_cl40 : List (Nat × Jvm.ClassFile.Instr) := [(640, .aload_n 0), (641, .iload_n 3), (642, .iconst 1), (643, .iadd), (644, .iaload), (645, .aload_n 0), (646, .iload_n 3), (647, .iconst 2), (648, .iadd), (649, .iaload), (650, .invokevirtual 74), (653, .if_icmp .eq 247)]
def mx_cl41 : List (Nat × Jvm.ClassFile.Instr) := [(656, .iconst 0), (657, .ireturn), (658, .aload_n 1), (659, .aload_n 0), (660, .iload_n 3), (661, .iconst 1), (662, .iadd), (663, .iaload), (664, .aload_n 0), (665, .iload_n 3), (666, .iconst 2), (667, .iadd), (668, .iaload), (669, .i2l), (670, .bipush 32)]
def mx_cl42 : List (Nat × Jvm.ClassFile.Instr) := [(672, .lshl), (673, .aload_n 0), (674, .iload_n 3), (675, .iconst 3), (676, .iadd), (677, .iaload), (678, .i2l), (679, .ldc2_w 13), (682, .land), (683, .lor), (684, .invokevirtual 75), (687, .aload_n 2)]
def mx_cl43 : List (Nat × Jvm.ClassFile.Instr) := [(688, .aload_n 0), (689, .iload_n 3), (690, .iconst 1), (691, .iadd), (692, .iaload), (693, .aload_n 0), (694, .iload_n 3), (695, .iconst 2), (696, .iadd), (697, .iaload), (698, .i2l), (699, .bipush 32), (701, .lshl), (702, .aload_n 0), (703, .iload_n 3)]
def mx_cl44 : List (Nat × Jvm.ClassFile.Instr) := [(704, .iconst 3), (705, .iadd), (706, .iaload), (707, .i2l), (708, .ldc2_w 13), (711, .land), (712, .lor), (713, .invokevirtual 79), (716, .lcmp), (717, .ifCond .eq 183)]
def mx_cl45 : List (Nat × Jvm.ClassFile.Instr) := [(720, .iconst 0), (721, .ireturn), (722, .aload_n 1), (723, .aload_n 0), (724, .iload_n 3), (725, .iconst 1), (726, .iadd), (727, .iaload), (728, .aload_n 0), (729, .iload_n 3), (730, .iconst 2), (731, .iadd), (732, .iaload), (733, .i2l), (734, .bipush 32)]
def mx_cl46 : List (Nat × Jvm.ClassFile.Instr) := [(736, .lshl), (737, .aload_n 0), (738, .iload_n 3), (739, .iconst 3), (740, .iadd), (741, .iaload), (742, .i2l), (743, .ldc2_w 13), (746, .land), (747, .lor), (748, .invokevirtual 80), (751, .aload_n 2)]
def mx_cl47 : List (Nat × Jvm.ClassFile.Instr) := [(752, .aload_n 0), (753, .iload_n 3), (754, .iconst 1), (755, .iadd), (756, .iaload), (757, .aload_n 0), (758, .iload_n 3), (759, .iconst 2), (760, .iadd), (761, .iaload), (762, .i2l), (763, .bipush 32), (765, .lshl), (766, .aload_n 0), (767, .iload_n 3)]
def mx_cl48 : List (Nat × Jvm.ClassFile.Instr) := [(768, .iconst 3), (769, .iadd), (770, .iaload), (771, .i2l), (772, .ldc2_w 13), (775, .land), (776, .lor), (777, .invokevirtual 84), (780, .if_icmp .eq 120), (783, .iconst 0)]
def mx_cl49 : List (Nat × Jvm.ClassFile.Instr) := [(784, .ireturn), (785, .aload_n 1), (786, .aload_n 0), (787, .iload_n 3), (788, .iconst 1), (789, .iadd), (790, .iaload), (791, .aload_n 0), (792, .iload_n 3), (793, .iconst 2), (794, .iadd), (795, .iaload), (796, .invokevirtual 85), (799, .aload_n 2)]
def mx_cl50 : List (Nat × Jvm.ClassFile.Instr) := [(800, .aload_n 0), (801, .iload_n 3), (802, .iconst 1), (803, .iadd), (804, .iaload), (805, .aload_n 0), (806, .iload_n 3), (807, .iconst 2), (808, .iadd), (809, .iaload), (810, .invokevirtual 88), (813, .if_icmp .eq 87)]
def mx_cl51 : List (Nat × Jvm.ClassFile.Instr) := [(816, .iconst 0), (817, .ireturn), (818, .aload_n 1), (819, .aload_n 0), (820, .iload_n 3), (821, .iconst 1), (822, .iadd), (823, .iaload), (824, .invokevirtual 89), (827, .aload_n 2), (828, .aload_n 0), (829, .iload_n 3), (830, .iconst 1), (831, .iadd)]
def mx_cl52 : List (Nat × Jvm.ClassFile.Instr) := [(832, .iaload), (833, .invokevirtual 92), (836, .if_icmp .eq 64), (839, .iconst 0), (840, .ireturn), (841, .aload_n 1), (842, .invokevirtual 93), (845, .aload_n 2), (846, .invokevirtual 96)]
def mx_cl53 : List (Nat × Jvm.ClassFile.Instr) := [(849, .if_icmp .eq 51), (852, .iconst 0), (853, .ireturn), (854, .aload_n 1), (855, .aload_n 0), (856, .iload_n 3), (857, .iconst 1), (858, .iadd), (859, .iaload), (860, .invokevirtual 97), (863, .aload_n 2)]
def mx_cl54 : List (Nat × Jvm.ClassFile.Instr) := [(864, .aload_n 0), (865, .iload_n 3), (866, .iconst 1), (867, .iadd), (868, .iaload), (869, .invokevirtual 100), (872, .if_icmp .eq 28), (875, .iconst 0), (876, .ireturn), (877, .aload_n 1), (878, .aload_n 0), (879, .iload_n 3)]
def mx_cl55 : List (Nat × Jvm.ClassFile.Instr) := [(880, .iconst 1), (881, .iadd), (882, .iaload), (883, .invokevirtual 101), (886, .aload_n 2), (887, .aload_n 0), (888, .iload_n 3), (889, .iconst 1), (890, .iadd), (891, .iaload), (892, .invokevirtual 104), (895, .if_icmp .eq 5)]
def mx_cl56 : List (Nat × Jvm.ClassFile.Instr) := [(898, .iconst 0), (899, .ireturn), (900, .iinc 3 4), (903, .goto (-885)), (906, .iconst 1), (907, .ireturn)]
def mx_ct168 : List (List (Nat × Jvm.ClassFile.Instr)) := [mx_cl0, mx_cl1, mx_cl2, mx_cl3, mx_cl4, mx_cl5, mx_cl6, mx_cl7, mx_cl8, mx_cl9, mx_cl10, mx_cl11, mx_cl12, mx_cl13, mx_cl14, mx_cl15, mx_cl16, mx_cl17, mx_cl18, mx_cl19, mx_cl20, mx_cl21, mx_cl22, mx_cl23, mx_cl24, mx_cl25, mx_cl26, mx_cl27, mx_cl28, mx_cl29, mx_cl30, mx_cl31, mx_cl32, mx_cl33, mx_cl34, mx_cl35, mx_cl36, mx_cl37, mx_cl38, mx_cl39, mx_cl40, mx_cl41, mx_cl42, mx_cl43, mx_cl44, mx_cl45, mx_cl46, mx_cl47, mx_cl48, mx_cl49, mx_cl50, mx_cl51, mx_cl52, mx_cl53, mx_cl54, mx_cl55, mx_cl56]
def mx_cg0 : List (List (List (Nat × Jvm.ClassFile.Instr))) := [mx_ct0, mx_ct1, mx_ct2, mx_ct3, mx_ct4, mx_ct5, mx_ct6, mx_ct7, mx_ct8, mx_ct9, mx_ct10, mx_ct11, mx_ct12, mx_ct13, mx_ct14, mx_ct15]
def mx_cg1 : List (List (List (Nat × Jvm.ClassFile.Instr))) := [mx_ct16, mx_ct17, mx_ct18, mx_ct19, mx_ct20, mx_ct21, mx_ct22, mx_ct23, mx_ct24, mx_ct25, mx_ct26, mx_ct27, mx_ct28, mx_ct29, mx_ct30, mx_ct31]
def mx_cg2 : List (List (List (Nat × Jvm.ClassFile.Instr))) := [mx_ct32, mx_ct33, mx_ct34, mx_ct35, mx_ct36, mx_ct37, mx_ct38, mx_ct39, mx_ct40, mx_ct41, mx_ct42, mx_ct43, mx_ct44, mx_ct45, mx_ct46, mx_ct47]
def mx_cg3 : List (List (List (Nat × Jvm.ClassFile.Instr))) := [mx_ct48, mx_ct49, mx_ct50, mx_ct51, mx_ct52, mx_ct53, mx_ct54, mx_ct55, mx_ct56, mx_ct57, mx_ct58, mx_ct59, mx_ct60, mx_ct61, mx_ct62, mx_ct63]
def mx_cg4 : List (List (List (Nat × Jvm.ClassFile.Instr))) := [mx_ct64, mx_ct65, mx_ct66, mx_ct67, mx_ct68, mx_ct69, mx_ct70, mx_ct71, mx_ct72, mx_ct73, mx_ct74, mx_ct75, mx_ct76, mx_ct77, mx_ct78, mx_ct79]
def mx_cg5 : List (List (List (Nat × Jvm.ClassFile.Instr))) := [mx_ct80, mx_ct81, mx_ct82, mx_ct83, mx_ct84, mx_ct85, mx_ct86, mx_ct87, mx_ct88, mx_ct89, mx_ct90, mx_ct91, mx_ct92, mx_ct93, mx_ct94, mx_ct95]
def mx_cg6 : List (List (List (Nat × Jvm.ClassFile.Instr))) := [mx_ct96, mx_ct97, mx_ct98, mx_ct99, mx_ct100, mx_ct101, mx_ct102, mx_ct103, mx_ct104, mx_ct105, mx_ct106, mx_ct107, mx_ct108, mx_ct109, mx_ct110, mx_ct111]
def mx_cg7 : List (List (List (Nat × Jvm.ClassFile.Instr))) := [mx_ct112, mx_ct113, mx_ct114, mx_ct115, mx_ct116, mx_ct117, mx_ct118, mx_ct119, mx_ct120, mx_ct121, mx_ct122, mx_ct123, mx_ct124, mx_ct125, mx_ct126, mx_ct127]
def mx_cg8 : List (List (List (Nat × Jvm.ClassFile.Instr))) := [mx_ct128, mx_ct129, mx_ct130, mx_ct131, mx_ct132, mx_ct133, mx_ct134, mx_ct135, mx_ct136, mx_ct137, mx_ct138, mx_ct139, mx_ct140, mx_ct141, mx_ct142, mx_ct143]
def mx_cg9 : List (List (List (Nat × Jvm.ClassFile.Instr))) := [mx_ct144, mx_ct145, mx_ct146, mx_ct147, mx_ct148, mx_ct149, mx_ct150, mx_ct151, mx_ct152, mx_ct153, mx_ct154, mx_ct155, mx_ct156, mx_ct157, mx_ct158, mx_ct159]
def mx_cg10 : List (List (List (Nat × Jvm.ClassFile.Instr))) := [mx_ct160, mx_ct161, mx_ct162, mx_ct163, mx_ct164, mx_ct165, mx_ct166, mx_ct167, mx_ct168]
def mx_cts : List (List (List (List (Nat × Jvm.ClassFile.Instr)))) := [mx_cg0, mx_cg1, mx_cg2, mx_cg3, mx_cg4, mx_cg5, mx_cg6, mx_cg7, mx_cg8, mx_cg9, mx_cg10]
def mx_code (mid pc : Nat) : Option Jvm.ClassFile.Instr := (((mx_ix mx_cts mid [])[pc / 16]?).getD []).lookup pc
