/-! code, by wip/gen/gen.py -/
def ev_c_192_0 : List (Nat × Instr × Nat) := [(0, .aload_n 0, 1), (1, .getfield 9, 3), (4, .arraylength, 1), (5, .aload_n 0, 1), (6, .invokevirtual 335, 3), (9, .ishr, 1), (10, .ireturn, 1)]
set_option maxRecDepth 100000 in
theorem ev_d_192_0 : ∀ q ∈ ev_c_192_0, decode prog_29_method_54_code q.1 = .ok (q.2.1, q.2.2) := by decide +kernel
def ev_c_192 : List (Nat × List (Nat × Instr × Nat)) := [(0, ev_c_192_0)]
set_option maxRecDepth 100000 in
theorem ev_d_192 : ∀ q ∈ ev_c_192, ∀ z ∈ q.2, decode prog_29_method_54_code z.1 = .ok (z.2.1, z.2.2) := List.forall_mem_cons.mpr ⟨ev_d_192_0, fun _ h => absurd h List.not_mem_nil⟩
def ev_c_193_0 : List (Nat × Instr × Nat) := [(0, .aload_n 0, 1), (1, .invokevirtual 492, 3), (4, .ifCond .eq 12, 3), (7, .aload_n 0, 1), (8, .getfield 9, 3), (11, .iload_n 1, 1), (12, .invokestatic 495, 3), (15, .ireturn, 1), (16, .aload_n 0, 1), (17, .getfield 9, 3), (20, .iload_n 1, 1), (21, .invokestatic 498, 3), (24, .ireturn, 1)]
set_option maxRecDepth 100000 in
theorem ev_d_193_0 : ∀ q ∈ ev_c_193_0, decode prog_29_method_56_code q.1 = .ok (q.2.1, q.2.2) := by decide +kernel
def ev_c_193 : List (Nat × List (Nat × Instr × Nat)) := [(0, ev_c_193_0)]
set_option maxRecDepth 100000 in
theorem ev_d_193 : ∀ q ∈ ev_c_193, ∀ z ∈ q.2, decode prog_29_method_56_code z.1 = .ok (z.2.1, z.2.2) := List.forall_mem_cons.mpr ⟨ev_d_193_0, fun _ h => absurd h List.not_mem_nil⟩
def ev_c_194_0 : List (Nat × Instr × Nat) := [(0, .aload_n 0, 1), (1, .invokevirtual 335, 3), (4, .iload_n 3, 1), (5, .if_icmp .ne 23, 3), (8, .aload_n 0, 1), (9, .getfield 9, 3), (12, .iconst 0, 1), (13, .aload_n 1, 1), (14, .iload_n 2, 1), (15, .iload_n 3, 1), (16, .ishl, 1), (17, .aload_n 0, 1), (18, .getfield 9, 3), (21, .arraylength, 1), (22, .invokestatic 212, 3), (25, .goto 18, 3), (28, .aload_n 0, 1), (29, .getfield 9, 3)]
set_option maxRecDepth 100000 in
theorem ev_d_194_0 : ∀ q ∈ ev_c_194_0, decode prog_29_method_147_code q.1 = .ok (q.2.1, q.2.2) := by decide +kernel
def ev_c_194_1 : List (Nat × Instr × Nat) := [(32, .iconst 0, 1), (33, .aload_n 1, 1), (34, .iload_n 2, 1), (35, .aload_n 0, 1), (36, .getfield 9, 3), (39, .arraylength, 1), (40, .invokestatic 106, 3), (43, .return_, 1)]
set_option maxRecDepth 100000 in
theorem ev_d_194_1 : ∀ q ∈ ev_c_194_1, decode prog_29_method_147_code q.1 = .ok (q.2.1, q.2.2) := by decide +kernel
def ev_c_194 : List (Nat × List (Nat × Instr × Nat)) := [(0, ev_c_194_0), (1, ev_c_194_1)]
set_option maxRecDepth 100000 in
theorem ev_d_194 : ∀ q ∈ ev_c_194, ∀ z ∈ q.2, decode prog_29_method_147_code z.1 = .ok (z.2.1, z.2.2) := List.forall_mem_cons.mpr ⟨ev_d_194_0, List.forall_mem_cons.mpr ⟨ev_d_194_1, fun _ h => absurd h List.not_mem_nil⟩⟩
def ev_c_195_0 : List (Nat × Instr × Nat) := [(0, .getstatic 38, 3), (3, .ifCond .eq 10, 3), (6, .aload_n 0, 1), (7, .getfield 15, 3), (10, .goto 4, 3), (13, .iconst 1, 1), (14, .ireturn, 1)]
set_option maxRecDepth 100000 in
theorem ev_d_195_0 : ∀ q ∈ ev_c_195_0, decode prog_29_method_152_code q.1 = .ok (q.2.1, q.2.2) := by decide +kernel
def ev_c_195 : List (Nat × List (Nat × Instr × Nat)) := [(0, ev_c_195_0)]
set_option maxRecDepth 100000 in
theorem ev_d_195 : ∀ q ∈ ev_c_195, ∀ z ∈ q.2, decode prog_29_method_152_code z.1 = .ok (z.2.1, z.2.2) := List.forall_mem_cons.mpr ⟨ev_d_195_0, fun _ h => absurd h List.not_mem_nil⟩
def ev_c_196_0 : List (Nat × Instr × Nat) := [(0, .getstatic 38, 3), (3, .ifCond .eq 14, 3), (6, .aload_n 0, 1), (7, .getfield 15, 3), (10, .ifCond .ne 7, 3), (13, .iconst 1, 1), (14, .goto 4, 3), (17, .iconst 0, 1), (18, .ireturn, 1)]
set_option maxRecDepth 100000 in
theorem ev_d_196_0 : ∀ q ∈ ev_c_196_0, decode prog_29_method_154_code q.1 = .ok (q.2.1, q.2.2) := by decide +kernel
def ev_c_196 : List (Nat × List (Nat × Instr × Nat)) := [(0, ev_c_196_0)]
set_option maxRecDepth 100000 in
theorem ev_d_196 : ∀ q ∈ ev_c_196, ∀ z ∈ q.2, decode prog_29_method_154_code z.1 = .ok (z.2.1, z.2.2) := List.forall_mem_cons.mpr ⟨ev_d_196_0, fun _ h => absurd h List.not_mem_nil⟩
def ev_c_197_0 : List (Nat × Instr × Nat) := [(0, .iload_n 0, 1), (1, .iload_n 1, 1), (2, .getstatic 1053, 3), (5, .invokestatic 1059, 3), (8, .pop, 1), (9, .return_, 1)]
set_option maxRecDepth 100000 in
theorem ev_d_197_0 : ∀ q ∈ ev_c_197_0, decode prog_29_method_155_code q.1 = .ok (q.2.1, q.2.2) := by decide +kernel
def ev_c_197 : List (Nat × List (Nat × Instr × Nat)) := [(0, ev_c_197_0)]
set_option maxRecDepth 100000 in
theorem ev_d_197 : ∀ q ∈ ev_c_197, ∀ z ∈ q.2, decode prog_29_method_155_code z.1 = .ok (z.2.1, z.2.2) := List.forall_mem_cons.mpr ⟨ev_d_197_0, fun _ h => absurd h List.not_mem_nil⟩
def ev_c_198_0 : List (Nat × Instr × Nat) := [(0, .iload_n 1, 1), (1, .aload_n 0, 1), (2, .arraylength, 1), (3, .invokestatic 9, 3), (6, .aload_n 0, 1), (7, .iload_n 1, 1), (8, .baload, 1), (9, .sipush 255, 3), (12, .iand, 1), (13, .i2c, 1), (14, .ireturn, 1)]
set_option maxRecDepth 100000 in
theorem ev_d_198_0 : ∀ q ∈ ev_c_198_0, decode prog_31_method_2_code q.1 = .ok (q.2.1, q.2.2) := by decide +kernel
def ev_c_198 : List (Nat × List (Nat × Instr × Nat)) := [(0, ev_c_198_0)]
set_option maxRecDepth 100000 in
theorem ev_d_198 : ∀ q ∈ ev_c_198, ∀ z ∈ q.2, decode prog_31_method_2_code z.1 = .ok (z.2.1, z.2.2) := List.forall_mem_cons.mpr ⟨ev_d_198_0, fun _ h => absurd h List.not_mem_nil⟩
def ev_c_199_0 : List (Nat × Instr × Nat) := [(0, .iload_n 0, 1), (1, .sipush 255, 3), (4, .if_icmp .gt 7, 3), (7, .iconst 1, 1), (8, .goto 4, 3), (11, .iconst 0, 1), (12, .ireturn, 1)]
set_option maxRecDepth 100000 in
theorem ev_d_199_0 : ∀ q ∈ ev_c_199_0, decode prog_31_method_3_code q.1 = .ok (q.2.1, q.2.2) := by decide +kernel
def ev_c_199 : List (Nat × List (Nat × Instr × Nat)) := [(0, ev_c_199_0)]
set_option maxRecDepth 100000 in
theorem ev_d_199 : ∀ q ∈ ev_c_199, ∀ z ∈ q.2, decode prog_31_method_3_code z.1 = .ok (z.2.1, z.2.2) := List.forall_mem_cons.mpr ⟨ev_d_199_0, fun _ h => absurd h List.not_mem_nil⟩
def ev_c_200_0 : List (Nat × Instr × Nat) := [(0, .iconst 1, 1), (1, .istore_n 1, 1), (2, .iload_n 0, 1), (3, .ifCond .lt 8, 3), (6, .iconst 0, 1), (7, .istore_n 1, 1), (8, .iload_n 0, 1), (9, .ineg, 1), (10, .istore_n 0, 1), (11, .bipush (-10), 2), (13, .istore_n 2, 1), (14, .iconst 1, 1), (15, .istore_n 3, 1), (16, .iload_n 3, 1), (17, .bipush 10, 2), (19, .if_icmp .ge 23, 3), (22, .iload_n 0, 1), (23, .iload_n 2, 1), (24, .if_icmp .le 7, 3), (27, .iload_n 3, 1), (28, .iload_n 1, 1), (29, .iadd, 1), (30, .ireturn, 1), (31, .bipush 10, 2)]
set_option maxRecDepth 100000 in
theorem ev_d_200_0 : ∀ q ∈ ev_c_200_0, decode prog_23_method_13_code q.1 = .ok (q.2.1, q.2.2) := by decide +kernel
def ev_c_200_1 : List (Nat × Instr × Nat) := [(33, .iload_n 2, 1), (34, .imul, 1), (35, .istore_n 2, 1), (36, .iinc 3 1, 3), (39, .goto (-23), 3), (42, .bipush 10, 2), (44, .iload_n 1, 1), (45, .iadd, 1), (46, .ireturn, 1)]
set_option maxRecDepth 100000 in
theorem ev_d_200_1 : ∀ q ∈ ev_c_200_1, decode prog_23_method_13_code q.1 = .ok (q.2.1, q.2.2) := by decide +kernel
def ev_c_200 : List (Nat × List (Nat × Instr × Nat)) := [(0, ev_c_200_0), (1, ev_c_200_1)]
set_option maxRecDepth 100000 in
theorem ev_d_200 : ∀ q ∈ ev_c_200, ∀ z ∈ q.2, decode prog_23_method_13_code z.1 = .ok (z.2.1, z.2.2) := List.forall_mem_cons.mpr ⟨ev_d_200_0, List.forall_mem_cons.mpr ⟨ev_d_200_1, fun _ h => absurd h List.not_mem_nil⟩⟩
def ev_c_201_0 : List (Nat × Instr × Nat) := [(0, .iload_n 1, 1), (1, .istore 5, 2), (3, .iload_n 0, 1), (4, .ifCond .ge 7, 3), (7, .iconst 1, 1), (8, .goto 4, 3), (11, .iconst 0, 1), (12, .istore 6, 2), (14, .iload 6, 2), (16, .ifCond .ne 6, 3), (19, .iload_n 0, 1), (20, .ineg, 1), (21, .istore_n 0, 1), (22, .iload_n 0, 1), (23, .bipush (-100), 2), (25, .if_icmp .gt 47, 3), (28, .iload_n 0, 1), (29, .bipush 100, 2), (31, .idiv, 1)]
set_option maxRecDepth 100000 in
theorem ev_d_201_0 : ∀ q ∈ ev_c_201_0, decode prog_23_method_12_code q.1 = .ok (q.2.1, q.2.2) := by decide +kernel
def ev_c_201_1 : List (Nat × Instr × Nat) := [(32, .istore_n 3, 1), (33, .iload_n 3, 1), (34, .bipush 100, 2), (36, .imul, 1), (37, .iload_n 0, 1), (38, .isub, 1), (39, .istore 4, 2), (41, .iload_n 3, 1), (42, .istore_n 0, 1), (43, .aload_n 2, 1), (44, .iinc 5 (-1), 3), (47, .iload 5, 2), (49, .getstatic 83, 3), (52, .iload 4, 2), (54, .baload, 1), (55, .bastore, 1), (56, .aload_n 2, 1), (57, .iinc 5 (-1), 3), (60, .iload 5, 2), (62, .getstatic 87, 3)]
set_option maxRecDepth 100000 in
theorem ev_d_201_1 : ∀ q ∈ ev_c_201_1, decode prog_23_method_12_code q.1 = .ok (q.2.1, q.2.2) := by decide +kernel
def ev_c_201_2 : List (Nat × Instr × Nat) := [(65, .iload 4, 2), (67, .baload, 1), (68, .bastore, 1), (69, .goto (-47), 3), (72, .aload_n 2, 1), (73, .iinc 5 (-1), 3), (76, .iload 5, 2), (78, .getstatic 83, 3), (81, .iload_n 0, 1), (82, .ineg, 1), (83, .baload, 1), (84, .bastore, 1), (85, .iload_n 0, 1), (86, .bipush (-9), 2), (88, .if_icmp .ge 16, 3), (91, .aload_n 2, 1), (92, .iinc 5 (-1), 3), (95, .iload 5, 2)]
set_option maxRecDepth 100000 in
theorem ev_d_201_2 : ∀ q ∈ ev_c_201_2, decode prog_23_method_12_code q.1 = .ok (q.2.1, q.2.2) := by decide +kernel
def ev_c_201_3 : List (Nat × Instr × Nat) := [(97, .getstatic 87, 3), (100, .iload_n 0, 1), (101, .ineg, 1), (102, .baload, 1), (103, .bastore, 1), (104, .iload 6, 2), (106, .ifCond .eq 12, 3), (109, .aload_n 2, 1), (110, .iinc 5 (-1), 3), (113, .iload 5, 2), (115, .bipush 45, 2), (117, .bastore, 1), (118, .iload 5, 2), (120, .ireturn, 1)]
set_option maxRecDepth 100000 in
theorem ev_d_201_3 : ∀ q ∈ ev_c_201_3, decode prog_23_method_12_code q.1 = .ok (q.2.1, q.2.2) := by decide +kernel
def ev_c_201 : List (Nat × List (Nat × Instr × Nat)) := [(0, ev_c_201_0), (1, ev_c_201_1), (2, ev_c_201_2), (3, ev_c_201_3)]
set_option maxRecDepth 100000 in
theorem ev_d_201 : ∀ q ∈ ev_c_201, ∀ z ∈ q.2, decode prog_23_method_12_code z.1 = .ok (z.2.1, z.2.2) := List.forall_mem_cons.mpr ⟨ev_d_201_0, List.forall_mem_cons.mpr ⟨ev_d_201_1, List.forall_mem_cons.mpr ⟨ev_d_201_2, List.forall_mem_cons.mpr ⟨ev_d_201_3, fun _ h => absurd h List.not_mem_nil⟩⟩⟩⟩
def ev_c_202_0 : List (Nat × Instr × Nat) := [(0, .iload_n 0, 1), (1, .iload_n 0, 1), (2, .iconst 1, 1), (3, .iushr, 1), (4, .ldc_w 265, 3), (7, .iand, 1), (8, .isub, 1), (9, .istore_n 0, 1), (10, .iload_n 0, 1), (11, .ldc_w 266, 3), (14, .iand, 1), (15, .iload_n 0, 1), (16, .iconst 2, 1), (17, .iushr, 1), (18, .ldc_w 266, 3), (21, .iand, 1), (22, .iadd, 1), (23, .istore_n 0, 1), (24, .iload_n 0, 1), (25, .iload_n 0, 1), (26, .iconst 4, 1), (27, .iushr, 1), (28, .iadd, 1), (29, .ldc_w 267, 3)]
set_option maxRecDepth 100000 in
theorem ev_d_202_0 : ∀ q ∈ ev_c_202_0, decode prog_23_method_49_code q.1 = .ok (q.2.1, q.2.2) := by decide +kernel
def ev_c_202_1 : List (Nat × Instr × Nat) := [(32, .iand, 1), (33, .istore_n 0, 1), (34, .iload_n 0, 1), (35, .iload_n 0, 1), (36, .bipush 8, 2), (38, .iushr, 1), (39, .iadd, 1), (40, .istore_n 0, 1), (41, .iload_n 0, 1), (42, .iload_n 0, 1), (43, .bipush 16, 2), (45, .iushr, 1), (46, .iadd, 1), (47, .istore_n 0, 1), (48, .iload_n 0, 1), (49, .bipush 63, 2), (51, .iand, 1), (52, .ireturn, 1)]
set_option maxRecDepth 100000 in
theorem ev_d_202_1 : ∀ q ∈ ev_c_202_1, decode prog_23_method_49_code q.1 = .ok (q.2.1, q.2.2) := by decide +kernel
def ev_c_202 : List (Nat × List (Nat × Instr × Nat)) := [(0, ev_c_202_0), (1, ev_c_202_1)]
set_option maxRecDepth 100000 in
theorem ev_d_202 : ∀ q ∈ ev_c_202, ∀ z ∈ q.2, decode prog_23_method_49_code z.1 = .ok (z.2.1, z.2.2) := List.forall_mem_cons.mpr ⟨ev_d_202_0, List.forall_mem_cons.mpr ⟨ev_d_202_1, fun _ h => absurd h List.not_mem_nil⟩⟩
def ev_c_203_0 : List (Nat × Instr × Nat) := [(0, .iconst 0, 1), (1, .istore_n 2, 1), (2, .aload_n 0, 1), (3, .arraylength, 1), (4, .istore_n 3, 1), (5, .iload_n 2, 1), (6, .iload_n 3, 1), (7, .if_icmp .ge 13, 3), (10, .aload_n 0, 1), (11, .iload_n 2, 1), (12, .iload_n 1, 1), (13, .iastore, 1), (14, .iinc 2 1, 3), (17, .goto (-12), 3), (20, .return_, 1)]
set_option maxRecDepth 100000 in
theorem ev_d_203_0 : ∀ q ∈ ev_c_203_0, decode prog_40_method_103_code q.1 = .ok (q.2.1, q.2.2) := by decide +kernel
def ev_c_203 : List (Nat × List (Nat × Instr × Nat)) := [(0, ev_c_203_0)]
set_option maxRecDepth 100000 in
theorem ev_d_203 : ∀ q ∈ ev_c_203, ∀ z ∈ q.2, decode prog_40_method_103_code z.1 = .ok (z.2.1, z.2.2) := List.forall_mem_cons.mpr ⟨ev_d_203_0, fun _ h => absurd h List.not_mem_nil⟩
def ev_c_204_0 : List (Nat × Instr × Nat) := [(0, .iconst 0, 1), (1, .istore_n 3, 1), (2, .aload_n 0, 1), (3, .arraylength, 1), (4, .istore 4, 2), (6, .iload_n 3, 1), (7, .iload 4, 2), (9, .if_icmp .ge 13, 3), (12, .aload_n 0, 1), (13, .iload_n 3, 1), (14, .lload_n 1, 1), (15, .lastore, 1), (16, .iinc 3 1, 3), (19, .goto (-13), 3), (22, .return_, 1)]
set_option maxRecDepth 100000 in
theorem ev_d_204_0 : ∀ q ∈ ev_c_204_0, decode prog_40_method_101_code q.1 = .ok (q.2.1, q.2.2) := by decide +kernel
def ev_c_204 : List (Nat × List (Nat × Instr × Nat)) := [(0, ev_c_204_0)]
set_option maxRecDepth 100000 in
theorem ev_d_204 : ∀ q ∈ ev_c_204, ∀ z ∈ q.2, decode prog_40_method_101_code z.1 = .ok (z.2.1, z.2.2) := List.forall_mem_cons.mpr ⟨ev_d_204_0, fun _ h => absurd h List.not_mem_nil⟩
def ev_c_205_0 : List (Nat × Instr × Nat) := [(0, .iload_n 1, 1), (1, .aload_n 0, 1), (2, .arraylength, 1), (3, .if_icmp .ne 11, 3), (6, .aload_n 0, 1), (7, .invokevirtual 310, 3), (10, .checkcast 311, 3), (13, .areturn, 1), (14, .iload_n 1, 1), (15, .newarray .byte, 2), (17, .astore_n 2, 1), (18, .aload_n 0, 1), (19, .iconst 0, 1), (20, .aload_n 2, 1), (21, .iconst 0, 1), (22, .aload_n 0, 1), (23, .arraylength, 1), (24, .iload_n 1, 1), (25, .invokestatic 304, 3), (28, .invokestatic 150, 3), (31, .aload_n 2, 1)]
set_option maxRecDepth 100000 in
theorem ev_d_205_0 : ∀ q ∈ ev_c_205_0, decode prog_40_method_121_code q.1 = .ok (q.2.1, q.2.2) := by decide +kernel
def ev_c_205_1 : List (Nat × Instr × Nat) := [(32, .areturn, 1)]
set_option maxRecDepth 100000 in
theorem ev_d_205_1 : ∀ q ∈ ev_c_205_1, decode prog_40_method_121_code q.1 = .ok (q.2.1, q.2.2) := by decide +kernel
def ev_c_205 : List (Nat × List (Nat × Instr × Nat)) := [(0, ev_c_205_0), (1, ev_c_205_1)]
set_option maxRecDepth 100000 in
theorem ev_d_205 : ∀ q ∈ ev_c_205, ∀ z ∈ q.2, decode prog_40_method_121_code z.1 = .ok (z.2.1, z.2.2) := List.forall_mem_cons.mpr ⟨ev_d_205_0, List.forall_mem_cons.mpr ⟨ev_d_205_1, fun _ h => absurd h List.not_mem_nil⟩⟩
def ev_c_206_0 : List (Nat × Instr × Nat) := [(0, .iload_n 1, 1), (1, .ifCond .ne 9, 3), (4, .iload_n 2, 1), (5, .aload_n 0, 1), (6, .arraylength, 1), (7, .if_icmp .eq 10, 3), (10, .aload_n 0, 1), (11, .iload_n 1, 1), (12, .iload_n 2, 1), (13, .invokestatic 339, 3), (16, .areturn, 1), (17, .aload_n 0, 1), (18, .invokevirtual 310, 3), (21, .checkcast 311, 3), (24, .areturn, 1)]
set_option maxRecDepth 100000 in
theorem ev_d_206_0 : ∀ q ∈ ev_c_206_0, decode prog_40_method_132_code q.1 = .ok (q.2.1, q.2.2) := by decide +kernel
def ev_c_206 : List (Nat × List (Nat × Instr × Nat)) := [(0, ev_c_206_0)]
set_option maxRecDepth 100000 in
theorem ev_d_206 : ∀ q ∈ ev_c_206, ∀ z ∈ q.2, decode prog_40_method_132_code z.1 = .ok (z.2.1, z.2.2) := List.forall_mem_cons.mpr ⟨ev_d_206_0, fun _ h => absurd h List.not_mem_nil⟩
def ev_c_207_0 : List (Nat × Instr × Nat) := [(0, .iload_n 1, 1), (1, .iload_n 2, 1), (2, .invokestatic 343, 3), (5, .iload_n 2, 1), (6, .iload_n 1, 1), (7, .isub, 1), (8, .istore_n 3, 1), (9, .iload_n 3, 1), (10, .newarray .byte, 2), (12, .astore 4, 2), (14, .aload_n 0, 1), (15, .iload_n 1, 1), (16, .aload 4, 2), (18, .iconst 0, 1), (19, .aload_n 0, 1), (20, .arraylength, 1), (21, .iload_n 1, 1), (22, .isub, 1), (23, .iload_n 3, 1), (24, .invokestatic 304, 3), (27, .invokestatic 150, 3), (30, .aload 4, 2)]
set_option maxRecDepth 100000 in
theorem ev_d_207_0 : ∀ q ∈ ev_c_207_0, decode prog_40_method_133_code q.1 = .ok (q.2.1, q.2.2) := by decide +kernel
def ev_c_207_1 : List (Nat × Instr × Nat) := [(32, .areturn, 1)]
set_option maxRecDepth 100000 in
theorem ev_d_207_1 : ∀ q ∈ ev_c_207_1, decode prog_40_method_133_code q.1 = .ok (q.2.1, q.2.2) := by decide +kernel
def ev_c_207 : List (Nat × List (Nat × Instr × Nat)) := [(0, ev_c_207_0), (1, ev_c_207_1)]
set_option maxRecDepth 100000 in
theorem ev_d_207 : ∀ q ∈ ev_c_207, ∀ z ∈ q.2, decode prog_40_method_133_code z.1 = .ok (z.2.1, z.2.2) := List.forall_mem_cons.mpr ⟨ev_d_207_0, List.forall_mem_cons.mpr ⟨ev_d_207_1, fun _ h => absurd h List.not_mem_nil⟩⟩
def ev_c_208_0 : List (Nat × Instr × Nat) := [(0, .iload_n 1, 1), (1, .iload_n 0, 1), (2, .if_icmp .ge 35, 3), (5, .new 43, 3), (8, .dup, 1), (9, .new 45, 3), (12, .dup, 1), (13, .invokespecial 47, 3), (16, .iload_n 0, 1), (17, .invokevirtual 54, 3), (20, .ldc_w 337, 3), (23, .invokevirtual 50, 3), (26, .iload_n 1, 1), (27, .invokevirtual 54, 3), (30, .invokevirtual 61, 3)]
set_option maxRecDepth 100000 in
theorem ev_d_208_0 : ∀ q ∈ ev_c_208_0, decode prog_40_method_131_code q.1 = .ok (q.2.1, q.2.2) := by decide +kernel
def ev_c_208_1 : List (Nat × Instr × Nat) := [(33, .invokespecial 65, 3), (36, .athrow, 1), (37, .return_, 1)]
set_option maxRecDepth 100000 in
theorem ev_d_208_1 : ∀ q ∈ ev_c_208_1, decode prog_40_method_131_code q.1 = .ok (q.2.1, q.2.2) := by decide +kernel
def ev_c_208 : List (Nat × List (Nat × Instr × Nat)) := [(0, ev_c_208_0), (1, ev_c_208_1)]
set_option maxRecDepth 100000 in
theorem ev_d_208 : ∀ q ∈ ev_c_208, ∀ z ∈ q.2, decode prog_40_method_131_code z.1 = .ok (z.2.1, z.2.2) := List.forall_mem_cons.mpr ⟨ev_d_208_0, List.forall_mem_cons.mpr ⟨ev_d_208_1, fun _ h => absurd h List.not_mem_nil⟩⟩
def ev_c_209_0 : List (Nat × Instr × Nat) := [(0, .aload_n 0, 1), (1, .aload_n 1, 1), (2, .if_acmp .ne 5, 3), (5, .iconst 1, 1), (6, .ireturn, 1), (7, .aload_n 0, 1), (8, .ifnull 7, 3), (11, .aload_n 1, 1), (12, .ifnonnull 5, 3), (15, .iconst 0, 1), (16, .ireturn, 1), (17, .aload_n 0, 1), (18, .arraylength, 1), (19, .istore_n 2, 1), (20, .aload_n 1, 1), (21, .arraylength, 1), (22, .iload_n 2, 1), (23, .if_icmp .eq 5, 3), (26, .iconst 0, 1), (27, .ireturn, 1), (28, .aload_n 0, 1), (29, .aload_n 1, 1), (30, .iload_n 2, 1), (31, .invokestatic 245, 3)]
set_option maxRecDepth 100000 in
theorem ev_d_209_0 : ∀ q ∈ ev_c_209_0, decode prog_40_method_81_code q.1 = .ok (q.2.1, q.2.2) := by decide +kernel
def ev_c_209_1 : List (Nat × Instr × Nat) := [(34, .ifCond .ge 7, 3), (37, .iconst 1, 1), (38, .goto 4, 3), (41, .iconst 0, 1), (42, .ireturn, 1)]
set_option maxRecDepth 100000 in
theorem ev_d_209_1 : ∀ q ∈ ev_c_209_1, decode prog_40_method_81_code q.1 = .ok (q.2.1, q.2.2) := by decide +kernel
def ev_c_209 : List (Nat × List (Nat × Instr × Nat)) := [(0, ev_c_209_0), (1, ev_c_209_1)]
set_option maxRecDepth 100000 in
theorem ev_d_209 : ∀ q ∈ ev_c_209, ∀ z ∈ q.2, decode prog_40_method_81_code z.1 = .ok (z.2.1, z.2.2) := List.forall_mem_cons.mpr ⟨ev_d_209_0, List.forall_mem_cons.mpr ⟨ev_d_209_1, fun _ h => absurd h List.not_mem_nil⟩⟩
def ev_c_210_0 : List (Nat × Instr × Nat) := [(0, .iload_n 0, 1), (1, .iload_n 1, 1), (2, .iload_n 2, 1), (3, .invokestatic 194, 3), (6, .iadd, 1), (7, .istore_n 3, 1), (8, .iconst 0, 1), (9, .iload_n 3, 1), (10, .if_icmp .ge 11, 3), (13, .iload_n 3, 1), (14, .ldc 200, 2), (16, .if_icmp .gt 5, 3), (19, .iload_n 3, 1), (20, .ireturn, 1), (21, .iload_n 0, 1), (22, .iload_n 1, 1), (23, .invokestatic 201, 3), (26, .ireturn, 1)]
set_option maxRecDepth 100000 in
theorem ev_d_210_0 : ∀ q ∈ ev_c_210_0, decode prog_48_method_27_code q.1 = .ok (q.2.1, q.2.2) := by decide +kernel
def ev_c_210 : List (Nat × List (Nat × Instr × Nat)) := [(0, ev_c_210_0)]
set_option maxRecDepth 100000 in
theorem ev_d_210 : ∀ q ∈ ev_c_210, ∀ z ∈ q.2, decode prog_48_method_27_code z.1 = .ok (z.2.1, z.2.2) := List.forall_mem_cons.mpr ⟨ev_d_210_0, fun _ h => absurd h List.not_mem_nil⟩
def ev_c_211_0 : List (Nat × Instr × Nat) := [(0, .iload_n 2, 1), (1, .ifCond .ne 5, 3), (4, .iconst (-1), 1), (5, .ireturn, 1), (6, .aload_n 0, 1), (7, .iconst 0, 1), (8, .laload, 1), (9, .aload_n 1, 1), (10, .iconst 0, 1), (11, .laload, 1), (12, .lcmp, 1), (13, .ifCond .eq 5, 3), (16, .iconst 0, 1), (17, .ireturn, 1), (18, .aload_n 0, 1), (19, .getstatic 170, 3), (22, .i2l, 1), (23, .aload_n 1, 1), (24, .getstatic 170, 3), (27, .i2l, 1), (28, .iload_n 2, 1), (29, .getstatic 20, 3)]
set_option maxRecDepth 100000 in
theorem ev_d_211_0 : ∀ q ∈ ev_c_211_0, decode prog_48_method_23_code q.1 = .ok (q.2.1, q.2.2) := by decide +kernel
def ev_c_211_1 : List (Nat × Instr × Nat) := [(32, .invokestatic 122, 3), (35, .istore_n 3, 1), (36, .iload_n 3, 1), (37, .ifCond .lt 7, 3), (40, .iload_n 3, 1), (41, .goto 4, 3), (44, .iconst (-1), 1), (45, .ireturn, 1)]
set_option maxRecDepth 100000 in
theorem ev_d_211_1 : ∀ q ∈ ev_c_211_1, decode prog_48_method_23_code q.1 = .ok (q.2.1, q.2.2) := by decide +kernel
def ev_c_211 : List (Nat × List (Nat × Instr × Nat)) := [(0, ev_c_211_0), (1, ev_c_211_1)]
set_option maxRecDepth 100000 in
theorem ev_d_211 : ∀ q ∈ ev_c_211, ∀ z ∈ q.2, decode prog_48_method_23_code z.1 = .ok (z.2.1, z.2.2) := List.forall_mem_cons.mpr ⟨ev_d_211_0, List.forall_mem_cons.mpr ⟨ev_d_211_1, fun _ h => absurd h List.not_mem_nil⟩⟩
def ev_c_212_0 : List (Nat × Instr × Nat) := [(0, .getstatic 20, 3), (3, .iload 7, 2), (5, .isub, 1), (6, .istore 8, 2), (8, .iconst 0, 1), (9, .istore 9, 2), (11, .iload 9, 2), (13, .iload 6, 2), (15, .iload 8, 2), (17, .ishr, 1), (18, .if_icmp .ge 104, 3), (21, .iload 9, 2), (23, .i2l, 1), (24, .getstatic 20, 3), (27, .lshl, 1), (28, .lstore 10, 2), (30, .getstatic 26, 3)]
set_option maxRecDepth 100000 in
theorem ev_d_212_0 : ∀ q ∈ ev_c_212_0, decode prog_48_method_3_code q.1 = .ok (q.2.1, q.2.2) := by decide +kernel
def ev_c_212_1 : List (Nat × Instr × Nat) := [(33, .aload_n 0, 1), (34, .lload_n 1, 1), (35, .lload 10, 2), (37, .ladd, 1), (38, .invokevirtual 30, 3), (41, .lstore 12, 2), (43, .getstatic 26, 3), (46, .aload_n 3, 1), (47, .lload 4, 2), (49, .lload 10, 2), (51, .ladd, 1), (52, .invokevirtual 30, 3), (55, .lstore 14, 2), (57, .lload 12, 2), (59, .lload 14, 2), (61, .lcmp, 1), (62, .ifCond .eq 54, 3)]
set_option maxRecDepth 100000 in
theorem ev_d_212_1 : ∀ q ∈ ev_c_212_1, decode prog_48_method_3_code q.1 = .ok (q.2.1, q.2.2) := by decide +kernel
def ev_c_212_2 : List (Nat × Instr × Nat) := [(65, .lload 12, 2), (67, .lload 14, 2), (69, .lxor, 1), (70, .lstore 16, 2), (72, .getstatic 36, 3), (75, .ifCond .eq 18, 3), (78, .lload 16, 2), (80, .invokestatic 40, 3), (83, .getstatic 46, 3), (86, .iload 7, 2), (88, .iadd, 1), (89, .ishr, 1), (90, .goto 15, 3), (93, .lload 16, 2), (95, .invokestatic 49, 3)]
set_option maxRecDepth 100000 in
theorem ev_d_212_2 : ∀ q ∈ ev_c_212_2, decode prog_48_method_3_code q.1 = .ok (q.2.1, q.2.2) := by decide +kernel
def ev_c_212_3 : List (Nat × Instr × Nat) := [(98, .getstatic 46, 3), (101, .iload 7, 2), (103, .iadd, 1), (104, .ishr, 1), (105, .istore 18, 2), (107, .iload 9, 2), (109, .iload 8, 2), (111, .ishl, 1), (112, .iload 18, 2), (114, .iadd, 1), (115, .ireturn, 1), (116, .iinc 9 1, 3), (119, .goto (-108), 3), (122, .iload 6, 2), (124, .iload 9, 2), (126, .iload 8, 2)]
set_option maxRecDepth 100000 in
theorem ev_d_212_3 : ∀ q ∈ ev_c_212_3, decode prog_48_method_3_code q.1 = .ok (q.2.1, q.2.2) := by decide +kernel
def ev_c_212_4 : List (Nat × Instr × Nat) := [(128, .ishl, 1), (129, .isub, 1), (130, .istore 10, 2), (132, .iload 7, 2), (134, .getstatic 51, 3), (137, .if_icmp .ge 126, 3), (140, .iconst 1, 1), (141, .getstatic 51, 3), (144, .iload 7, 2), (146, .isub, 1), (147, .ishl, 1), (148, .istore 11, 2), (150, .iload 10, 2), (152, .iload 11, 2), (154, .if_icmp .lt 104, 3), (157, .iload 9, 2), (159, .i2l, 1)]
set_option maxRecDepth 100000 in
theorem ev_d_212_4 : ∀ q ∈ ev_c_212_4, decode prog_48_method_3_code q.1 = .ok (q.2.1, q.2.2) := by decide +kernel
def ev_c_212_5 : List (Nat × Instr × Nat) := [(160, .getstatic 20, 3), (163, .lshl, 1), (164, .lstore 12, 2), (166, .getstatic 26, 3), (169, .aload_n 0, 1), (170, .lload_n 1, 1), (171, .lload 12, 2), (173, .ladd, 1), (174, .invokevirtual 54, 3), (177, .istore 14, 2), (179, .getstatic 26, 3), (182, .aload_n 3, 1), (183, .lload 4, 2), (185, .lload 12, 2), (187, .ladd, 1), (188, .invokevirtual 54, 3), (191, .istore 15, 2)]
set_option maxRecDepth 100000 in
theorem ev_d_212_5 : ∀ q ∈ ev_c_212_5, decode prog_48_method_3_code q.1 = .ok (q.2.1, q.2.2) := by decide +kernel
def ev_c_212_6 : List (Nat × Instr × Nat) := [(193, .iload 14, 2), (195, .iload 15, 2), (197, .if_icmp .eq 54, 3), (200, .iload 14, 2), (202, .iload 15, 2), (204, .ixor, 1), (205, .istore 16, 2), (207, .getstatic 36, 3), (210, .ifCond .eq 18, 3), (213, .iload 16, 2), (215, .invokestatic 58, 3), (218, .getstatic 46, 3), (221, .iload 7, 2), (223, .iadd, 1)]
set_option maxRecDepth 100000 in
theorem ev_d_212_6 : ∀ q ∈ ev_c_212_6, decode prog_48_method_3_code q.1 = .ok (q.2.1, q.2.2) := by decide +kernel
def ev_c_212_7 : List (Nat × Instr × Nat) := [(224, .ishr, 1), (225, .goto 15, 3), (228, .iload 16, 2), (230, .invokestatic 11, 3), (233, .getstatic 46, 3), (236, .iload 7, 2), (238, .iadd, 1), (239, .ishr, 1), (240, .istore 17, 2), (242, .iload 9, 2), (244, .iload 8, 2), (246, .ishl, 1), (247, .iload 17, 2), (249, .iadd, 1), (250, .ireturn, 1), (251, .iload 10, 2), (253, .iload 11, 2), (255, .isub, 1)]
set_option maxRecDepth 100000 in
theorem ev_d_212_7 : ∀ q ∈ ev_c_212_7, decode prog_48_method_3_code q.1 = .ok (q.2.1, q.2.2) := by decide +kernel
def ev_c_212_8 : List (Nat × Instr × Nat) := [(256, .istore 10, 2), (258, .iload 10, 2), (260, .iconst (-1), 1), (261, .ixor, 1), (262, .ireturn, 1), (263, .iload 10, 2), (265, .iconst (-1), 1), (266, .ixor, 1), (267, .ireturn, 1)]
set_option maxRecDepth 100000 in
theorem ev_d_212_8 : ∀ q ∈ ev_c_212_8, decode prog_48_method_3_code q.1 = .ok (q.2.1, q.2.2) := by decide +kernel
def ev_c_212 : List (Nat × List (Nat × Instr × Nat)) := [(0, ev_c_212_0), (1, ev_c_212_1), (2, ev_c_212_2), (3, ev_c_212_3), (4, ev_c_212_4), (5, ev_c_212_5), (6, ev_c_212_6), (7, ev_c_212_7), (8, ev_c_212_8)]
set_option maxRecDepth 100000 in
theorem ev_d_212 : ∀ q ∈ ev_c_212, ∀ z ∈ q.2, decode prog_48_method_3_code z.1 = .ok (z.2.1, z.2.2) := List.forall_mem_cons.mpr ⟨ev_d_212_0, List.forall_mem_cons.mpr ⟨ev_d_212_1, List.forall_mem_cons.mpr ⟨ev_d_212_2, List.forall_mem_cons.mpr ⟨ev_d_212_3, List.forall_mem_cons.mpr ⟨ev_d_212_4, List.forall_mem_cons.mpr ⟨ev_d_212_5, List.forall_mem_cons.mpr ⟨ev_d_212_6, List.forall_mem_cons.mpr ⟨ev_d_212_7, List.forall_mem_cons.mpr ⟨ev_d_212_8, fun _ h => absurd h List.not_mem_nil⟩⟩⟩⟩⟩⟩⟩⟩⟩
def ev_c_213_0 : List (Nat × Instr × Nat) := [(0, .iload_n 0, 1), (1, .iload_n 1, 1), (2, .aconst_null, 1), (3, .invokestatic 105, 3), (6, .ireturn, 1)]
set_option maxRecDepth 100000 in
theorem ev_d_213_0 : ∀ q ∈ ev_c_213_0, decode prog_43_method_17_code q.1 = .ok (q.2.1, q.2.2) := by decide +kernel
def ev_c_213 : List (Nat × List (Nat × Instr × Nat)) := [(0, ev_c_213_0)]
set_option maxRecDepth 100000 in
theorem ev_d_213 : ∀ q ∈ ev_c_213, ∀ z ∈ q.2, decode prog_43_method_17_code z.1 = .ok (z.2.1, z.2.2) := List.forall_mem_cons.mpr ⟨ev_d_213_0, fun _ h => absurd h List.not_mem_nil⟩
def ev_c_214_0 : List (Nat × Instr × Nat) := [(0, .iload_n 0, 1), (1, .ifCond .lt 8, 3), (4, .iload_n 0, 1), (5, .iload_n 1, 1), (6, .if_icmp .lt 10, 3), (9, .aload_n 2, 1), (10, .iload_n 0, 1), (11, .iload_n 1, 1), (12, .invokestatic 95, 3), (15, .athrow, 1), (16, .iload_n 0, 1), (17, .ireturn, 1)]
set_option maxRecDepth 100000 in
theorem ev_d_214_0 : ∀ q ∈ ev_c_214_0, decode prog_49_method_11_code q.1 = .ok (q.2.1, q.2.2) := by decide +kernel
def ev_c_214 : List (Nat × List (Nat × Instr × Nat)) := [(0, ev_c_214_0)]
set_option maxRecDepth 100000 in
theorem ev_d_214 : ∀ q ∈ ev_c_214, ∀ z ∈ q.2, decode prog_49_method_11_code z.1 = .ok (z.2.1, z.2.2) := List.forall_mem_cons.mpr ⟨ev_d_214_0, fun _ h => absurd h List.not_mem_nil⟩
def ev_c_215_0 : List (Nat × Instr × Nat) := [(0, .aload_n 0, 1), (1, .invokespecial 343, 3), (4, .ireturn, 1)]
set_option maxRecDepth 100000 in
theorem ev_d_215_0 : ∀ q ∈ ev_c_215_0, decode prog_30_method_93_code q.1 = .ok (q.2.1, q.2.2) := by decide +kernel
def ev_c_215 : List (Nat × List (Nat × Instr × Nat)) := [(0, ev_c_215_0)]
set_option maxRecDepth 100000 in
theorem ev_d_215 : ∀ q ∈ ev_c_215, ∀ z ∈ q.2, decode prog_30_method_93_code z.1 = .ok (z.2.1, z.2.2) := List.forall_mem_cons.mpr ⟨ev_d_215_0, fun _ h => absurd h List.not_mem_nil⟩
