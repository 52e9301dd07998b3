/-! code, by wip/gen/gen.py -/
def ev_c_214_0 : List (Nat × Instr × Nat) := [(0, .aload_n 0, 1), (1, .iconst 0, 1), (2, .putfield 40, 3), (5, .aload_n 0, 1), (6, .getfield 62, 3), (9, .ireturn, 1)]
set_option maxRecDepth 100000 in
theorem ev_d_214_0 : ∀ q ∈ ev_c_214_0, decode prog_10_method_14_code q.1 = .ok (q.2.1, q.2.2) := fd_rows (by decide +kernel)
def ev_c_214 : List (Nat × List (Nat × Instr × Nat)) := [(0, ev_c_214_0)]
set_option maxRecDepth 100000 in
theorem ev_d_214 : ∀ q ∈ ev_c_214, ∀ z ∈ q.2, decode prog_10_method_14_code z.1 = .ok (z.2.1, z.2.2) := List.forall_mem_cons.mpr ⟨ev_d_214_0, fun _ h => absurd h List.not_mem_nil⟩
def ev_c_215_0 : List (Nat × Instr × Nat) := [(0, .aload_n 0, 1), (1, .iconst 0, 1), (2, .putfield 40, 3), (5, .aload_n 0, 1), (6, .getfield 30, 3), (9, .ireturn, 1)]
set_option maxRecDepth 100000 in
theorem ev_d_215_0 : ∀ q ∈ ev_c_215_0, decode prog_10_method_15_code q.1 = .ok (q.2.1, q.2.2) := fd_rows (by decide +kernel)
def ev_c_215 : List (Nat × List (Nat × Instr × Nat)) := [(0, ev_c_215_0)]
set_option maxRecDepth 100000 in
theorem ev_d_215 : ∀ q ∈ ev_c_215, ∀ z ∈ q.2, decode prog_10_method_15_code z.1 = .ok (z.2.1, z.2.2) := List.forall_mem_cons.mpr ⟨ev_d_215_0, fun _ h => absurd h List.not_mem_nil⟩
def ev_c_216_0 : List (Nat × Instr × Nat) := [(0, .aload_n 0, 1), (1, .iconst 0, 1), (2, .putfield 40, 3), (5, .aload_n 0, 1), (6, .getfield 55, 3), (9, .ireturn, 1)]
set_option maxRecDepth 100000 in
theorem ev_d_216_0 : ∀ q ∈ ev_c_216_0, decode prog_10_method_16_code q.1 = .ok (q.2.1, q.2.2) := fd_rows (by decide +kernel)
def ev_c_216 : List (Nat × List (Nat × Instr × Nat)) := [(0, ev_c_216_0)]
set_option maxRecDepth 100000 in
theorem ev_d_216 : ∀ q ∈ ev_c_216, ∀ z ∈ q.2, decode prog_10_method_16_code z.1 = .ok (z.2.1, z.2.2) := List.forall_mem_cons.mpr ⟨ev_d_216_0, fun _ h => absurd h List.not_mem_nil⟩
def ev_c_217_0 : List (Nat × Instr × Nat) := [(0, .iload_n 1, 1), (1, .aload_n 0, 1), (2, .getfield 65, 3), (5, .if_icmp .ge 23, 3), (8, .aload_n 0, 1), (9, .getfield 26, 3), (12, .iload_n 1, 1), (13, .baload, 1), (14, .bipush 97, 2), (16, .bipush 122, 2), (18, .invokestatic 68, 3), (21, .ifCond .eq 7, 3), (24, .iconst 1, 1), (25, .goto 4, 3), (28, .iconst 0, 1), (29, .ireturn, 1)]
set_option maxRecDepth 100000 in
theorem ev_d_217_0 : ∀ q ∈ ev_c_217_0, decode prog_10_method_17_code q.1 = .ok (q.2.1, q.2.2) := fd_rows (by decide +kernel)
def ev_c_217 : List (Nat × List (Nat × Instr × Nat)) := [(0, ev_c_217_0)]
set_option maxRecDepth 100000 in
theorem ev_d_217 : ∀ q ∈ ev_c_217, ∀ z ∈ q.2, decode prog_10_method_17_code z.1 = .ok (z.2.1, z.2.2) := List.forall_mem_cons.mpr ⟨ev_d_217_0, fun _ h => absurd h List.not_mem_nil⟩
def ev_c_218_0 : List (Nat × Instr × Nat) := [(0, .iload_n 1, 1), (1, .aload_n 0, 1), (2, .getfield 65, 3), (5, .if_icmp .ge 23, 3), (8, .aload_n 0, 1), (9, .getfield 26, 3), (12, .iload_n 1, 1), (13, .baload, 1), (14, .bipush 48, 2), (16, .bipush 57, 2), (18, .invokestatic 68, 3), (21, .ifCond .eq 7, 3), (24, .iconst 1, 1), (25, .goto 4, 3), (28, .iconst 0, 1), (29, .ireturn, 1)]
set_option maxRecDepth 100000 in
theorem ev_d_218_0 : ∀ q ∈ ev_c_218_0, decode prog_10_method_18_code q.1 = .ok (q.2.1, q.2.2) := fd_rows (by decide +kernel)
def ev_c_218 : List (Nat × List (Nat × Instr × Nat)) := [(0, ev_c_218_0)]
set_option maxRecDepth 100000 in
theorem ev_d_218 : ∀ q ∈ ev_c_218, ∀ z ∈ q.2, decode prog_10_method_18_code z.1 = .ok (z.2.1, z.2.2) := List.forall_mem_cons.mpr ⟨ev_d_218_0, fun _ h => absurd h List.not_mem_nil⟩
def ev_c_219_0 : List (Nat × Instr × Nat) := [(0, .aload_n 0, 1), (1, .getfield 62, 3), (4, .ifCond .le 4, 3), (7, .return_, 1), (8, .aload_n 0, 1), (9, .getfield 72, 3), (12, .aload_n 0, 1), (13, .getfield 65, 3), (16, .if_icmp .ge 30, 3), (19, .aload_n 0, 1), (20, .getfield 26, 3), (23, .aload_n 0, 1), (24, .getfield 72, 3), (27, .baload, 1), (28, .bipush 32, 2), (30, .if_icmp .ne 16, 3)]
set_option maxRecDepth 100000 in
theorem ev_d_219_0 : ∀ q ∈ ev_c_219_0, decode prog_10_method_19_code q.1 = .ok (q.2.1, q.2.2) := fd_rows (by decide +kernel)
def ev_c_219_1 : List (Nat × Instr × Nat) := [(33, .aload_n 0, 1), (34, .dup, 1), (35, .getfield 72, 3), (38, .iconst 1, 1), (39, .iadd, 1), (40, .putfield 72, 3), (43, .goto (-35), 3), (46, .aload_n 0, 1), (47, .aload_n 0, 1), (48, .getfield 72, 3), (51, .putfield 75, 3), (54, .aload_n 0, 1), (55, .aload_n 0, 1), (56, .getfield 72, 3), (59, .aload_n 0, 1), (60, .getfield 65, 3), (63, .if_icmp .ne 7, 3)]
set_option maxRecDepth 100000 in
theorem ev_d_219_1 : ∀ q ∈ ev_c_219_1, decode prog_10_method_19_code q.1 = .ok (q.2.1, q.2.2) := fd_rows (by decide +kernel)
def ev_c_219_2 : List (Nat × Instr × Nat) := [(66, .iconst 1, 1), (67, .goto 4, 3), (70, .iconst 0, 1), (71, .putfield 78, 3), (74, .aload_n 0, 1), (75, .getfield 78, 3), (78, .iconst 1, 1), (79, .if_icmp .ne 4, 3), (82, .return_, 1), (83, .aload_n 0, 1), (84, .aload_n 0, 1), (85, .getfield 72, 3), (88, .invokevirtual 81, 3), (91, .ifCond .eq 51, 3), (94, .aload_n 0, 1), (95, .aload_n 0, 1)]
set_option maxRecDepth 100000 in
theorem ev_d_219_2 : ∀ q ∈ ev_c_219_2, decode prog_10_method_19_code q.1 = .ok (q.2.1, q.2.2) := fd_rows (by decide +kernel)
def ev_c_219_3 : List (Nat × Instr × Nat) := [(96, .getfield 72, 3), (99, .invokevirtual 81, 3), (102, .ifCond .eq 16, 3), (105, .aload_n 0, 1), (106, .dup, 1), (107, .getfield 72, 3), (110, .iconst 1, 1), (111, .iadd, 1), (112, .putfield 72, 3), (115, .goto (-21), 3), (118, .aload_n 0, 1), (119, .aload_n 0, 1), (120, .getfield 72, 3), (123, .aload_n 0, 1), (124, .getfield 75, 3), (127, .isub, 1)]
set_option maxRecDepth 100000 in
theorem ev_d_219_3 : ∀ q ∈ ev_c_219_3, decode prog_10_method_19_code q.1 = .ok (q.2.1, q.2.2) := fd_rows (by decide +kernel)
def ev_c_219_4 : List (Nat × Instr × Nat) := [(128, .bipush 6, 2), (130, .if_icmp .gt 7, 3), (133, .iconst 2, 1), (134, .goto 4, 3), (137, .iconst 0, 1), (138, .putfield 78, 3), (141, .return_, 1), (142, .aload_n 0, 1), (143, .aload_n 0, 1), (144, .getfield 72, 3), (147, .invokevirtual 85, 3), (150, .ifCond .eq 92, 3), (153, .aload_n 0, 1), (154, .iconst 0, 1), (155, .putfield 88, 3), (158, .aload_n 0, 1), (159, .aload_n 0, 1)]
set_option maxRecDepth 100000 in
theorem ev_d_219_4 : ∀ q ∈ ev_c_219_4, decode prog_10_method_19_code q.1 = .ok (q.2.1, q.2.2) := fd_rows (by decide +kernel)
def ev_c_219_5 : List (Nat × Instr × Nat) := [(160, .getfield 72, 3), (163, .invokevirtual 85, 3), (166, .ifCond .eq 53, 3), (169, .aload_n 0, 1), (170, .getfield 72, 3), (173, .aload_n 0, 1), (174, .getfield 75, 3), (177, .isub, 1), (178, .iconst 2, 1), (179, .if_icmp .ge 27, 3), (182, .aload_n 0, 1), (183, .bipush 10, 2), (185, .aload_n 0, 1), (186, .getfield 88, 3), (189, .imul, 1), (190, .aload_n 0, 1), (191, .getfield 26, 3)]
set_option maxRecDepth 100000 in
theorem ev_d_219_5 : ∀ q ∈ ev_c_219_5, decode prog_10_method_19_code q.1 = .ok (q.2.1, q.2.2) := fd_rows (by decide +kernel)
def ev_c_219_6 : List (Nat × Instr × Nat) := [(194, .aload_n 0, 1), (195, .getfield 72, 3), (198, .baload, 1), (199, .iadd, 1), (200, .bipush 48, 2), (202, .isub, 1), (203, .putfield 88, 3), (206, .aload_n 0, 1), (207, .dup, 1), (208, .getfield 72, 3), (211, .iconst 1, 1), (212, .iadd, 1), (213, .putfield 72, 3), (216, .goto (-58), 3), (219, .aload_n 0, 1), (220, .aload_n 0, 1), (221, .getfield 72, 3)]
set_option maxRecDepth 100000 in
theorem ev_d_219_6 : ∀ q ∈ ev_c_219_6, decode prog_10_method_19_code q.1 = .ok (q.2.1, q.2.2) := fd_rows (by decide +kernel)
def ev_c_219_7 : List (Nat × Instr × Nat) := [(224, .aload_n 0, 1), (225, .getfield 75, 3), (228, .isub, 1), (229, .iconst 2, 1), (230, .if_icmp .gt 7, 3), (233, .iconst 3, 1), (234, .goto 4, 3), (237, .iconst 0, 1), (238, .putfield 78, 3), (241, .return_, 1), (242, .aload_n 0, 1), (243, .aload_n 0, 1), (244, .getfield 26, 3), (247, .aload_n 0, 1), (248, .getfield 72, 3), (251, .baload, 1), (252, .bipush 59, 2), (254, .if_icmp .ne 7, 3)]
set_option maxRecDepth 100000 in
theorem ev_d_219_7 : ∀ q ∈ ev_c_219_7, decode prog_10_method_19_code q.1 = .ok (q.2.1, q.2.2) := fd_rows (by decide +kernel)
def ev_c_219_8 : List (Nat × Instr × Nat) := [(257, .iconst 4, 1), (258, .goto 4, 3), (261, .iconst 0, 1), (262, .putfield 78, 3), (265, .aload_n 0, 1), (266, .dup, 1), (267, .getfield 72, 3), (270, .iconst 1, 1), (271, .iadd, 1), (272, .putfield 72, 3), (275, .return_, 1)]
set_option maxRecDepth 100000 in
theorem ev_d_219_8 : ∀ q ∈ ev_c_219_8, decode prog_10_method_19_code q.1 = .ok (q.2.1, q.2.2) := fd_rows (by decide +kernel)
def ev_c_219 : List (Nat × List (Nat × Instr × Nat)) := [(0, ev_c_219_0), (1, ev_c_219_1), (2, ev_c_219_2), (3, ev_c_219_3), (4, ev_c_219_4), (5, ev_c_219_5), (6, ev_c_219_6), (7, ev_c_219_7), (8, ev_c_219_8)]
set_option maxRecDepth 100000 in
theorem ev_d_219 : ∀ q ∈ ev_c_219, ∀ z ∈ q.2, decode prog_10_method_19_code z.1 = .ok (z.2.1, z.2.2) := List.forall_mem_cons.mpr ⟨ev_d_219_0, List.forall_mem_cons.mpr ⟨ev_d_219_1, List.forall_mem_cons.mpr ⟨ev_d_219_2, List.forall_mem_cons.mpr ⟨ev_d_219_3, List.forall_mem_cons.mpr ⟨ev_d_219_4, List.forall_mem_cons.mpr ⟨ev_d_219_5, List.forall_mem_cons.mpr ⟨ev_d_219_6, List.forall_mem_cons.mpr ⟨ev_d_219_7, List.forall_mem_cons.mpr ⟨ev_d_219_8, fun _ h => absurd h List.not_mem_nil⟩⟩⟩⟩⟩⟩⟩⟩⟩
def ev_c_220_0 : List (Nat × Instr × Nat) := [(0, .aload_n 0, 1), (1, .getfield 62, 3), (4, .ifCond .le 4, 3), (7, .return_, 1), (8, .aload_n 0, 1), (9, .iload_n 1, 1), (10, .putfield 62, 3), (13, .aload_n 0, 1), (14, .aload_n 0, 1), (15, .getfield 75, 3), (18, .putfield 30, 3), (21, .return_, 1)]
set_option maxRecDepth 100000 in
theorem ev_d_220_0 : ∀ q ∈ ev_c_220_0, decode prog_10_method_20_code q.1 = .ok (q.2.1, q.2.2) := fd_rows (by decide +kernel)
def ev_c_220 : List (Nat × List (Nat × Instr × Nat)) := [(0, ev_c_220_0)]
set_option maxRecDepth 100000 in
theorem ev_d_220 : ∀ q ∈ ev_c_220, ∀ z ∈ q.2, decode prog_10_method_20_code z.1 = .ok (z.2.1, z.2.2) := List.forall_mem_cons.mpr ⟨ev_d_220_0, fun _ h => absurd h List.not_mem_nil⟩
def ev_c_221_0 : List (Nat × Instr × Nat) := [(0, .aload_n 0, 1), (1, .getfield 62, 3), (4, .ifCond .ne 15, 3), (7, .aload_n 0, 1), (8, .getfield 78, 3), (11, .iload_n 1, 1), (12, .if_icmp .ne 7, 3), (15, .iconst 1, 1), (16, .goto 4, 3), (19, .iconst 0, 1), (20, .ireturn, 1)]
set_option maxRecDepth 100000 in
theorem ev_d_221_0 : ∀ q ∈ ev_c_221_0, decode prog_10_method_21_code q.1 = .ok (q.2.1, q.2.2) := fd_rows (by decide +kernel)
def ev_c_221 : List (Nat × List (Nat × Instr × Nat)) := [(0, ev_c_221_0)]
set_option maxRecDepth 100000 in
theorem ev_d_221 : ∀ q ∈ ev_c_221, ∀ z ∈ q.2, decode prog_10_method_21_code z.1 = .ok (z.2.1, z.2.2) := List.forall_mem_cons.mpr ⟨ev_d_221_0, fun _ h => absurd h List.not_mem_nil⟩
def ev_c_222_0 : List (Nat × Instr × Nat) := [(0, .aload_n 0, 1), (1, .iconst 2, 1), (2, .invokevirtual 91, 3), (5, .ifCond .eq 19, 3), (8, .aload_n 0, 1), (9, .getfield 72, 3), (12, .aload_n 0, 1), (13, .getfield 75, 3), (16, .isub, 1), (17, .aload_n 1, 1), (18, .invokevirtual 94, 3), (21, .if_icmp .eq 5, 3), (24, .iconst 0, 1), (25, .ireturn, 1), (26, .iconst 0, 1), (27, .istore_n 2, 1), (28, .iload_n 2, 1), (29, .aload_n 1, 1), (30, .invokevirtual 94, 3)]
set_option maxRecDepth 100000 in
theorem ev_d_222_0 : ∀ q ∈ ev_c_222_0, decode prog_10_method_22_code q.1 = .ok (q.2.1, q.2.2) := fd_rows (by decide +kernel)
def ev_c_222_1 : List (Nat × Instr × Nat) := [(33, .if_icmp .ge 30, 3), (36, .aload_n 0, 1), (37, .getfield 26, 3), (40, .aload_n 0, 1), (41, .getfield 75, 3), (44, .iload_n 2, 1), (45, .iadd, 1), (46, .baload, 1), (47, .aload_n 1, 1), (48, .iload_n 2, 1), (49, .invokevirtual 100, 3), (52, .if_icmp .eq 5, 3), (55, .iconst 0, 1), (56, .ireturn, 1), (57, .iinc 2 1, 3), (60, .goto (-32), 3), (63, .iconst 1, 1)]
set_option maxRecDepth 100000 in
theorem ev_d_222_1 : ∀ q ∈ ev_c_222_1, decode prog_10_method_22_code q.1 = .ok (q.2.1, q.2.2) := fd_rows (by decide +kernel)
def ev_c_222_2 : List (Nat × Instr × Nat) := [(64, .ireturn, 1)]
set_option maxRecDepth 100000 in
theorem ev_d_222_2 : ∀ q ∈ ev_c_222_2, decode prog_10_method_22_code q.1 = .ok (q.2.1, q.2.2) := fd_rows (by decide +kernel)
def ev_c_222 : List (Nat × List (Nat × Instr × Nat)) := [(0, ev_c_222_0), (1, ev_c_222_1), (2, ev_c_222_2)]
set_option maxRecDepth 100000 in
theorem ev_d_222 : ∀ q ∈ ev_c_222, ∀ z ∈ q.2, decode prog_10_method_22_code z.1 = .ok (z.2.1, z.2.2) := List.forall_mem_cons.mpr ⟨ev_d_222_0, List.forall_mem_cons.mpr ⟨ev_d_222_1, List.forall_mem_cons.mpr ⟨ev_d_222_2, fun _ h => absurd h List.not_mem_nil⟩⟩⟩
def ev_c_223_0 : List (Nat × Instr × Nat) := [(0, .aload_n 0, 1), (1, .iconst 3, 1), (2, .invokevirtual 91, 3), (5, .ifCond .ne 11, 3), (8, .aload_n 0, 1), (9, .iconst 1, 1), (10, .invokevirtual 104, 3), (13, .goto 20, 3), (16, .aload_n 0, 1), (17, .getfield 88, 3), (20, .iload_n 1, 1), (21, .iload_n 2, 1), (22, .invokestatic 68, 3), (25, .ifCond .ne 8, 3), (28, .aload_n 0, 1), (29, .iconst 2, 1), (30, .invokevirtual 104, 3)]
set_option maxRecDepth 100000 in
theorem ev_d_223_0 : ∀ q ∈ ev_c_223_0, decode prog_10_method_23_code q.1 = .ok (q.2.1, q.2.2) := fd_rows (by decide +kernel)
def ev_c_223_1 : List (Nat × Instr × Nat) := [(33, .aload_n 0, 1), (34, .getfield 62, 3), (37, .ifCond .le 7, 3), (40, .iload_n 1, 1), (41, .goto 7, 3), (44, .aload_n 0, 1), (45, .getfield 88, 3), (48, .ireturn, 1)]
set_option maxRecDepth 100000 in
theorem ev_d_223_1 : ∀ q ∈ ev_c_223_1, decode prog_10_method_23_code q.1 = .ok (q.2.1, q.2.2) := fd_rows (by decide +kernel)
def ev_c_223 : List (Nat × List (Nat × Instr × Nat)) := [(0, ev_c_223_0), (1, ev_c_223_1)]
set_option maxRecDepth 100000 in
theorem ev_d_223 : ∀ q ∈ ev_c_223, ∀ z ∈ q.2, decode prog_10_method_23_code z.1 = .ok (z.2.1, z.2.2) := List.forall_mem_cons.mpr ⟨ev_d_223_0, List.forall_mem_cons.mpr ⟨ev_d_223_1, fun _ h => absurd h List.not_mem_nil⟩⟩
def ev_c_224_0 : List (Nat × Instr × Nat) := [(0, .aload_n 0, 1), (1, .iload_n 1, 1), (2, .iload_n 2, 1), (3, .invokevirtual 107, 3), (6, .istore_n 3, 1), (7, .aload_n 0, 1), (8, .invokevirtual 111, 3), (11, .iload_n 3, 1), (12, .ireturn, 1)]
set_option maxRecDepth 100000 in
theorem ev_d_224_0 : ∀ q ∈ ev_c_224_0, decode prog_10_method_24_code q.1 = .ok (q.2.1, q.2.2) := fd_rows (by decide +kernel)
def ev_c_224 : List (Nat × List (Nat × Instr × Nat)) := [(0, ev_c_224_0)]
set_option maxRecDepth 100000 in
theorem ev_d_224 : ∀ q ∈ ev_c_224, ∀ z ∈ q.2, decode prog_10_method_24_code z.1 = .ok (z.2.1, z.2.2) := List.forall_mem_cons.mpr ⟨ev_d_224_0, fun _ h => absurd h List.not_mem_nil⟩
def ev_c_225_0 : List (Nat × Instr × Nat) := [(0, .aload_n 0, 1), (1, .getfield 9, 3), (4, .iload_n 1, 1), (5, .iaload, 1), (6, .iload_n 2, 1), (7, .if_icmp .ne 8, 3), (10, .aload_n 0, 1), (11, .iconst 4, 1), (12, .invokevirtual 104, 3), (15, .aload_n 0, 1), (16, .invokevirtual 111, 3), (19, .return_, 1)]
set_option maxRecDepth 100000 in
theorem ev_d_225_0 : ∀ q ∈ ev_c_225_0, decode prog_10_method_25_code q.1 = .ok (q.2.1, q.2.2) := fd_rows (by decide +kernel)
def ev_c_225 : List (Nat × List (Nat × Instr × Nat)) := [(0, ev_c_225_0)]
set_option maxRecDepth 100000 in
theorem ev_d_225 : ∀ q ∈ ev_c_225, ∀ z ∈ q.2, decode prog_10_method_25_code z.1 = .ok (z.2.1, z.2.2) := List.forall_mem_cons.mpr ⟨ev_d_225_0, fun _ h => absurd h List.not_mem_nil⟩
def ev_c_226_0 : List (Nat × Instr × Nat) := [(0, .aload_n 0, 1), (1, .bipush 6, 2), (3, .bipush 6, 2), (5, .invokevirtual 114, 3), (8, .aload_n 0, 1), (9, .iconst 0, 1), (10, .iconst 4, 1), (11, .invokevirtual 118, 3), (14, .istore_n 1, 1), (15, .aload_n 0, 1), (16, .getfield 62, 3), (19, .ifCond .le 4, 3), (22, .return_, 1), (23, .aload_n 0, 1), (24, .getfield 9, 3), (27, .bipush 12, 2), (29, .aload_n 0, 1), (30, .getfield 9, 3)]
set_option maxRecDepth 100000 in
theorem ev_d_226_0 : ∀ q ∈ ev_c_226_0, decode prog_10_method_26_code q.1 = .ok (q.2.1, q.2.2) := fd_rows (by decide +kernel)
def ev_c_226_1 : List (Nat × Instr × Nat) := [(33, .bipush 6, 2), (35, .iaload, 1), (36, .iadd, 1), (37, .iload_n 1, 1), (38, .iastore, 1), (39, .aload_n 0, 1), (40, .getfield 9, 3), (43, .bipush 6, 2), (45, .dup2, 1), (46, .iaload, 1), (47, .iconst 1, 1), (48, .iadd, 1), (49, .iastore, 1), (50, .return_, 1)]
set_option maxRecDepth 100000 in
theorem ev_d_226_1 : ∀ q ∈ ev_c_226_1, decode prog_10_method_26_code q.1 = .ok (q.2.1, q.2.2) := fd_rows (by decide +kernel)
def ev_c_226 : List (Nat × List (Nat × Instr × Nat)) := [(0, ev_c_226_0), (1, ev_c_226_1)]
set_option maxRecDepth 100000 in
theorem ev_d_226 : ∀ q ∈ ev_c_226, ∀ z ∈ q.2, decode prog_10_method_26_code z.1 = .ok (z.2.1, z.2.2) := List.forall_mem_cons.mpr ⟨ev_d_226_0, List.forall_mem_cons.mpr ⟨ev_d_226_1, fun _ h => absurd h List.not_mem_nil⟩⟩
def ev_c_227_0 : List (Nat × Instr × Nat) := [(0, .aload_n 0, 1), (1, .bipush 7, 2), (3, .iconst 4, 1), (4, .invokevirtual 114, 3), (7, .aload_n 0, 1), (8, .iconst 0, 1), (9, .bipush 99, 2), (11, .invokevirtual 118, 3), (14, .istore_n 1, 1), (15, .aload_n 0, 1), (16, .iconst 1, 1), (17, .bipush 99, 2), (19, .invokevirtual 118, 3), (22, .istore_n 2, 1), (23, .aload_n 0, 1), (24, .iconst 0, 1), (25, .bipush 9, 2), (27, .invokevirtual 118, 3), (30, .istore_n 3, 1), (31, .aload_n 0, 1)]
set_option maxRecDepth 100000 in
theorem ev_d_227_0 : ∀ q ∈ ev_c_227_0, decode prog_10_method_27_code q.1 = .ok (q.2.1, q.2.2) := fd_rows (by decide +kernel)
def ev_c_227_1 : List (Nat × Instr × Nat) := [(32, .getfield 62, 3), (35, .ifCond .le 4, 3), (38, .return_, 1), (39, .aload_n 0, 1), (40, .getfield 9, 3), (43, .bipush 7, 2), (45, .iaload, 1), (46, .istore 4, 2), (48, .aload_n 0, 1), (49, .iload 4, 2), (51, .iconst 0, 1), (52, .iload_n 1, 1), (53, .invokevirtual 121, 3), (56, .aload_n 0, 1), (57, .iload 4, 2), (59, .iconst 1, 1), (60, .iload_n 2, 1), (61, .invokevirtual 121, 3)]
set_option maxRecDepth 100000 in
theorem ev_d_227_1 : ∀ q ∈ ev_c_227_1, decode prog_10_method_27_code q.1 = .ok (q.2.1, q.2.2) := fd_rows (by decide +kernel)
def ev_c_227_2 : List (Nat × Instr × Nat) := [(64, .aload_n 0, 1), (65, .iload 4, 2), (67, .iconst 2, 1), (68, .iload_n 3, 1), (69, .invokevirtual 121, 3), (72, .aload_n 0, 1), (73, .getfield 9, 3), (76, .bipush 7, 2), (78, .dup2, 1), (79, .iaload, 1), (80, .iconst 1, 1), (81, .iadd, 1), (82, .iastore, 1), (83, .return_, 1)]
set_option maxRecDepth 100000 in
theorem ev_d_227_2 : ∀ q ∈ ev_c_227_2, decode prog_10_method_27_code q.1 = .ok (q.2.1, q.2.2) := fd_rows (by decide +kernel)
def ev_c_227 : List (Nat × List (Nat × Instr × Nat)) := [(0, ev_c_227_0), (1, ev_c_227_1), (2, ev_c_227_2)]
set_option maxRecDepth 100000 in
theorem ev_d_227 : ∀ q ∈ ev_c_227, ∀ z ∈ q.2, decode prog_10_method_27_code z.1 = .ok (z.2.1, z.2.2) := List.forall_mem_cons.mpr ⟨ev_d_227_0, List.forall_mem_cons.mpr ⟨ev_d_227_1, List.forall_mem_cons.mpr ⟨ev_d_227_2, fun _ h => absurd h List.not_mem_nil⟩⟩⟩
def ev_c_228_0 : List (Nat × Instr × Nat) := [(0, .aload_n 0, 1), (1, .bipush 8, 2), (3, .iconst 3, 1), (4, .invokevirtual 114, 3), (7, .aload_n 0, 1), (8, .iconst 1, 1), (9, .bipush 6, 2), (11, .invokevirtual 118, 3), (14, .istore_n 1, 1), (15, .aload_n 0, 1), (16, .getfield 62, 3), (19, .ifCond .le 4, 3), (22, .return_, 1), (23, .aload_n 0, 1), (24, .getfield 9, 3), (27, .bipush 38, 2), (29, .aload_n 0, 1), (30, .getfield 9, 3)]
set_option maxRecDepth 100000 in
theorem ev_d_228_0 : ∀ q ∈ ev_c_228_0, decode prog_10_method_28_code q.1 = .ok (q.2.1, q.2.2) := fd_rows (by decide +kernel)
def ev_c_228_1 : List (Nat × Instr × Nat) := [(33, .bipush 8, 2), (35, .iaload, 1), (36, .iadd, 1), (37, .iload_n 1, 1), (38, .iastore, 1), (39, .aload_n 0, 1), (40, .getfield 9, 3), (43, .bipush 8, 2), (45, .dup2, 1), (46, .iaload, 1), (47, .iconst 1, 1), (48, .iadd, 1), (49, .iastore, 1), (50, .return_, 1)]
set_option maxRecDepth 100000 in
theorem ev_d_228_1 : ∀ q ∈ ev_c_228_1, decode prog_10_method_28_code q.1 = .ok (q.2.1, q.2.2) := fd_rows (by decide +kernel)
def ev_c_228 : List (Nat × List (Nat × Instr × Nat)) := [(0, ev_c_228_0), (1, ev_c_228_1)]
set_option maxRecDepth 100000 in
theorem ev_d_228 : ∀ q ∈ ev_c_228, ∀ z ∈ q.2, decode prog_10_method_28_code z.1 = .ok (z.2.1, z.2.2) := List.forall_mem_cons.mpr ⟨ev_d_228_0, List.forall_mem_cons.mpr ⟨ev_d_228_1, fun _ h => absurd h List.not_mem_nil⟩⟩
def ev_c_229_0 : List (Nat × Instr × Nat) := [(0, .aload_n 0, 1), (1, .iconst 0, 1), (2, .aload_n 0, 1), (3, .getfield 9, 3), (6, .bipush 6, 2), (8, .iaload, 1), (9, .iconst 1, 1), (10, .isub, 1), (11, .invokevirtual 107, 3), (14, .istore_n 2, 1), (15, .aload_n 0, 1), (16, .getfield 62, 3), (19, .ifCond .ne 16, 3), (22, .iload_n 1, 1), (23, .iload_n 2, 1), (24, .invokestatic 125, 3), (27, .ifCond .eq 8, 3), (30, .aload_n 0, 1), (31, .iconst 3, 1)]
set_option maxRecDepth 100000 in
theorem ev_d_229_0 : ∀ q ∈ ev_c_229_0, decode prog_10_method_29_code q.1 = .ok (q.2.1, q.2.2) := fd_rows (by decide +kernel)
def ev_c_229_1 : List (Nat × Instr × Nat) := [(32, .invokevirtual 104, 3), (35, .aload_n 0, 1), (36, .invokevirtual 111, 3), (39, .aload_n 0, 1), (40, .getfield 62, 3), (43, .ifCond .le 7, 3), (46, .iload_n 1, 1), (47, .goto 8, 3), (50, .iload_n 1, 1), (51, .iconst 1, 1), (52, .iload_n 2, 1), (53, .ishl, 1), (54, .ior, 1), (55, .ireturn, 1)]
set_option maxRecDepth 100000 in
theorem ev_d_229_1 : ∀ q ∈ ev_c_229_1, decode prog_10_method_29_code q.1 = .ok (q.2.1, q.2.2) := fd_rows (by decide +kernel)
def ev_c_229 : List (Nat × List (Nat × Instr × Nat)) := [(0, ev_c_229_0), (1, ev_c_229_1)]
set_option maxRecDepth 100000 in
theorem ev_d_229 : ∀ q ∈ ev_c_229, ∀ z ∈ q.2, decode prog_10_method_29_code z.1 = .ok (z.2.1, z.2.2) := List.forall_mem_cons.mpr ⟨ev_d_229_0, List.forall_mem_cons.mpr ⟨ev_d_229_1, fun _ h => absurd h List.not_mem_nil⟩⟩
def ev_c_230_0 : List (Nat × Instr × Nat) := [(0, .aload_n 0, 1), (1, .bipush 10, 2), (3, .bipush 12, 2), (5, .invokevirtual 114, 3), (8, .aload_n 0, 1), (9, .iconst 0, 1), (10, .aload_n 0, 1), (11, .getfield 9, 3), (14, .bipush 7, 2), (16, .iaload, 1), (17, .iconst 1, 1), (18, .isub, 1), (19, .invokevirtual 118, 3), (22, .istore_n 1, 1), (23, .aload_n 0, 1), (24, .iconst 0, 1), (25, .iconst 3, 1), (26, .invokevirtual 118, 3), (29, .istore_n 2, 1), (30, .aload_n 0, 1), (31, .iconst 0, 1)]
set_option maxRecDepth 100000 in
theorem ev_d_230_0 : ∀ q ∈ ev_c_230_0, decode prog_10_method_30_code q.1 = .ok (q.2.1, q.2.2) := fd_rows (by decide +kernel)
def ev_c_230_1 : List (Nat × Instr × Nat) := [(32, .bipush 9, 2), (34, .invokevirtual 118, 3), (37, .istore_n 3, 1), (38, .aload_n 0, 1), (39, .iconst 0, 1), (40, .invokevirtual 129, 3), (43, .istore 4, 2), (45, .aload_n 0, 1), (46, .iconst 3, 1), (47, .invokevirtual 91, 3), (50, .ifCond .eq 14, 3), (53, .aload_n 0, 1), (54, .iload 4, 2), (56, .invokevirtual 129, 3), (59, .istore 4, 2), (61, .goto (-16), 3)]
set_option maxRecDepth 100000 in
theorem ev_d_230_1 : ∀ q ∈ ev_c_230_1, decode prog_10_method_30_code q.1 = .ok (q.2.1, q.2.2) := fd_rows (by decide +kernel)
def ev_c_230_2 : List (Nat × Instr × Nat) := [(64, .aload_n 0, 1), (65, .getfield 62, 3), (68, .ifCond .ne 13, 3), (71, .aload_n 0, 1), (72, .iload_n 1, 1), (73, .iload 4, 2), (75, .iload_n 2, 1), (76, .iload_n 3, 1), (77, .invokevirtual 133, 3), (80, .pop, 1), (81, .return_, 1)]
set_option maxRecDepth 100000 in
theorem ev_d_230_2 : ∀ q ∈ ev_c_230_2, decode prog_10_method_30_code q.1 = .ok (q.2.1, q.2.2) := fd_rows (by decide +kernel)
def ev_c_230 : List (Nat × List (Nat × Instr × Nat)) := [(0, ev_c_230_0), (1, ev_c_230_1), (2, ev_c_230_2)]
set_option maxRecDepth 100000 in
theorem ev_d_230 : ∀ q ∈ ev_c_230, ∀ z ∈ q.2, decode prog_10_method_30_code z.1 = .ok (z.2.1, z.2.2) := List.forall_mem_cons.mpr ⟨ev_d_230_0, List.forall_mem_cons.mpr ⟨ev_d_230_1, List.forall_mem_cons.mpr ⟨ev_d_230_2, fun _ h => absurd h List.not_mem_nil⟩⟩⟩
def ev_c_231_0 : List (Nat × Instr × Nat) := [(0, .aload_n 0, 1), (1, .invokevirtual 111, 3), (4, .aload_n 0, 1), (5, .iconst 0, 1), (6, .aload_n 0, 1), (7, .getfield 9, 3), (10, .bipush 10, 2), (12, .iaload, 1), (13, .iconst 1, 1), (14, .isub, 1), (15, .invokevirtual 118, 3), (18, .istore_n 1, 1), (19, .aload_n 0, 1), (20, .iconst 0, 1), (21, .aload_n 0, 1), (22, .getfield 9, 3), (25, .bipush 8, 2), (27, .iaload, 1), (28, .iconst 1, 1), (29, .isub, 1), (30, .invokevirtual 107, 3)]
set_option maxRecDepth 100000 in
theorem ev_d_231_0 : ∀ q ∈ ev_c_231_0, decode prog_10_method_31_code q.1 = .ok (q.2.1, q.2.2) := fd_rows (by decide +kernel)
def ev_c_231_1 : List (Nat × Instr × Nat) := [(33, .istore_n 2, 1), (34, .aload_n 0, 1), (35, .getfield 62, 3), (38, .ifCond .ne 17, 3), (41, .aload_n 0, 1), (42, .iload_n 1, 1), (43, .iload_n 2, 1), (44, .invokevirtual 137, 3), (47, .ifCond .eq 8, 3), (50, .aload_n 0, 1), (51, .iconst 3, 1), (52, .invokevirtual 104, 3), (55, .aload_n 0, 1), (56, .getfield 62, 3), (59, .ifCond .ne 9, 3), (62, .aload_n 0, 1), (63, .iload_n 1, 1)]
set_option maxRecDepth 100000 in
theorem ev_d_231_1 : ∀ q ∈ ev_c_231_1, decode prog_10_method_31_code q.1 = .ok (q.2.1, q.2.2) := fd_rows (by decide +kernel)
def ev_c_231_2 : List (Nat × Instr × Nat) := [(64, .iload_n 2, 1), (65, .invokevirtual 140, 3), (68, .aload_n 0, 1), (69, .invokevirtual 111, 3), (72, .return_, 1)]
set_option maxRecDepth 100000 in
theorem ev_d_231_2 : ∀ q ∈ ev_c_231_2, decode prog_10_method_31_code q.1 = .ok (q.2.1, q.2.2) := fd_rows (by decide +kernel)
def ev_c_231 : List (Nat × List (Nat × Instr × Nat)) := [(0, ev_c_231_0), (1, ev_c_231_1), (2, ev_c_231_2)]
set_option maxRecDepth 100000 in
theorem ev_d_231 : ∀ q ∈ ev_c_231, ∀ z ∈ q.2, decode prog_10_method_31_code z.1 = .ok (z.2.1, z.2.2) := List.forall_mem_cons.mpr ⟨ev_d_231_0, List.forall_mem_cons.mpr ⟨ev_d_231_1, List.forall_mem_cons.mpr ⟨ev_d_231_2, fun _ h => absurd h List.not_mem_nil⟩⟩⟩
def ev_c_232_0 : List (Nat × Instr × Nat) := [(0, .aload_n 0, 1), (1, .invokevirtual 111, 3), (4, .aload_n 0, 1), (5, .iconst 0, 1), (6, .aload_n 0, 1), (7, .getfield 9, 3), (10, .bipush 8, 2), (12, .iaload, 1), (13, .iconst 1, 1), (14, .isub, 1), (15, .invokevirtual 118, 3), (18, .istore_n 1, 1), (19, .aload_n 0, 1), (20, .iconst 0, 1), (21, .iconst 3, 1), (22, .invokevirtual 107, 3), (25, .istore_n 2, 1), (26, .aload_n 0, 1), (27, .getfield 62, 3), (30, .ifCond .ne 17, 3)]
set_option maxRecDepth 100000 in
theorem ev_d_232_0 : ∀ q ∈ ev_c_232_0, decode prog_10_method_32_code q.1 = .ok (q.2.1, q.2.2) := fd_rows (by decide +kernel)
def ev_c_232_1 : List (Nat × Instr × Nat) := [(33, .aload_n 0, 1), (34, .iload_n 1, 1), (35, .iload_n 2, 1), (36, .invokevirtual 143, 3), (39, .ifCond .eq 8, 3), (42, .aload_n 0, 1), (43, .iconst 3, 1), (44, .invokevirtual 104, 3), (47, .aload_n 0, 1), (48, .getfield 62, 3), (51, .ifCond .le 4, 3), (54, .return_, 1), (55, .aload_n 0, 1), (56, .iload_n 1, 1), (57, .iload_n 2, 1), (58, .invokevirtual 146, 3), (61, .istore_n 3, 1), (62, .aload_n 0, 1), (63, .invokevirtual 111, 3)]
set_option maxRecDepth 100000 in
theorem ev_d_232_1 : ∀ q ∈ ev_c_232_1, decode prog_10_method_32_code q.1 = .ok (q.2.1, q.2.2) := fd_rows (by decide +kernel)
def ev_c_232_2 : List (Nat × Instr × Nat) := [(66, .return_, 1)]
set_option maxRecDepth 100000 in
theorem ev_d_232_2 : ∀ q ∈ ev_c_232_2, decode prog_10_method_32_code q.1 = .ok (q.2.1, q.2.2) := fd_rows (by decide +kernel)
def ev_c_232 : List (Nat × List (Nat × Instr × Nat)) := [(0, ev_c_232_0), (1, ev_c_232_1), (2, ev_c_232_2)]
set_option maxRecDepth 100000 in
theorem ev_d_232 : ∀ q ∈ ev_c_232, ∀ z ∈ q.2, decode prog_10_method_32_code z.1 = .ok (z.2.1, z.2.2) := List.forall_mem_cons.mpr ⟨ev_d_232_0, List.forall_mem_cons.mpr ⟨ev_d_232_1, List.forall_mem_cons.mpr ⟨ev_d_232_2, fun _ h => absurd h List.not_mem_nil⟩⟩⟩
def ev_c_233_0 : List (Nat × Instr × Nat) := [(0, .aload_n 0, 1), (1, .invokevirtual 111, 3), (4, .aload_n 0, 1), (5, .iconst 0, 1), (6, .aload_n 0, 1), (7, .getfield 9, 3), (10, .bipush 10, 2), (12, .iaload, 1), (13, .iconst 1, 1), (14, .isub, 1), (15, .invokevirtual 107, 3), (18, .istore_n 1, 1), (19, .aload_n 0, 1), (20, .getfield 62, 3), (23, .ifCond .ne 16, 3), (26, .aload_n 0, 1), (27, .iload_n 1, 1), (28, .invokevirtual 149, 3), (31, .ifCond .ne 8, 3)]
set_option maxRecDepth 100000 in
theorem ev_d_233_0 : ∀ q ∈ ev_c_233_0, decode prog_10_method_33_code q.1 = .ok (q.2.1, q.2.2) := fd_rows (by decide +kernel)
def ev_c_233_1 : List (Nat × Instr × Nat) := [(34, .aload_n 0, 1), (35, .iconst 3, 1), (36, .invokevirtual 104, 3), (39, .aload_n 0, 1), (40, .getfield 62, 3), (43, .ifCond .ne 8, 3), (46, .aload_n 0, 1), (47, .iload_n 1, 1), (48, .invokevirtual 152, 3), (51, .aload_n 0, 1), (52, .invokevirtual 111, 3), (55, .return_, 1)]
set_option maxRecDepth 100000 in
theorem ev_d_233_1 : ∀ q ∈ ev_c_233_1, decode prog_10_method_33_code q.1 = .ok (q.2.1, q.2.2) := fd_rows (by decide +kernel)
def ev_c_233 : List (Nat × List (Nat × Instr × Nat)) := [(0, ev_c_233_0), (1, ev_c_233_1)]
set_option maxRecDepth 100000 in
theorem ev_d_233 : ∀ q ∈ ev_c_233, ∀ z ∈ q.2, decode prog_10_method_33_code z.1 = .ok (z.2.1, z.2.2) := List.forall_mem_cons.mpr ⟨ev_d_233_0, List.forall_mem_cons.mpr ⟨ev_d_233_1, fun _ h => absurd h List.not_mem_nil⟩⟩
def ev_c_234_0 : List (Nat × Instr × Nat) := [(0, .aload_n 0, 1), (1, .invokevirtual 111, 3), (4, .aload_n 0, 1), (5, .iconst 0, 1), (6, .bipush 9, 2), (8, .invokevirtual 118, 3), (11, .istore_n 1, 1), (12, .aload_n 0, 1), (13, .getfield 62, 3), (16, .ifCond .ne 10, 3), (19, .aload_n 0, 1), (20, .getfield 9, 3), (23, .iconst 1, 1), (24, .iload_n 1, 1), (25, .iastore, 1), (26, .return_, 1)]
set_option maxRecDepth 100000 in
theorem ev_d_234_0 : ∀ q ∈ ev_c_234_0, decode prog_10_method_34_code q.1 = .ok (q.2.1, q.2.2) := fd_rows (by decide +kernel)
def ev_c_234 : List (Nat × List (Nat × Instr × Nat)) := [(0, ev_c_234_0)]
set_option maxRecDepth 100000 in
theorem ev_d_234 : ∀ q ∈ ev_c_234, ∀ z ∈ q.2, decode prog_10_method_34_code z.1 = .ok (z.2.1, z.2.2) := List.forall_mem_cons.mpr ⟨ev_d_234_0, fun _ h => absurd h List.not_mem_nil⟩
def ev_c_235_0 : List (Nat × Instr × Nat) := [(0, .aload_n 0, 1), (1, .invokevirtual 111, 3), (4, .aload_n 0, 1), (5, .iconst 1, 1), (6, .bipush 50, 2), (8, .invokevirtual 118, 3), (11, .istore_n 1, 1), (12, .iconst 0, 1), (13, .istore_n 2, 1), (14, .iload_n 2, 1), (15, .iload_n 1, 1), (16, .if_icmp .ge 20, 3), (19, .aload_n 0, 1), (20, .getfield 62, 3), (23, .ifCond .ne 13, 3), (26, .aload_n 0, 1), (27, .invokevirtual 155, 3), (30, .iinc 2 1, 3)]
set_option maxRecDepth 100000 in
theorem ev_d_235_0 : ∀ q ∈ ev_c_235_0, decode prog_10_method_35_code q.1 = .ok (q.2.1, q.2.2) := fd_rows (by decide +kernel)
def ev_c_235_1 : List (Nat × Instr × Nat) := [(33, .goto (-19), 3), (36, .return_, 1)]
set_option maxRecDepth 100000 in
theorem ev_d_235_1 : ∀ q ∈ ev_c_235_1, decode prog_10_method_35_code q.1 = .ok (q.2.1, q.2.2) := fd_rows (by decide +kernel)
def ev_c_235 : List (Nat × List (Nat × Instr × Nat)) := [(0, ev_c_235_0), (1, ev_c_235_1)]
set_option maxRecDepth 100000 in
theorem ev_d_235 : ∀ q ∈ ev_c_235, ∀ z ∈ q.2, decode prog_10_method_35_code z.1 = .ok (z.2.1, z.2.2) := List.forall_mem_cons.mpr ⟨ev_d_235_0, List.forall_mem_cons.mpr ⟨ev_d_235_1, fun _ h => absurd h List.not_mem_nil⟩⟩
def ev_c_236_0 : List (Nat × Instr × Nat) := [(0, .aload_n 0, 1), (1, .ldc 158, 2), (3, .invokevirtual 160, 3), (6, .ifCond .eq 10, 3), (9, .aload_n 0, 1), (10, .invokevirtual 164, 3), (13, .goto 55, 3), (16, .aload_n 0, 1), (17, .ldc 167, 2), (19, .invokevirtual 160, 3), (22, .ifCond .eq 10, 3), (25, .aload_n 0, 1), (26, .invokevirtual 169, 3), (29, .goto 39, 3)]
set_option maxRecDepth 100000 in
theorem ev_d_236_0 : ∀ q ∈ ev_c_236_0, decode prog_10_method_36_code q.1 = .ok (q.2.1, q.2.2) := fd_rows (by decide +kernel)
def ev_c_236_1 : List (Nat × Instr × Nat) := [(32, .aload_n 0, 1), (33, .ldc 172, 2), (35, .invokevirtual 160, 3), (38, .ifCond .eq 10, 3), (41, .aload_n 0, 1), (42, .invokevirtual 174, 3), (45, .goto 23, 3), (48, .aload_n 0, 1), (49, .ldc 177, 2), (51, .invokevirtual 160, 3), (54, .ifCond .eq 10, 3), (57, .aload_n 0, 1), (58, .invokevirtual 179, 3), (61, .goto 7, 3)]
set_option maxRecDepth 100000 in
theorem ev_d_236_1 : ∀ q ∈ ev_c_236_1, decode prog_10_method_36_code q.1 = .ok (q.2.1, q.2.2) := fd_rows (by decide +kernel)
def ev_c_236_2 : List (Nat × Instr × Nat) := [(64, .aload_n 0, 1), (65, .invokevirtual 182, 3), (68, .return_, 1)]
set_option maxRecDepth 100000 in
theorem ev_d_236_2 : ∀ q ∈ ev_c_236_2, decode prog_10_method_36_code q.1 = .ok (q.2.1, q.2.2) := fd_rows (by decide +kernel)
def ev_c_236 : List (Nat × List (Nat × Instr × Nat)) := [(0, ev_c_236_0), (1, ev_c_236_1), (2, ev_c_236_2)]
set_option maxRecDepth 100000 in
theorem ev_d_236 : ∀ q ∈ ev_c_236, ∀ z ∈ q.2, decode prog_10_method_36_code z.1 = .ok (z.2.1, z.2.2) := List.forall_mem_cons.mpr ⟨ev_d_236_0, List.forall_mem_cons.mpr ⟨ev_d_236_1, List.forall_mem_cons.mpr ⟨ev_d_236_2, fun _ h => absurd h List.not_mem_nil⟩⟩⟩
def ev_c_237_0 : List (Nat × Instr × Nat) := [(0, .aload_n 0, 1), (1, .ldc 185, 2), (3, .invokevirtual 160, 3), (6, .ifCond .eq 10, 3), (9, .aload_n 0, 1), (10, .invokevirtual 187, 3), (13, .goto 72, 3), (16, .aload_n 0, 1), (17, .ldc 190, 2), (19, .invokevirtual 160, 3), (22, .ifCond .eq 10, 3), (25, .aload_n 0, 1), (26, .invokevirtual 192, 3), (29, .goto 56, 3)]
set_option maxRecDepth 100000 in
theorem ev_d_237_0 : ∀ q ∈ ev_c_237_0, decode prog_10_method_37_code q.1 = .ok (q.2.1, q.2.2) := fd_rows (by decide +kernel)
def ev_c_237_1 : List (Nat × Instr × Nat) := [(32, .aload_n 0, 1), (33, .ldc 195, 2), (35, .invokevirtual 160, 3), (38, .ifCond .eq 10, 3), (41, .aload_n 0, 1), (42, .invokevirtual 197, 3), (45, .goto 40, 3), (48, .aload_n 0, 1), (49, .ldc 200, 2), (51, .invokevirtual 160, 3), (54, .ifCond .eq 10, 3), (57, .aload_n 0, 1), (58, .invokevirtual 202, 3), (61, .goto 24, 3)]
set_option maxRecDepth 100000 in
theorem ev_d_237_1 : ∀ q ∈ ev_c_237_1, decode prog_10_method_37_code q.1 = .ok (q.2.1, q.2.2) := fd_rows (by decide +kernel)
def ev_c_237_2 : List (Nat × Instr × Nat) := [(64, .aload_n 0, 1), (65, .ldc 205, 2), (67, .invokevirtual 160, 3), (70, .ifCond .eq 10, 3), (73, .aload_n 0, 1), (74, .invokevirtual 207, 3), (77, .goto 8, 3), (80, .aload_n 0, 1), (81, .iconst 1, 1), (82, .invokevirtual 104, 3), (85, .return_, 1)]
set_option maxRecDepth 100000 in
theorem ev_d_237_2 : ∀ q ∈ ev_c_237_2, decode prog_10_method_37_code q.1 = .ok (q.2.1, q.2.2) := fd_rows (by decide +kernel)
def ev_c_237 : List (Nat × List (Nat × Instr × Nat)) := [(0, ev_c_237_0), (1, ev_c_237_1), (2, ev_c_237_2)]
set_option maxRecDepth 100000 in
theorem ev_d_237 : ∀ q ∈ ev_c_237, ∀ z ∈ q.2, decode prog_10_method_37_code z.1 = .ok (z.2.1, z.2.2) := List.forall_mem_cons.mpr ⟨ev_d_237_0, List.forall_mem_cons.mpr ⟨ev_d_237_1, List.forall_mem_cons.mpr ⟨ev_d_237_2, fun _ h => absurd h List.not_mem_nil⟩⟩⟩
def ev_c_238_0 : List (Nat × Instr × Nat) := [(0, .aload_n 0, 1), (1, .invokevirtual 111, 3), (4, .aload_n 0, 1), (5, .ldc 210, 2), (7, .invokevirtual 160, 3), (10, .ifCond .ne 8, 3), (13, .aload_n 0, 1), (14, .iconst 1, 1), (15, .invokevirtual 104, 3), (18, .aload_n 0, 1), (19, .invokevirtual 111, 3), (22, .aload_n 0, 1), (23, .getfield 9, 3), (26, .bipush 9, 2), (28, .aload_n 0, 1), (29, .iconst 1, 1), (30, .bipush 8, 2)]
set_option maxRecDepth 100000 in
theorem ev_d_238_0 : ∀ q ∈ ev_c_238_0, decode prog_10_method_38_code q.1 = .ok (q.2.1, q.2.2) := fd_rows (by decide +kernel)
def ev_c_238_1 : List (Nat × Instr × Nat) := [(32, .invokevirtual 118, 3), (35, .iastore, 1), (36, .aload_n 0, 1), (37, .iconst 4, 1), (38, .invokevirtual 91, 3), (41, .ifCond .eq 14, 3), (44, .aload_n 0, 1), (45, .invokevirtual 111, 3), (48, .aload_n 0, 1), (49, .invokevirtual 212, 3), (52, .goto (-16), 3), (55, .aload_n 0, 1), (56, .iconst 1, 1), (57, .invokevirtual 91, 3), (60, .ifCond .ne 8, 3), (63, .aload_n 0, 1)]
set_option maxRecDepth 100000 in
theorem ev_d_238_1 : ∀ q ∈ ev_c_238_1, decode prog_10_method_38_code q.1 = .ok (q.2.1, q.2.2) := fd_rows (by decide +kernel)
def ev_c_238_2 : List (Nat × Instr × Nat) := [(64, .iconst 1, 1), (65, .invokevirtual 104, 3), (68, .aload_n 0, 1), (69, .getfield 9, 3), (72, .bipush 6, 2), (74, .iaload, 1), (75, .ifCond .eq 23, 3), (78, .aload_n 0, 1), (79, .getfield 9, 3), (82, .bipush 7, 2), (84, .iaload, 1), (85, .ifCond .eq 13, 3), (88, .aload_n 0, 1), (89, .getfield 9, 3), (92, .bipush 8, 2), (94, .iaload, 1), (95, .ifCond .ne 8, 3)]
set_option maxRecDepth 100000 in
theorem ev_d_238_2 : ∀ q ∈ ev_c_238_2, decode prog_10_method_38_code q.1 = .ok (q.2.1, q.2.2) := fd_rows (by decide +kernel)
def ev_c_238_3 : List (Nat × Instr × Nat) := [(98, .aload_n 0, 1), (99, .iconst 4, 1), (100, .invokevirtual 104, 3), (103, .return_, 1)]
set_option maxRecDepth 100000 in
theorem ev_d_238_3 : ∀ q ∈ ev_c_238_3, decode prog_10_method_38_code q.1 = .ok (q.2.1, q.2.2) := fd_rows (by decide +kernel)
def ev_c_238 : List (Nat × List (Nat × Instr × Nat)) := [(0, ev_c_238_0), (1, ev_c_238_1), (2, ev_c_238_2), (3, ev_c_238_3)]
set_option maxRecDepth 100000 in
theorem ev_d_238 : ∀ q ∈ ev_c_238, ∀ z ∈ q.2, decode prog_10_method_38_code z.1 = .ok (z.2.1, z.2.2) := List.forall_mem_cons.mpr ⟨ev_d_238_0, List.forall_mem_cons.mpr ⟨ev_d_238_1, List.forall_mem_cons.mpr ⟨ev_d_238_2, List.forall_mem_cons.mpr ⟨ev_d_238_3, fun _ h => absurd h List.not_mem_nil⟩⟩⟩⟩
def ev_c_239_0 : List (Nat × Instr × Nat) := [(0, .aload_n 0, 1), (1, .iload_n 1, 1), (2, .iconst 0, 1), (3, .aload_n 0, 1), (4, .getfield 55, 3), (7, .invokestatic 68, 3), (10, .iconst 1, 1), (11, .iconst 1, 1), (12, .invokevirtual 43, 3), (15, .ifCond .ne 5, 3), (18, .iconst 0, 1), (19, .ireturn, 1), (20, .aload_n 0, 1), (21, .iload_n 1, 1), (22, .putfield 65, 3), (25, .aload_n 0, 1), (26, .iconst 0, 1), (27, .putfield 72, 3), (30, .aload_n 0, 1), (31, .iconst 0, 1)]
set_option maxRecDepth 100000 in
theorem ev_d_239_0 : ∀ q ∈ ev_c_239_0, decode prog_10_method_39_code q.1 = .ok (q.2.1, q.2.2) := fd_rows (by decide +kernel)
def ev_c_239_1 : List (Nat × Instr × Nat) := [(32, .putfield 55, 3), (35, .aload_n 0, 1), (36, .iconst 0, 1), (37, .putfield 62, 3), (40, .aload_n 0, 1), (41, .iconst (-1), 1), (42, .putfield 30, 3), (45, .aload_n 0, 1), (46, .invokevirtual 215, 3), (49, .iconst 0, 1), (50, .istore_n 2, 1), (51, .iload_n 2, 1), (52, .sipush 173, 3), (55, .if_icmp .ge 16, 3), (58, .aload_n 0, 1), (59, .getfield 9, 3), (62, .iload_n 2, 1), (63, .iconst 0, 1)]
set_option maxRecDepth 100000 in
theorem ev_d_239_1 : ∀ q ∈ ev_c_239_1, decode prog_10_method_39_code q.1 = .ok (q.2.1, q.2.2) := fd_rows (by decide +kernel)
def ev_c_239_2 : List (Nat × Instr × Nat) := [(64, .iastore, 1), (65, .iinc 2 1, 3), (68, .goto (-17), 3), (71, .aload_n 0, 1), (72, .invokevirtual 218, 3), (75, .aload_n 0, 1), (76, .getfield 62, 3), (79, .ifCond .le 14, 3), (82, .aload_n 0, 1), (83, .iconst 2, 1), (84, .putfield 40, 3), (87, .aload_n 0, 1), (88, .iconst 0, 1), (89, .invokevirtual 221, 3), (92, .ireturn, 1), (93, .aload_n 0, 1), (94, .iconst 1, 1), (95, .putfield 47, 3)]
set_option maxRecDepth 100000 in
theorem ev_d_239_2 : ∀ q ∈ ev_c_239_2, decode prog_10_method_39_code q.1 = .ok (q.2.1, q.2.2) := fd_rows (by decide +kernel)
def ev_c_239_3 : List (Nat × Instr × Nat) := [(98, .aload_n 0, 1), (99, .iconst 0, 1), (100, .putfield 224, 3), (103, .aload_n 0, 1), (104, .getfield 22, 3), (107, .iconst 0, 1), (108, .iconst 0, 1), (109, .bastore, 1), (110, .aload_n 0, 1), (111, .getfield 22, 3), (114, .iconst 1, 1), (115, .iconst 0, 1), (116, .bastore, 1), (117, .aload_n 0, 1), (118, .getfield 9, 3), (121, .bipush 10, 2), (123, .iaload, 1), (124, .ireturn, 1)]
set_option maxRecDepth 100000 in
theorem ev_d_239_3 : ∀ q ∈ ev_c_239_3, decode prog_10_method_39_code q.1 = .ok (q.2.1, q.2.2) := fd_rows (by decide +kernel)
def ev_c_239 : List (Nat × List (Nat × Instr × Nat)) := [(0, ev_c_239_0), (1, ev_c_239_1), (2, ev_c_239_2), (3, ev_c_239_3)]
set_option maxRecDepth 100000 in
theorem ev_d_239 : ∀ q ∈ ev_c_239, ∀ z ∈ q.2, decode prog_10_method_39_code z.1 = .ok (z.2.1, z.2.2) := List.forall_mem_cons.mpr ⟨ev_d_239_0, List.forall_mem_cons.mpr ⟨ev_d_239_1, List.forall_mem_cons.mpr ⟨ev_d_239_2, List.forall_mem_cons.mpr ⟨ev_d_239_3, fun _ h => absurd h List.not_mem_nil⟩⟩⟩⟩
def ev_c_240_0 : List (Nat × Instr × Nat) := [(0, .aload_n 0, 1), (1, .getfield 9, 3), (4, .bipush 18, 2), (6, .iconst 5, 1), (7, .iload_n 1, 1), (8, .imul, 1), (9, .iadd, 1), (10, .iload_n 2, 1), (11, .iadd, 1), (12, .iaload, 1), (13, .ireturn, 1)]
set_option maxRecDepth 100000 in
theorem ev_d_240_0 : ∀ q ∈ ev_c_240_0, decode prog_10_method_40_code q.1 = .ok (q.2.1, q.2.2) := fd_rows (by decide +kernel)
def ev_c_240 : List (Nat × List (Nat × Instr × Nat)) := [(0, ev_c_240_0)]
set_option maxRecDepth 100000 in
theorem ev_d_240 : ∀ q ∈ ev_c_240, ∀ z ∈ q.2, decode prog_10_method_40_code z.1 = .ok (z.2.1, z.2.2) := List.forall_mem_cons.mpr ⟨ev_d_240_0, fun _ h => absurd h List.not_mem_nil⟩
def ev_c_241_0 : List (Nat × Instr × Nat) := [(0, .aload_n 0, 1), (1, .getfield 9, 3), (4, .bipush 18, 2), (6, .iconst 5, 1), (7, .iload_n 1, 1), (8, .imul, 1), (9, .iadd, 1), (10, .iload_n 2, 1), (11, .iadd, 1), (12, .iload_n 3, 1), (13, .iastore, 1), (14, .return_, 1)]
set_option maxRecDepth 100000 in
theorem ev_d_241_0 : ∀ q ∈ ev_c_241_0, decode prog_10_method_41_code q.1 = .ok (q.2.1, q.2.2) := fd_rows (by decide +kernel)
def ev_c_241 : List (Nat × List (Nat × Instr × Nat)) := [(0, ev_c_241_0)]
set_option maxRecDepth 100000 in
theorem ev_d_241 : ∀ q ∈ ev_c_241, ∀ z ∈ q.2, decode prog_10_method_41_code z.1 = .ok (z.2.1, z.2.2) := List.forall_mem_cons.mpr ⟨ev_d_241_0, fun _ h => absurd h List.not_mem_nil⟩
def ev_c_242_0 : List (Nat × Instr × Nat) := [(0, .aload_n 0, 1), (1, .getfield 9, 3), (4, .bipush 41, 2), (6, .bipush 11, 2), (8, .iload_n 1, 1), (9, .imul, 1), (10, .iadd, 1), (11, .iload_n 2, 1), (12, .iadd, 1), (13, .iaload, 1), (14, .ireturn, 1)]
set_option maxRecDepth 100000 in
theorem ev_d_242_0 : ∀ q ∈ ev_c_242_0, decode prog_10_method_42_code q.1 = .ok (q.2.1, q.2.2) := fd_rows (by decide +kernel)
def ev_c_242 : List (Nat × List (Nat × Instr × Nat)) := [(0, ev_c_242_0)]
set_option maxRecDepth 100000 in
theorem ev_d_242 : ∀ q ∈ ev_c_242, ∀ z ∈ q.2, decode prog_10_method_42_code z.1 = .ok (z.2.1, z.2.2) := List.forall_mem_cons.mpr ⟨ev_d_242_0, fun _ h => absurd h List.not_mem_nil⟩
def ev_c_243_0 : List (Nat × Instr × Nat) := [(0, .aload_n 0, 1), (1, .getfield 9, 3), (4, .bipush 41, 2), (6, .bipush 11, 2), (8, .iload_n 1, 1), (9, .imul, 1), (10, .iadd, 1), (11, .iload_n 2, 1), (12, .iadd, 1), (13, .iload_n 3, 1), (14, .iastore, 1), (15, .return_, 1)]
set_option maxRecDepth 100000 in
theorem ev_d_243_0 : ∀ q ∈ ev_c_243_0, decode prog_10_method_43_code q.1 = .ok (q.2.1, q.2.2) := fd_rows (by decide +kernel)
def ev_c_243 : List (Nat × List (Nat × Instr × Nat)) := [(0, ev_c_243_0)]
set_option maxRecDepth 100000 in
theorem ev_d_243 : ∀ q ∈ ev_c_243, ∀ z ∈ q.2, decode prog_10_method_43_code z.1 = .ok (z.2.1, z.2.2) := List.forall_mem_cons.mpr ⟨ev_d_243_0, fun _ h => absurd h List.not_mem_nil⟩
def ev_c_244_0 : List (Nat × Instr × Nat) := [(0, .aload_n 0, 1), (1, .iload_n 1, 1), (2, .bipush 8, 2), (4, .invokevirtual 227, 3), (7, .ireturn, 1)]
set_option maxRecDepth 100000 in
theorem ev_d_244_0 : ∀ q ∈ ev_c_244_0, decode prog_10_method_44_code q.1 = .ok (q.2.1, q.2.2) := fd_rows (by decide +kernel)
def ev_c_244 : List (Nat × List (Nat × Instr × Nat)) := [(0, ev_c_244_0)]
set_option maxRecDepth 100000 in
theorem ev_d_244 : ∀ q ∈ ev_c_244, ∀ z ∈ q.2, decode prog_10_method_44_code z.1 = .ok (z.2.1, z.2.2) := List.forall_mem_cons.mpr ⟨ev_d_244_0, fun _ h => absurd h List.not_mem_nil⟩
def ev_c_245_0 : List (Nat × Instr × Nat) := [(0, .aload_n 0, 1), (1, .iload_n 1, 1), (2, .invokevirtual 230, 3), (5, .ifCond .ne 7, 3), (8, .iconst 1, 1), (9, .goto 4, 3), (12, .iconst 0, 1), (13, .ireturn, 1)]
set_option maxRecDepth 100000 in
theorem ev_d_245_0 : ∀ q ∈ ev_c_245_0, decode prog_10_method_45_code q.1 = .ok (q.2.1, q.2.2) := fd_rows (by decide +kernel)
def ev_c_245 : List (Nat × List (Nat × Instr × Nat)) := [(0, ev_c_245_0)]
set_option maxRecDepth 100000 in
theorem ev_d_245 : ∀ q ∈ ev_c_245, ∀ z ∈ q.2, decode prog_10_method_45_code z.1 = .ok (z.2.1, z.2.2) := List.forall_mem_cons.mpr ⟨ev_d_245_0, fun _ h => absurd h List.not_mem_nil⟩
def ev_c_246_0 : List (Nat × Instr × Nat) := [(0, .aload_n 0, 1), (1, .iload_n 1, 1), (2, .invokevirtual 230, 3), (5, .iconst 1, 1), (6, .if_icmp .ne 18, 3), (9, .aload_n 0, 1), (10, .iload_n 1, 1), (11, .bipush 9, 2), (13, .invokevirtual 227, 3), (16, .iload_n 2, 1), (17, .if_icmp .ne 7, 3), (20, .iconst 1, 1), (21, .goto 4, 3), (24, .iconst 0, 1), (25, .ireturn, 1)]
set_option maxRecDepth 100000 in
theorem ev_d_246_0 : ∀ q ∈ ev_c_246_0, decode prog_10_method_46_code q.1 = .ok (q.2.1, q.2.2) := fd_rows (by decide +kernel)
def ev_c_246 : List (Nat × List (Nat × Instr × Nat)) := [(0, ev_c_246_0)]
set_option maxRecDepth 100000 in
theorem ev_d_246 : ∀ q ∈ ev_c_246, ∀ z ∈ q.2, decode prog_10_method_46_code z.1 = .ok (z.2.1, z.2.2) := List.forall_mem_cons.mpr ⟨ev_d_246_0, fun _ h => absurd h List.not_mem_nil⟩
def ev_c_247_0 : List (Nat × Instr × Nat) := [(0, .aload_n 0, 1), (1, .iload_n 1, 1), (2, .bipush 8, 2), (4, .iload_n 2, 1), (5, .invokevirtual 233, 3), (8, .aload_n 0, 1), (9, .iload_n 1, 1), (10, .bipush 9, 2), (12, .iload_n 3, 1), (13, .invokevirtual 233, 3), (16, .return_, 1)]
set_option maxRecDepth 100000 in
theorem ev_d_247_0 : ∀ q ∈ ev_c_247_0, decode prog_10_method_47_code q.1 = .ok (q.2.1, q.2.2) := fd_rows (by decide +kernel)
def ev_c_247 : List (Nat × List (Nat × Instr × Nat)) := [(0, ev_c_247_0)]
set_option maxRecDepth 100000 in
theorem ev_d_247 : ∀ q ∈ ev_c_247, ∀ z ∈ q.2, decode prog_10_method_47_code z.1 = .ok (z.2.1, z.2.2) := List.forall_mem_cons.mpr ⟨ev_d_247_0, fun _ h => absurd h List.not_mem_nil⟩
def ev_c_248_0 : List (Nat × Instr × Nat) := [(0, .aload_n 0, 1), (1, .getfield 9, 3), (4, .bipush 10, 2), (6, .iaload, 1), (7, .istore 5, 2), (9, .iconst 0, 1), (10, .istore 6, 2), (12, .iload 6, 2), (14, .bipush 11, 2), (16, .if_icmp .ge 18, 3), (19, .aload_n 0, 1), (20, .iload 5, 2), (22, .iload 6, 2), (24, .iconst 0, 1), (25, .invokevirtual 233, 3), (28, .iinc 6 1, 3), (31, .goto (-19), 3)]
set_option maxRecDepth 100000 in
theorem ev_d_248_0 : ∀ q ∈ ev_c_248_0, decode prog_10_method_48_code q.1 = .ok (q.2.1, q.2.2) := fd_rows (by decide +kernel)
def ev_c_248_1 : List (Nat × Instr × Nat) := [(34, .aload_n 0, 1), (35, .iload 5, 2), (37, .iconst 0, 1), (38, .iload_n 1, 1), (39, .invokevirtual 233, 3), (42, .aload_n 0, 1), (43, .iload 5, 2), (45, .iconst 1, 1), (46, .iload_n 2, 1), (47, .invokevirtual 233, 3), (50, .aload_n 0, 1), (51, .iload 5, 2), (53, .iconst 2, 1), (54, .iload_n 3, 1), (55, .invokevirtual 233, 3), (58, .aload_n 0, 1), (59, .iload 5, 2), (61, .iconst 3, 1), (62, .iload 4, 2)]
set_option maxRecDepth 100000 in
theorem ev_d_248_1 : ∀ q ∈ ev_c_248_1, decode prog_10_method_48_code q.1 = .ok (q.2.1, q.2.2) := fd_rows (by decide +kernel)
def ev_c_248_2 : List (Nat × Instr × Nat) := [(64, .invokevirtual 233, 3), (67, .aload_n 0, 1), (68, .iload 5, 2), (70, .iconst 0, 1), (71, .iconst (-1), 1), (72, .invokevirtual 236, 3), (75, .aload_n 0, 1), (76, .getfield 9, 3), (79, .bipush 10, 2), (81, .dup2, 1), (82, .iaload, 1), (83, .iconst 1, 1), (84, .iadd, 1), (85, .iastore, 1), (86, .iload 5, 2), (88, .ireturn, 1)]
set_option maxRecDepth 100000 in
theorem ev_d_248_2 : ∀ q ∈ ev_c_248_2, decode prog_10_method_48_code q.1 = .ok (q.2.1, q.2.2) := fd_rows (by decide +kernel)
def ev_c_248 : List (Nat × List (Nat × Instr × Nat)) := [(0, ev_c_248_0), (1, ev_c_248_1), (2, ev_c_248_2)]
set_option maxRecDepth 100000 in
theorem ev_d_248 : ∀ q ∈ ev_c_248, ∀ z ∈ q.2, decode prog_10_method_48_code z.1 = .ok (z.2.1, z.2.2) := List.forall_mem_cons.mpr ⟨ev_d_248_0, List.forall_mem_cons.mpr ⟨ev_d_248_1, List.forall_mem_cons.mpr ⟨ev_d_248_2, fun _ h => absurd h List.not_mem_nil⟩⟩⟩
def ev_c_249_0 : List (Nat × Instr × Nat) := [(0, .iload_n 1, 1), (1, .tableswitch 130 1 6 #[39, 54, 69, 84, 99, 115], 39)]
set_option maxRecDepth 100000 in
theorem ev_d_249_0 : ∀ q ∈ ev_c_249_0, decode prog_10_method_49_code q.1 = .ok (q.2.1, q.2.2) := by decide +kernel
def ev_c_249_1 : List (Nat × Instr × Nat) := [(40, .aload_n 0, 1), (41, .iload_n 2, 1), (42, .invokevirtual 230, 3), (45, .iconst 3, 1), (46, .if_icmp .ne 7, 3), (49, .iconst 1, 1), (50, .goto 4, 3), (53, .iconst 0, 1), (54, .ireturn, 1), (55, .aload_n 0, 1), (56, .iload_n 2, 1), (57, .invokevirtual 230, 3), (60, .iconst 1, 1), (61, .if_icmp .ne 7, 3)]
set_option maxRecDepth 100000 in
theorem ev_d_249_1 : ∀ q ∈ ev_c_249_1, decode prog_10_method_49_code q.1 = .ok (q.2.1, q.2.2) := fd_rows (by decide +kernel)
def ev_c_249_2 : List (Nat × Instr × Nat) := [(64, .iconst 1, 1), (65, .goto 4, 3), (68, .iconst 0, 1), (69, .ireturn, 1), (70, .aload_n 0, 1), (71, .iload_n 2, 1), (72, .invokevirtual 230, 3), (75, .iconst 2, 1), (76, .if_icmp .ne 7, 3), (79, .iconst 1, 1), (80, .goto 4, 3), (83, .iconst 0, 1), (84, .ireturn, 1), (85, .aload_n 0, 1), (86, .iload_n 2, 1), (87, .iconst 3, 1), (88, .invokevirtual 227, 3), (91, .ifCond .le 7, 3), (94, .iconst 1, 1), (95, .goto 4, 3)]
set_option maxRecDepth 100000 in
theorem ev_d_249_2 : ∀ q ∈ ev_c_249_2, decode prog_10_method_49_code q.1 = .ok (q.2.1, q.2.2) := fd_rows (by decide +kernel)
def ev_c_249_3 : List (Nat × Instr × Nat) := [(98, .iconst 0, 1), (99, .ireturn, 1), (100, .aload_n 0, 1), (101, .iload_n 2, 1), (102, .bipush 6, 2), (104, .invokevirtual 227, 3), (107, .ifCond .eq 7, 3), (110, .iconst 1, 1), (111, .goto 4, 3), (114, .iconst 0, 1), (115, .ireturn, 1), (116, .aload_n 0, 1), (117, .iload_n 2, 1), (118, .iconst 4, 1), (119, .invokevirtual 227, 3), (122, .ifCond .le 7, 3), (125, .iconst 1, 1), (126, .goto 4, 3)]
set_option maxRecDepth 100000 in
theorem ev_d_249_3 : ∀ q ∈ ev_c_249_3, decode prog_10_method_49_code q.1 = .ok (q.2.1, q.2.2) := fd_rows (by decide +kernel)
def ev_c_249_4 : List (Nat × Instr × Nat) := [(129, .iconst 0, 1), (130, .ireturn, 1), (131, .aload_n 0, 1), (132, .iload_n 2, 1), (133, .iconst 5, 1), (134, .invokevirtual 227, 3), (137, .ifCond .le 7, 3), (140, .iconst 1, 1), (141, .goto 4, 3), (144, .iconst 0, 1), (145, .ireturn, 1)]
set_option maxRecDepth 100000 in
theorem ev_d_249_4 : ∀ q ∈ ev_c_249_4, decode prog_10_method_49_code q.1 = .ok (q.2.1, q.2.2) := fd_rows (by decide +kernel)
def ev_c_249 : List (Nat × List (Nat × Instr × Nat)) := [(0, ev_c_249_0), (1, ev_c_249_1), (2, ev_c_249_2), (3, ev_c_249_3), (4, ev_c_249_4)]
set_option maxRecDepth 100000 in
theorem ev_d_249 : ∀ q ∈ ev_c_249, ∀ z ∈ q.2, decode prog_10_method_49_code z.1 = .ok (z.2.1, z.2.2) := List.forall_mem_cons.mpr ⟨ev_d_249_0, List.forall_mem_cons.mpr ⟨ev_d_249_1, List.forall_mem_cons.mpr ⟨ev_d_249_2, List.forall_mem_cons.mpr ⟨ev_d_249_3, List.forall_mem_cons.mpr ⟨ev_d_249_4, fun _ h => absurd h List.not_mem_nil⟩⟩⟩⟩⟩
def ev_c_250_0 : List (Nat × Instr × Nat) := [(0, .iconst 1, 1), (1, .istore_n 2, 1), (2, .iload_n 2, 1), (3, .bipush 7, 2), (5, .if_icmp .gt 20, 3), (8, .aload_n 0, 1), (9, .iload_n 2, 1), (10, .iload_n 1, 1), (11, .invokevirtual 239, 3), (14, .ifCond .eq 5, 3), (17, .iload_n 2, 1), (18, .ireturn, 1), (19, .iinc 2 1, 3), (22, .goto (-20), 3), (25, .iconst 0, 1), (26, .ireturn, 1)]
set_option maxRecDepth 100000 in
theorem ev_d_250_0 : ∀ q ∈ ev_c_250_0, decode prog_10_method_50_code q.1 = .ok (q.2.1, q.2.2) := fd_rows (by decide +kernel)
def ev_c_250 : List (Nat × List (Nat × Instr × Nat)) := [(0, ev_c_250_0)]
set_option maxRecDepth 100000 in
theorem ev_d_250 : ∀ q ∈ ev_c_250, ∀ z ∈ q.2, decode prog_10_method_50_code z.1 = .ok (z.2.1, z.2.2) := List.forall_mem_cons.mpr ⟨ev_d_250_0, fun _ h => absurd h List.not_mem_nil⟩
def ev_c_251_0 : List (Nat × Instr × Nat) := [(0, .iconst 0, 1), (1, .istore_n 2, 1), (2, .iconst 0, 1), (3, .istore_n 3, 1), (4, .iload_n 3, 1), (5, .aload_n 0, 1), (6, .getfield 9, 3), (9, .bipush 10, 2), (11, .iaload, 1), (12, .if_icmp .ge 21, 3), (15, .iload_n 2, 1), (16, .aload_n 0, 1), (17, .iload_n 3, 1), (18, .iload_n 1, 1), (19, .invokevirtual 242, 3), (22, .invokestatic 245, 3), (25, .iadd, 1), (26, .istore_n 2, 1), (27, .iinc 3 1, 3), (30, .goto (-26), 3)]
set_option maxRecDepth 100000 in
theorem ev_d_251_0 : ∀ q ∈ ev_c_251_0, decode prog_10_method_51_code q.1 = .ok (q.2.1, q.2.2) := fd_rows (by decide +kernel)
def ev_c_251_1 : List (Nat × Instr × Nat) := [(33, .iload_n 2, 1), (34, .ireturn, 1)]
set_option maxRecDepth 100000 in
theorem ev_d_251_1 : ∀ q ∈ ev_c_251_1, decode prog_10_method_51_code q.1 = .ok (q.2.1, q.2.2) := fd_rows (by decide +kernel)
def ev_c_251 : List (Nat × List (Nat × Instr × Nat)) := [(0, ev_c_251_0), (1, ev_c_251_1)]
set_option maxRecDepth 100000 in
theorem ev_d_251 : ∀ q ∈ ev_c_251, ∀ z ∈ q.2, decode prog_10_method_51_code z.1 = .ok (z.2.1, z.2.2) := List.forall_mem_cons.mpr ⟨ev_d_251_0, List.forall_mem_cons.mpr ⟨ev_d_251_1, fun _ h => absurd h List.not_mem_nil⟩⟩
def ev_c_252_0 : List (Nat × Instr × Nat) := [(0, .aload_n 0, 1), (1, .iload_n 1, 1), (2, .invokevirtual 249, 3), (5, .ifCond .ne 5, 3), (8, .iconst 1, 1), (9, .ireturn, 1), (10, .aload_n 0, 1), (11, .iload_n 2, 1), (12, .invokevirtual 252, 3), (15, .aload_n 0, 1), (16, .getfield 9, 3), (19, .bipush 38, 2), (21, .iload_n 2, 1), (22, .iadd, 1), (23, .iaload, 1), (24, .if_icmp .ge 7, 3), (27, .iconst 0, 1), (28, .goto 4, 3), (31, .iconst 2, 1)]
set_option maxRecDepth 100000 in
theorem ev_d_252_0 : ∀ q ∈ ev_c_252_0, decode prog_10_method_52_code q.1 = .ok (q.2.1, q.2.2) := fd_rows (by decide +kernel)
def ev_c_252_1 : List (Nat × Instr × Nat) := [(32, .ireturn, 1)]
set_option maxRecDepth 100000 in
theorem ev_d_252_1 : ∀ q ∈ ev_c_252_1, decode prog_10_method_52_code q.1 = .ok (q.2.1, q.2.2) := fd_rows (by decide +kernel)
def ev_c_252 : List (Nat × List (Nat × Instr × Nat)) := [(0, ev_c_252_0), (1, ev_c_252_1)]
set_option maxRecDepth 100000 in
theorem ev_d_252 : ∀ q ∈ ev_c_252, ∀ z ∈ q.2, decode prog_10_method_52_code z.1 = .ok (z.2.1, z.2.2) := List.forall_mem_cons.mpr ⟨ev_d_252_0, List.forall_mem_cons.mpr ⟨ev_d_252_1, fun _ h => absurd h List.not_mem_nil⟩⟩
def ev_c_253_0 : List (Nat × Instr × Nat) := [(0, .aload_n 0, 1), (1, .iload_n 1, 1), (2, .iconst 1, 1), (3, .iload_n 2, 1), (4, .invokevirtual 236, 3), (7, .aload_n 0, 1), (8, .iload_n 1, 1), (9, .bipush 10, 2), (11, .aload_n 0, 1), (12, .getfield 9, 3), (15, .bipush 11, 2), (17, .iaload, 1), (18, .invokevirtual 233, 3), (21, .aload_n 0, 1), (22, .getfield 9, 3), (25, .bipush 11, 2), (27, .dup2, 1), (28, .iaload, 1), (29, .iconst 1, 1), (30, .iadd, 1), (31, .iastore, 1)]
set_option maxRecDepth 100000 in
theorem ev_d_253_0 : ∀ q ∈ ev_c_253_0, decode prog_10_method_53_code q.1 = .ok (q.2.1, q.2.2) := fd_rows (by decide +kernel)
def ev_c_253_1 : List (Nat × Instr × Nat) := [(32, .return_, 1)]
set_option maxRecDepth 100000 in
theorem ev_d_253_1 : ∀ q ∈ ev_c_253_1, decode prog_10_method_53_code q.1 = .ok (q.2.1, q.2.2) := fd_rows (by decide +kernel)
def ev_c_253 : List (Nat × List (Nat × Instr × Nat)) := [(0, ev_c_253_0), (1, ev_c_253_1)]
set_option maxRecDepth 100000 in
theorem ev_d_253 : ∀ q ∈ ev_c_253, ∀ z ∈ q.2, decode prog_10_method_53_code z.1 = .ok (z.2.1, z.2.2) := List.forall_mem_cons.mpr ⟨ev_d_253_0, List.forall_mem_cons.mpr ⟨ev_d_253_1, fun _ h => absurd h List.not_mem_nil⟩⟩
def ev_c_254_0 : List (Nat × Instr × Nat) := [(0, .iconst 3, 1), (1, .istore_n 2, 1), (2, .iconst 0, 1), (3, .istore_n 3, 1), (4, .iload_n 3, 1), (5, .aload_n 0, 1), (6, .getfield 9, 3), (9, .bipush 10, 2), (11, .iaload, 1), (12, .if_icmp .ge 29, 3), (15, .aload_n 0, 1), (16, .iload_n 3, 1), (17, .iload_n 1, 1), (18, .invokevirtual 242, 3), (21, .ifCond .eq 14, 3), (24, .iload_n 2, 1), (25, .aload_n 0, 1), (26, .iload_n 3, 1), (27, .iconst 2, 1), (28, .invokevirtual 227, 3), (31, .invokestatic 255, 3)]
set_option maxRecDepth 100000 in
theorem ev_d_254_0 : ∀ q ∈ ev_c_254_0, decode prog_10_method_54_code q.1 = .ok (q.2.1, q.2.2) := fd_rows (by decide +kernel)
def ev_c_254_1 : List (Nat × Instr × Nat) := [(34, .istore_n 2, 1), (35, .iinc 3 1, 3), (38, .goto (-34), 3), (41, .iload_n 2, 1), (42, .ireturn, 1)]
set_option maxRecDepth 100000 in
theorem ev_d_254_1 : ∀ q ∈ ev_c_254_1, decode prog_10_method_54_code q.1 = .ok (q.2.1, q.2.2) := fd_rows (by decide +kernel)
def ev_c_254 : List (Nat × List (Nat × Instr × Nat)) := [(0, ev_c_254_0), (1, ev_c_254_1)]
set_option maxRecDepth 100000 in
theorem ev_d_254 : ∀ q ∈ ev_c_254, ∀ z ∈ q.2, decode prog_10_method_54_code z.1 = .ok (z.2.1, z.2.2) := List.forall_mem_cons.mpr ⟨ev_d_254_0, List.forall_mem_cons.mpr ⟨ev_d_254_1, fun _ h => absurd h List.not_mem_nil⟩⟩
def ev_c_255_0 : List (Nat × Instr × Nat) := [(0, .aload_n 0, 1), (1, .iload_n 1, 1), (2, .invokevirtual 252, 3), (5, .ifCond .ne 5, 3), (8, .iconst 1, 1), (9, .ireturn, 1), (10, .iload_n 2, 1), (11, .aload_n 0, 1), (12, .iload_n 1, 1), (13, .invokevirtual 260, 3), (16, .if_icmp .gt 7, 3), (19, .iconst 0, 1), (20, .goto 4, 3), (23, .iconst 2, 1), (24, .ireturn, 1)]
set_option maxRecDepth 100000 in
theorem ev_d_255_0 : ∀ q ∈ ev_c_255_0, decode prog_10_method_55_code q.1 = .ok (q.2.1, q.2.2) := fd_rows (by decide +kernel)
def ev_c_255 : List (Nat × List (Nat × Instr × Nat)) := [(0, ev_c_255_0)]
set_option maxRecDepth 100000 in
theorem ev_d_255 : ∀ q ∈ ev_c_255, ∀ z ∈ q.2, decode prog_10_method_55_code z.1 = .ok (z.2.1, z.2.2) := List.forall_mem_cons.mpr ⟨ev_d_255_0, fun _ h => absurd h List.not_mem_nil⟩
def ev_c_256_0 : List (Nat × Instr × Nat) := [(0, .iconst 0, 1), (1, .istore_n 3, 1), (2, .iconst 0, 1), (3, .istore 4, 2), (5, .iload 4, 2), (7, .aload_n 0, 1), (8, .getfield 9, 3), (11, .bipush 6, 2), (13, .iaload, 1), (14, .if_icmp .ge 46, 3), (17, .iload_n 3, 1), (18, .iload_n 1, 1), (19, .iload 4, 2), (21, .invokestatic 125, 3), (24, .ifCond .eq 21, 3), (27, .aload_n 0, 1), (28, .getfield 9, 3), (31, .bipush 12, 2)]
set_option maxRecDepth 100000 in
theorem ev_d_256_0 : ∀ q ∈ ev_c_256_0, decode prog_10_method_56_code q.1 = .ok (q.2.1, q.2.2) := fd_rows (by decide +kernel)
def ev_c_256_1 : List (Nat × Instr × Nat) := [(33, .iload 4, 2), (35, .iadd, 1), (36, .iaload, 1), (37, .iload_n 2, 1), (38, .if_icmp .gt 7, 3), (41, .iconst 1, 1), (42, .goto 4, 3), (45, .iconst 0, 1), (46, .invokestatic 245, 3), (49, .iload 4, 2), (51, .ishl, 1), (52, .ior, 1), (53, .istore_n 3, 1), (54, .iinc 4 1, 3), (57, .goto (-52), 3), (60, .iload_n 3, 1), (61, .ireturn, 1)]
set_option maxRecDepth 100000 in
theorem ev_d_256_1 : ∀ q ∈ ev_c_256_1, decode prog_10_method_56_code q.1 = .ok (q.2.1, q.2.2) := fd_rows (by decide +kernel)
def ev_c_256 : List (Nat × List (Nat × Instr × Nat)) := [(0, ev_c_256_0), (1, ev_c_256_1)]
set_option maxRecDepth 100000 in
theorem ev_d_256 : ∀ q ∈ ev_c_256, ∀ z ∈ q.2, decode prog_10_method_56_code z.1 = .ok (z.2.1, z.2.2) := List.forall_mem_cons.mpr ⟨ev_d_256_0, List.forall_mem_cons.mpr ⟨ev_d_256_1, fun _ h => absurd h List.not_mem_nil⟩⟩
def ev_c_257_0 : List (Nat × Instr × Nat) := [(0, .aload_n 0, 1), (1, .aload_n 0, 1), (2, .iload_n 1, 1), (3, .iconst 1, 1), (4, .invokevirtual 227, 3), (7, .aload_n 0, 1), (8, .iload_n 1, 1), (9, .bipush 6, 2), (11, .invokevirtual 227, 3), (14, .ior, 1), (15, .iload_n 2, 1), (16, .invokevirtual 263, 3), (19, .ireturn, 1)]
set_option maxRecDepth 100000 in
theorem ev_d_257_0 : ∀ q ∈ ev_c_257_0, decode prog_10_method_57_code q.1 = .ok (q.2.1, q.2.2) := fd_rows (by decide +kernel)
def ev_c_257 : List (Nat × List (Nat × Instr × Nat)) := [(0, ev_c_257_0)]
set_option maxRecDepth 100000 in
theorem ev_d_257 : ∀ q ∈ ev_c_257, ∀ z ∈ q.2, decode prog_10_method_57_code z.1 = .ok (z.2.1, z.2.2) := List.forall_mem_cons.mpr ⟨ev_d_257_0, fun _ h => absurd h List.not_mem_nil⟩
def ev_c_258_0 : List (Nat × Instr × Nat) := [(0, .iconst 0, 1), (1, .istore_n 3, 1), (2, .iconst 0, 1), (3, .istore 4, 2), (5, .iload 4, 2), (7, .aload_n 0, 1), (8, .getfield 9, 3), (11, .bipush 10, 2), (13, .iaload, 1), (14, .if_icmp .ge 33, 3), (17, .iload_n 3, 1), (18, .aload_n 0, 1), (19, .iload 4, 2), (21, .iload_n 1, 1), (22, .invokevirtual 242, 3), (25, .ifCond .eq 13, 3), (28, .aload_n 0, 1), (29, .iload 4, 2), (31, .iload_n 2, 1)]
set_option maxRecDepth 100000 in
theorem ev_d_258_0 : ∀ q ∈ ev_c_258_0, decode prog_10_method_58_code q.1 = .ok (q.2.1, q.2.2) := fd_rows (by decide +kernel)
def ev_c_258_1 : List (Nat × Instr × Nat) := [(32, .invokevirtual 266, 3), (35, .goto 4, 3), (38, .iconst 0, 1), (39, .ior, 1), (40, .istore_n 3, 1), (41, .iinc 4 1, 3), (44, .goto (-39), 3), (47, .iload_n 3, 1), (48, .ireturn, 1)]
set_option maxRecDepth 100000 in
theorem ev_d_258_1 : ∀ q ∈ ev_c_258_1, decode prog_10_method_58_code q.1 = .ok (q.2.1, q.2.2) := fd_rows (by decide +kernel)
def ev_c_258 : List (Nat × List (Nat × Instr × Nat)) := [(0, ev_c_258_0), (1, ev_c_258_1)]
set_option maxRecDepth 100000 in
theorem ev_d_258 : ∀ q ∈ ev_c_258, ∀ z ∈ q.2, decode prog_10_method_58_code z.1 = .ok (z.2.1, z.2.2) := List.forall_mem_cons.mpr ⟨ev_d_258_0, List.forall_mem_cons.mpr ⟨ev_d_258_1, fun _ h => absurd h List.not_mem_nil⟩⟩
def ev_c_259_0 : List (Nat × Instr × Nat) := [(0, .iload_n 2, 1), (1, .aload_n 0, 1), (2, .iload_n 1, 1), (3, .iconst 1, 1), (4, .invokevirtual 227, 3), (7, .iconst (-1), 1), (8, .ixor, 1), (9, .iand, 1), (10, .aload_n 0, 1), (11, .iload_n 1, 1), (12, .bipush 6, 2), (14, .invokevirtual 227, 3), (17, .iconst (-1), 1), (18, .ixor, 1), (19, .iand, 1), (20, .ireturn, 1)]
set_option maxRecDepth 100000 in
theorem ev_d_259_0 : ∀ q ∈ ev_c_259_0, decode prog_10_method_59_code q.1 = .ok (q.2.1, q.2.2) := fd_rows (by decide +kernel)
def ev_c_259 : List (Nat × List (Nat × Instr × Nat)) := [(0, ev_c_259_0)]
set_option maxRecDepth 100000 in
theorem ev_d_259 : ∀ q ∈ ev_c_259, ∀ z ∈ q.2, decode prog_10_method_59_code z.1 = .ok (z.2.1, z.2.2) := List.forall_mem_cons.mpr ⟨ev_d_259_0, fun _ h => absurd h List.not_mem_nil⟩
def ev_c_260_0 : List (Nat × Instr × Nat) := [(0, .aload_n 0, 1), (1, .iload_n 1, 1), (2, .iload_n 2, 1), (3, .invokevirtual 269, 3), (6, .istore_n 3, 1), (7, .iconst 0, 1), (8, .istore 4, 2), (10, .iconst 0, 1), (11, .istore 5, 2), (13, .iload 5, 2), (15, .aload_n 0, 1), (16, .getfield 9, 3), (19, .bipush 10, 2), (21, .iaload, 1), (22, .if_icmp .ge 42, 3), (25, .iload 4, 2), (27, .aload_n 0, 1), (28, .iload 5, 2), (30, .iload_n 1, 1), (31, .invokevirtual 242, 3)]
set_option maxRecDepth 100000 in
theorem ev_d_260_0 : ∀ q ∈ ev_c_260_0, decode prog_10_method_60_code q.1 = .ok (q.2.1, q.2.2) := fd_rows (by decide +kernel)
def ev_c_260_1 : List (Nat × Instr × Nat) := [(34, .ifCond .eq 17, 3), (37, .aload_n 0, 1), (38, .iload 5, 2), (40, .iload_n 3, 1), (41, .invokevirtual 272, 3), (44, .ifCond .eq 7, 3), (47, .iconst 1, 1), (48, .goto 4, 3), (51, .iconst 0, 1), (52, .invokestatic 245, 3), (55, .iadd, 1), (56, .istore 4, 2), (58, .iinc 5 1, 3), (61, .goto (-48), 3)]
set_option maxRecDepth 100000 in
theorem ev_d_260_1 : ∀ q ∈ ev_c_260_1, decode prog_10_method_60_code q.1 = .ok (q.2.1, q.2.2) := fd_rows (by decide +kernel)
def ev_c_260_2 : List (Nat × Instr × Nat) := [(64, .iload 4, 2), (66, .ireturn, 1)]
set_option maxRecDepth 100000 in
theorem ev_d_260_2 : ∀ q ∈ ev_c_260_2, decode prog_10_method_60_code q.1 = .ok (q.2.1, q.2.2) := fd_rows (by decide +kernel)
def ev_c_260 : List (Nat × List (Nat × Instr × Nat)) := [(0, ev_c_260_0), (1, ev_c_260_1), (2, ev_c_260_2)]
set_option maxRecDepth 100000 in
theorem ev_d_260 : ∀ q ∈ ev_c_260, ∀ z ∈ q.2, decode prog_10_method_60_code z.1 = .ok (z.2.1, z.2.2) := List.forall_mem_cons.mpr ⟨ev_d_260_0, List.forall_mem_cons.mpr ⟨ev_d_260_1, List.forall_mem_cons.mpr ⟨ev_d_260_2, fun _ h => absurd h List.not_mem_nil⟩⟩⟩
def ev_c_261_0 : List (Nat × Instr × Nat) := [(0, .iconst 0, 1), (1, .aload_n 0, 1), (2, .iload_n 1, 1), (3, .iconst 3, 1), (4, .invokevirtual 227, 3), (7, .iconst 1, 1), (8, .isub, 1), (9, .iconst 2, 1), (10, .iload_n 2, 1), (11, .imul, 1), (12, .isub, 1), (13, .invokestatic 275, 3), (16, .ireturn, 1)]
set_option maxRecDepth 100000 in
theorem ev_d_261_0 : ∀ q ∈ ev_c_261_0, decode prog_10_method_61_code q.1 = .ok (q.2.1, q.2.2) := fd_rows (by decide +kernel)
def ev_c_261 : List (Nat × List (Nat × Instr × Nat)) := [(0, ev_c_261_0)]
set_option maxRecDepth 100000 in
theorem ev_d_261 : ∀ q ∈ ev_c_261, ∀ z ∈ q.2, decode prog_10_method_61_code z.1 = .ok (z.2.1, z.2.2) := List.forall_mem_cons.mpr ⟨ev_d_261_0, fun _ h => absurd h List.not_mem_nil⟩
def ev_c_262_0 : List (Nat × Instr × Nat) := [(0, .iconst 0, 1), (1, .istore_n 3, 1), (2, .iconst 0, 1), (3, .istore 4, 2), (5, .iload 4, 2), (7, .aload_n 0, 1), (8, .getfield 9, 3), (11, .bipush 10, 2), (13, .iaload, 1), (14, .if_icmp .ge 33, 3), (17, .iload_n 3, 1), (18, .aload_n 0, 1), (19, .iload 4, 2), (21, .iload_n 1, 1), (22, .invokevirtual 242, 3), (25, .ifCond .eq 13, 3), (28, .aload_n 0, 1), (29, .iload 4, 2), (31, .iload_n 2, 1)]
set_option maxRecDepth 100000 in
theorem ev_d_262_0 : ∀ q ∈ ev_c_262_0, decode prog_10_method_62_code q.1 = .ok (q.2.1, q.2.2) := fd_rows (by decide +kernel)
def ev_c_262_1 : List (Nat × Instr × Nat) := [(32, .invokevirtual 278, 3), (35, .goto 4, 3), (38, .iconst 0, 1), (39, .iadd, 1), (40, .istore_n 3, 1), (41, .iinc 4 1, 3), (44, .goto (-39), 3), (47, .iload_n 3, 1), (48, .ireturn, 1)]
set_option maxRecDepth 100000 in
theorem ev_d_262_1 : ∀ q ∈ ev_c_262_1, decode prog_10_method_62_code q.1 = .ok (q.2.1, q.2.2) := fd_rows (by decide +kernel)
def ev_c_262 : List (Nat × List (Nat × Instr × Nat)) := [(0, ev_c_262_0), (1, ev_c_262_1)]
set_option maxRecDepth 100000 in
theorem ev_d_262 : ∀ q ∈ ev_c_262, ∀ z ∈ q.2, decode prog_10_method_62_code z.1 = .ok (z.2.1, z.2.2) := List.forall_mem_cons.mpr ⟨ev_d_262_0, List.forall_mem_cons.mpr ⟨ev_d_262_1, fun _ h => absurd h List.not_mem_nil⟩⟩
def ev_c_263_0 : List (Nat × Instr × Nat) := [(0, .aload_n 0, 1), (1, .iload_n 1, 1), (2, .bipush 6, 2), (4, .aload_n 0, 1), (5, .iload_n 1, 1), (6, .bipush 6, 2), (8, .invokevirtual 227, 3), (11, .aload_n 0, 1), (12, .iload_n 1, 1), (13, .iload_n 2, 1), (14, .invokevirtual 272, 3), (17, .ior, 1), (18, .invokevirtual 233, 3), (21, .aload_n 0, 1), (22, .iload_n 1, 1), (23, .iconst 3, 1), (24, .aload_n 0, 1), (25, .iload_n 1, 1), (26, .iload_n 3, 1), (27, .invokevirtual 278, 3), (30, .invokevirtual 233, 3)]
set_option maxRecDepth 100000 in
theorem ev_d_263_0 : ∀ q ∈ ev_c_263_0, decode prog_10_method_63_code q.1 = .ok (q.2.1, q.2.2) := fd_rows (by decide +kernel)
def ev_c_263_1 : List (Nat × Instr × Nat) := [(33, .aload_n 0, 1), (34, .iload_n 1, 1), (35, .iconst 4, 1), (36, .bipush 9, 2), (38, .invokevirtual 233, 3), (41, .aload_n 0, 1), (42, .iload_n 1, 1), (43, .iconst 5, 1), (44, .bipush 9, 2), (46, .aload_n 0, 1), (47, .iload_n 1, 1), (48, .iconst 5, 1), (49, .invokevirtual 227, 3), (52, .iconst 1, 1), (53, .iadd, 1), (54, .iload_n 3, 1), (55, .iadd, 1), (56, .invokestatic 255, 3), (59, .invokevirtual 233, 3), (62, .aload_n 0, 1), (63, .iload_n 1, 1)]
set_option maxRecDepth 100000 in
theorem ev_d_263_1 : ∀ q ∈ ev_c_263_1, decode prog_10_method_63_code q.1 = .ok (q.2.1, q.2.2) := fd_rows (by decide +kernel)
def ev_c_263_2 : List (Nat × Instr × Nat) := [(64, .iconst 0, 1), (65, .iconst (-1), 1), (66, .invokevirtual 236, 3), (69, .return_, 1)]
set_option maxRecDepth 100000 in
theorem ev_d_263_2 : ∀ q ∈ ev_c_263_2, decode prog_10_method_63_code q.1 = .ok (q.2.1, q.2.2) := fd_rows (by decide +kernel)
def ev_c_263 : List (Nat × List (Nat × Instr × Nat)) := [(0, ev_c_263_0), (1, ev_c_263_1), (2, ev_c_263_2)]
set_option maxRecDepth 100000 in
theorem ev_d_263 : ∀ q ∈ ev_c_263, ∀ z ∈ q.2, decode prog_10_method_63_code z.1 = .ok (z.2.1, z.2.2) := List.forall_mem_cons.mpr ⟨ev_d_263_0, List.forall_mem_cons.mpr ⟨ev_d_263_1, List.forall_mem_cons.mpr ⟨ev_d_263_2, fun _ h => absurd h List.not_mem_nil⟩⟩⟩
def ev_c_264_0 : List (Nat × Instr × Nat) := [(0, .aload_n 0, 1), (1, .iload_n 1, 1), (2, .iload_n 2, 1), (3, .invokevirtual 269, 3), (6, .istore_n 3, 1), (7, .aload_n 0, 1), (8, .iload_n 1, 1), (9, .iload_n 2, 1), (10, .invokevirtual 281, 3), (13, .istore 4, 2), (15, .iconst 0, 1), (16, .istore 5, 2), (18, .iload 5, 2), (20, .aload_n 0, 1), (21, .getfield 9, 3), (24, .bipush 10, 2), (26, .iaload, 1), (27, .if_icmp .ge 27, 3), (30, .aload_n 0, 1), (31, .iload 5, 2)]
set_option maxRecDepth 100000 in
theorem ev_d_264_0 : ∀ q ∈ ev_c_264_0, decode prog_10_method_64_code q.1 = .ok (q.2.1, q.2.2) := fd_rows (by decide +kernel)
def ev_c_264_1 : List (Nat × Instr × Nat) := [(33, .iload_n 1, 1), (34, .invokevirtual 242, 3), (37, .ifCond .eq 11, 3), (40, .aload_n 0, 1), (41, .iload 5, 2), (43, .iload_n 3, 1), (44, .iload_n 2, 1), (45, .invokevirtual 284, 3), (48, .iinc 5 1, 3), (51, .goto (-33), 3), (54, .aload_n 0, 1), (55, .getfield 9, 3), (58, .iconst 4, 1), (59, .dup2, 1), (60, .iaload, 1), (61, .iconst 1, 1), (62, .iadd, 1), (63, .iastore, 1)]
set_option maxRecDepth 100000 in
theorem ev_d_264_1 : ∀ q ∈ ev_c_264_1, decode prog_10_method_64_code q.1 = .ok (q.2.1, q.2.2) := fd_rows (by decide +kernel)
def ev_c_264_2 : List (Nat × Instr × Nat) := [(64, .iload 4, 2), (66, .ireturn, 1)]
set_option maxRecDepth 100000 in
theorem ev_d_264_2 : ∀ q ∈ ev_c_264_2, decode prog_10_method_64_code q.1 = .ok (q.2.1, q.2.2) := fd_rows (by decide +kernel)
def ev_c_264 : List (Nat × List (Nat × Instr × Nat)) := [(0, ev_c_264_0), (1, ev_c_264_1), (2, ev_c_264_2)]
set_option maxRecDepth 100000 in
theorem ev_d_264 : ∀ q ∈ ev_c_264, ∀ z ∈ q.2, decode prog_10_method_64_code z.1 = .ok (z.2.1, z.2.2) := List.forall_mem_cons.mpr ⟨ev_d_264_0, List.forall_mem_cons.mpr ⟨ev_d_264_1, List.forall_mem_cons.mpr ⟨ev_d_264_2, fun _ h => absurd h List.not_mem_nil⟩⟩⟩
def ev_c_265_0 : List (Nat × Instr × Nat) := [(0, .iconst 0, 1), (1, .istore_n 2, 1), (2, .iload_n 2, 1), (3, .aload_n 0, 1), (4, .getfield 9, 3), (7, .bipush 10, 2), (9, .iaload, 1), (10, .if_icmp .ge 31, 3), (13, .aload_n 0, 1), (14, .iload_n 2, 1), (15, .invokevirtual 230, 3), (18, .iconst 2, 1), (19, .if_icmp .ne 16, 3), (22, .aload_n 0, 1), (23, .iload_n 2, 1), (24, .bipush 9, 2), (26, .invokevirtual 227, 3), (29, .iload_n 1, 1), (30, .if_icmp .ne 5, 3)]
set_option maxRecDepth 100000 in
theorem ev_d_265_0 : ∀ q ∈ ev_c_265_0, decode prog_10_method_65_code q.1 = .ok (q.2.1, q.2.2) := fd_rows (by decide +kernel)
def ev_c_265_1 : List (Nat × Instr × Nat) := [(33, .iload_n 2, 1), (34, .ireturn, 1), (35, .iinc 2 1, 3), (38, .goto (-36), 3), (41, .iconst (-1), 1), (42, .ireturn, 1)]
set_option maxRecDepth 100000 in
theorem ev_d_265_1 : ∀ q ∈ ev_c_265_1, decode prog_10_method_65_code q.1 = .ok (q.2.1, q.2.2) := fd_rows (by decide +kernel)
def ev_c_265 : List (Nat × List (Nat × Instr × Nat)) := [(0, ev_c_265_0), (1, ev_c_265_1)]
set_option maxRecDepth 100000 in
theorem ev_d_265 : ∀ q ∈ ev_c_265, ∀ z ∈ q.2, decode prog_10_method_65_code z.1 = .ok (z.2.1, z.2.2) := List.forall_mem_cons.mpr ⟨ev_d_265_0, List.forall_mem_cons.mpr ⟨ev_d_265_1, fun _ h => absurd h List.not_mem_nil⟩⟩
def ev_c_266_0 : List (Nat × Instr × Nat) := [(0, .iconst 0, 1), (1, .istore_n 1, 1), (2, .iload_n 1, 1), (3, .aload_n 0, 1), (4, .getfield 9, 3), (7, .bipush 9, 2), (9, .iaload, 1), (10, .if_icmp .ge 20, 3), (13, .aload_n 0, 1), (14, .iload_n 1, 1), (15, .invokevirtual 287, 3), (18, .iconst (-1), 1), (19, .if_icmp .ne 5, 3), (22, .iload_n 1, 1), (23, .ireturn, 1), (24, .iinc 1 1, 3), (27, .goto (-25), 3), (30, .iconst (-1), 1), (31, .ireturn, 1)]
set_option maxRecDepth 100000 in
theorem ev_d_266_0 : ∀ q ∈ ev_c_266_0, decode prog_10_method_66_code q.1 = .ok (q.2.1, q.2.2) := fd_rows (by decide +kernel)
def ev_c_266 : List (Nat × List (Nat × Instr × Nat)) := [(0, ev_c_266_0)]
set_option maxRecDepth 100000 in
theorem ev_d_266 : ∀ q ∈ ev_c_266, ∀ z ∈ q.2, decode prog_10_method_66_code z.1 = .ok (z.2.1, z.2.2) := List.forall_mem_cons.mpr ⟨ev_d_266_0, fun _ h => absurd h List.not_mem_nil⟩
def ev_c_267_0 : List (Nat × Instr × Nat) := [(0, .aload_n 0, 1), (1, .iload_n 1, 1), (2, .invokevirtual 249, 3), (5, .ifCond .eq 15, 3), (8, .aload_n 0, 1), (9, .invokevirtual 290, 3), (12, .iconst (-1), 1), (13, .if_icmp .eq 7, 3), (16, .iconst 1, 1), (17, .goto 4, 3), (20, .iconst 0, 1), (21, .ireturn, 1)]
set_option maxRecDepth 100000 in
theorem ev_d_267_0 : ∀ q ∈ ev_c_267_0, decode prog_10_method_67_code q.1 = .ok (q.2.1, q.2.2) := fd_rows (by decide +kernel)
def ev_c_267 : List (Nat × List (Nat × Instr × Nat)) := [(0, ev_c_267_0)]
set_option maxRecDepth 100000 in
theorem ev_d_267 : ∀ q ∈ ev_c_267, ∀ z ∈ q.2, decode prog_10_method_67_code z.1 = .ok (z.2.1, z.2.2) := List.forall_mem_cons.mpr ⟨ev_d_267_0, fun _ h => absurd h List.not_mem_nil⟩
def ev_c_268_0 : List (Nat × Instr × Nat) := [(0, .aload_n 0, 1), (1, .iload_n 1, 1), (2, .iconst 2, 1), (3, .aload_n 0, 1), (4, .invokevirtual 290, 3), (7, .invokevirtual 236, 3), (10, .return_, 1)]
set_option maxRecDepth 100000 in
theorem ev_d_268_0 : ∀ q ∈ ev_c_268_0, decode prog_10_method_68_code q.1 = .ok (q.2.1, q.2.2) := fd_rows (by decide +kernel)
def ev_c_268 : List (Nat × List (Nat × Instr × Nat)) := [(0, ev_c_268_0)]
set_option maxRecDepth 100000 in
theorem ev_d_268 : ∀ q ∈ ev_c_268, ∀ z ∈ q.2, decode prog_10_method_68_code z.1 = .ok (z.2.1, z.2.2) := List.forall_mem_cons.mpr ⟨ev_d_268_0, fun _ h => absurd h List.not_mem_nil⟩
def ev_c_269_0 : List (Nat × Instr × Nat) := [(0, .aload_n 0, 1), (1, .getfield 9, 3), (4, .bipush 9, 2), (6, .iaload, 1), (7, .iconst 1, 1), (8, .isub, 1), (9, .istore_n 1, 1), (10, .iload_n 1, 1), (11, .ifCond .lt 24, 3), (14, .aload_n 0, 1), (15, .iload_n 1, 1), (16, .invokevirtual 287, 3), (19, .iconst (-1), 1), (20, .if_icmp .eq 9, 3), (23, .aload_n 0, 1), (24, .iload_n 1, 1), (25, .invokevirtual 287, 3), (28, .ireturn, 1), (29, .iinc 1 (-1), 3)]
set_option maxRecDepth 100000 in
theorem ev_d_269_0 : ∀ q ∈ ev_c_269_0, decode prog_10_method_69_code q.1 = .ok (q.2.1, q.2.2) := fd_rows (by decide +kernel)
def ev_c_269_1 : List (Nat × Instr × Nat) := [(32, .goto (-22), 3), (35, .iconst (-1), 1), (36, .ireturn, 1)]
set_option maxRecDepth 100000 in
theorem ev_d_269_1 : ∀ q ∈ ev_c_269_1, decode prog_10_method_69_code q.1 = .ok (q.2.1, q.2.2) := fd_rows (by decide +kernel)
def ev_c_269 : List (Nat × List (Nat × Instr × Nat)) := [(0, ev_c_269_0), (1, ev_c_269_1)]
set_option maxRecDepth 100000 in
theorem ev_d_269 : ∀ q ∈ ev_c_269, ∀ z ∈ q.2, decode prog_10_method_69_code z.1 = .ok (z.2.1, z.2.2) := List.forall_mem_cons.mpr ⟨ev_d_269_0, List.forall_mem_cons.mpr ⟨ev_d_269_1, fun _ h => absurd h List.not_mem_nil⟩⟩
def ev_c_270_0 : List (Nat × Instr × Nat) := [(0, .iconst 0, 1), (1, .istore_n 1, 1), (2, .iload_n 1, 1), (3, .aload_n 0, 1), (4, .getfield 9, 3), (7, .bipush 10, 2), (9, .iaload, 1), (10, .if_icmp .ge 45, 3), (13, .aload_n 0, 1), (14, .iload_n 1, 1), (15, .invokevirtual 230, 3), (18, .iconst 2, 1), (19, .if_icmp .ne 30, 3), (22, .aload_n 0, 1), (23, .iload_n 1, 1), (24, .iconst 4, 1), (25, .iconst 0, 1), (26, .aload_n 0, 1), (27, .iload_n 1, 1), (28, .iconst 4, 1), (29, .invokevirtual 227, 3)]
set_option maxRecDepth 100000 in
theorem ev_d_270_0 : ∀ q ∈ ev_c_270_0, decode prog_10_method_70_code q.1 = .ok (q.2.1, q.2.2) := fd_rows (by decide +kernel)
def ev_c_270_1 : List (Nat × Instr × Nat) := [(32, .iconst 1, 1), (33, .isub, 1), (34, .aload_n 0, 1), (35, .getfield 9, 3), (38, .iconst 1, 1), (39, .iaload, 1), (40, .iconst 3, 1), (41, .idiv, 1), (42, .isub, 1), (43, .invokestatic 275, 3), (46, .invokevirtual 233, 3), (49, .iinc 1 1, 3), (52, .goto (-50), 3), (55, .return_, 1)]
set_option maxRecDepth 100000 in
theorem ev_d_270_1 : ∀ q ∈ ev_c_270_1, decode prog_10_method_70_code q.1 = .ok (q.2.1, q.2.2) := fd_rows (by decide +kernel)
def ev_c_270 : List (Nat × List (Nat × Instr × Nat)) := [(0, ev_c_270_0), (1, ev_c_270_1)]
set_option maxRecDepth 100000 in
theorem ev_d_270 : ∀ q ∈ ev_c_270, ∀ z ∈ q.2, decode prog_10_method_70_code z.1 = .ok (z.2.1, z.2.2) := List.forall_mem_cons.mpr ⟨ev_d_270_0, List.forall_mem_cons.mpr ⟨ev_d_270_1, fun _ h => absurd h List.not_mem_nil⟩⟩
def ev_c_271_0 : List (Nat × Instr × Nat) := [(0, .aload_n 0, 1), (1, .getfield 9, 3), (4, .iconst 1, 1), (5, .iaload, 1), (6, .bipush 7, 2), (8, .if_icmp .lt 10, 3), (11, .aload_n 0, 1), (12, .invokevirtual 293, 3), (15, .goto 4, 3), (18, .iconst (-1), 1), (19, .istore_n 1, 1), (20, .iload_n 1, 1), (21, .iconst (-1), 1), (22, .if_icmp .ne 4, 3), (25, .return_, 1), (26, .aload_n 0, 1), (27, .iload_n 1, 1), (28, .iconst 0, 1), (29, .iconst (-1), 1), (30, .invokevirtual 236, 3)]
set_option maxRecDepth 100000 in
theorem ev_d_271_0 : ∀ q ∈ ev_c_271_0, decode prog_10_method_71_code q.1 = .ok (q.2.1, q.2.2) := fd_rows (by decide +kernel)
def ev_c_271_1 : List (Nat × Instr × Nat) := [(33, .aload_n 0, 1), (34, .iload_n 1, 1), (35, .iconst 3, 1), (36, .bipush 9, 2), (38, .aload_n 0, 1), (39, .iload_n 1, 1), (40, .iconst 3, 1), (41, .invokevirtual 227, 3), (44, .iconst 1, 1), (45, .iadd, 1), (46, .invokestatic 255, 3), (49, .invokevirtual 233, 3), (52, .aload_n 0, 1), (53, .getfield 9, 3), (56, .iconst 5, 1), (57, .dup2, 1), (58, .iaload, 1), (59, .iconst 1, 1), (60, .iadd, 1), (61, .iastore, 1), (62, .return_, 1)]
set_option maxRecDepth 100000 in
theorem ev_d_271_1 : ∀ q ∈ ev_c_271_1, decode prog_10_method_71_code q.1 = .ok (q.2.1, q.2.2) := fd_rows (by decide +kernel)
def ev_c_271 : List (Nat × List (Nat × Instr × Nat)) := [(0, ev_c_271_0), (1, ev_c_271_1)]
set_option maxRecDepth 100000 in
theorem ev_d_271 : ∀ q ∈ ev_c_271, ∀ z ∈ q.2, decode prog_10_method_71_code z.1 = .ok (z.2.1, z.2.2) := List.forall_mem_cons.mpr ⟨ev_d_271_0, List.forall_mem_cons.mpr ⟨ev_d_271_1, fun _ h => absurd h List.not_mem_nil⟩⟩
def ev_c_272_0 : List (Nat × Instr × Nat) := [(0, .aload_n 0, 1), (1, .invokevirtual 296, 3), (4, .aload_n 0, 1), (5, .invokevirtual 299, 3), (8, .aload_n 0, 1), (9, .getfield 9, 3), (12, .iconst 0, 1), (13, .dup2, 1), (14, .iaload, 1), (15, .iconst 1, 1), (16, .iadd, 1), (17, .iastore, 1), (18, .return_, 1)]
set_option maxRecDepth 100000 in
theorem ev_d_272_0 : ∀ q ∈ ev_c_272_0, decode prog_10_method_72_code q.1 = .ok (q.2.1, q.2.2) := fd_rows (by decide +kernel)
def ev_c_272 : List (Nat × List (Nat × Instr × Nat)) := [(0, ev_c_272_0)]
set_option maxRecDepth 100000 in
theorem ev_d_272 : ∀ q ∈ ev_c_272, ∀ z ∈ q.2, decode prog_10_method_72_code z.1 = .ok (z.2.1, z.2.2) := List.forall_mem_cons.mpr ⟨ev_d_272_0, fun _ h => absurd h List.not_mem_nil⟩
def ev_c_273_0 : List (Nat × Instr × Nat) := [(0, .aload_n 0, 1), (1, .iload_n 1, 1), (2, .invokevirtual 249, 3), (5, .ifCond .ne 5, 3), (8, .iconst 1, 1), (9, .ireturn, 1), (10, .iload_n 2, 1), (11, .aload_n 0, 1), (12, .iload_n 1, 1), (13, .iconst 2, 1), (14, .invokevirtual 227, 3), (17, .if_icmp .le 5, 3), (20, .iconst 2, 1), (21, .ireturn, 1), (22, .aload_n 0, 1), (23, .iload_n 1, 1), (24, .iconst 4, 1), (25, .invokevirtual 227, 3), (28, .iconst 3, 1), (29, .if_icmp .le 5, 3)]
set_option maxRecDepth 100000 in
theorem ev_d_273_0 : ∀ q ∈ ev_c_273_0, decode prog_10_method_73_code q.1 = .ok (q.2.1, q.2.2) := fd_rows (by decide +kernel)
def ev_c_273_1 : List (Nat × Instr × Nat) := [(32, .iconst 3, 1), (33, .ireturn, 1), (34, .aload_n 0, 1), (35, .iload_n 1, 1), (36, .bipush 6, 2), (38, .invokevirtual 227, 3), (41, .ifCond .ne 7, 3), (44, .iconst 0, 1), (45, .goto 4, 3), (48, .iconst 4, 1), (49, .ireturn, 1)]
set_option maxRecDepth 100000 in
theorem ev_d_273_1 : ∀ q ∈ ev_c_273_1, decode prog_10_method_73_code q.1 = .ok (q.2.1, q.2.2) := fd_rows (by decide +kernel)
def ev_c_273 : List (Nat × List (Nat × Instr × Nat)) := [(0, ev_c_273_0), (1, ev_c_273_1)]
set_option maxRecDepth 100000 in
theorem ev_d_273 : ∀ q ∈ ev_c_273, ∀ z ∈ q.2, decode prog_10_method_73_code z.1 = .ok (z.2.1, z.2.2) := List.forall_mem_cons.mpr ⟨ev_d_273_0, List.forall_mem_cons.mpr ⟨ev_d_273_1, fun _ h => absurd h List.not_mem_nil⟩⟩
