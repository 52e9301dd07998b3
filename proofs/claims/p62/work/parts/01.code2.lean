/-! code, by wip/gen/gen.py -/
def ev_c_127_0 : List (Nat × Instr × Nat) := [(0, .aload_n 0, 1), (1, .iconst 0, 1), (2, .putfield 15, 3), (5, .iconst 0, 1), (6, .istore_n 3, 1), (7, .iload_n 3, 1), (8, .aload_n 1, 1), (9, .getfield 47, 3), (12, .iload_n 2, 1), (13, .iaload, 1), (14, .if_icmp .ge 25, 3), (17, .aload_n 0, 1), (18, .bipush 44, 2), (20, .invokevirtual 52, 3), (23, .aload_n 0, 1), (24, .aload_n 1, 1), (25, .iload_n 2, 1), (26, .iload_n 3, 1), (27, .invokevirtual 55, 3), (30, .invokevirtual 35, 3)]
set_option maxRecDepth 100000 in
theorem ev_d_127_0 : ∀ q ∈ ev_c_127_0, decode prog_8_method_8_code q.1 = .ok (q.2.1, q.2.2) := fd_rows (by decide +kernel)
def ev_c_127_1 : List (Nat × Instr × Nat) := [(33, .iinc 3 1, 3), (36, .goto (-29), 3), (39, .aload_n 0, 1), (40, .invokevirtual 59, 3), (43, .return_, 1)]
set_option maxRecDepth 100000 in
theorem ev_d_127_1 : ∀ q ∈ ev_c_127_1, decode prog_8_method_8_code q.1 = .ok (q.2.1, q.2.2) := fd_rows (by decide +kernel)
def ev_c_127 : List (Nat × List (Nat × Instr × Nat)) := [(0, ev_c_127_0), (1, ev_c_127_1)]
set_option maxRecDepth 100000 in
theorem ev_d_127 : ∀ q ∈ ev_c_127, ∀ z ∈ q.2, decode prog_8_method_8_code z.1 = .ok (z.2.1, z.2.2) := List.forall_mem_cons.mpr ⟨ev_d_127_0, List.forall_mem_cons.mpr ⟨ev_d_127_1, fun _ h => absurd h List.not_mem_nil⟩⟩
def ev_c_128_0 : List (Nat × Instr × Nat) := [(0, .aload_n 0, 1), (1, .iconst 0, 1), (2, .putfield 15, 3), (5, .iconst 0, 1), (6, .istore_n 3, 1), (7, .iload_n 3, 1), (8, .aload_n 1, 1), (9, .getfield 62, 3), (12, .if_icmp .ge 52, 3), (15, .aload_n 1, 1), (16, .getfield 65, 3), (19, .iload_n 3, 1), (20, .aaload, 1), (21, .getfield 69, 3), (24, .iload_n 2, 1), (25, .if_icmp .ne 33, 3), (28, .aload_n 0, 1), (29, .bipush 32, 2), (31, .invokevirtual 52, 3)]
set_option maxRecDepth 100000 in
theorem ev_d_128_0 : ∀ q ∈ ev_c_128_0, decode prog_8_method_9_code q.1 = .ok (q.2.1, q.2.2) := fd_rows (by decide +kernel)
def ev_c_128_1 : List (Nat × Instr × Nat) := [(34, .aload_n 0, 1), (35, .iload_n 3, 1), (36, .invokevirtual 35, 3), (39, .aload_n 0, 1), (40, .bipush 58, 2), (42, .invokevirtual 19, 3), (45, .aload_n 0, 1), (46, .aload_n 1, 1), (47, .getfield 65, 3), (50, .iload_n 3, 1), (51, .aaload, 1), (52, .invokevirtual 72, 3), (55, .invokevirtual 35, 3), (58, .iinc 3 1, 3), (61, .goto (-54), 3)]
set_option maxRecDepth 100000 in
theorem ev_d_128_1 : ∀ q ∈ ev_c_128_1, decode prog_8_method_9_code q.1 = .ok (q.2.1, q.2.2) := fd_rows (by decide +kernel)
def ev_c_128_2 : List (Nat × Instr × Nat) := [(64, .aload_n 0, 1), (65, .invokevirtual 59, 3), (68, .return_, 1)]
set_option maxRecDepth 100000 in
theorem ev_d_128_2 : ∀ q ∈ ev_c_128_2, decode prog_8_method_9_code q.1 = .ok (q.2.1, q.2.2) := fd_rows (by decide +kernel)
def ev_c_128 : List (Nat × List (Nat × Instr × Nat)) := [(0, ev_c_128_0), (1, ev_c_128_1), (2, ev_c_128_2)]
set_option maxRecDepth 100000 in
theorem ev_d_128 : ∀ q ∈ ev_c_128, ∀ z ∈ q.2, decode prog_8_method_9_code z.1 = .ok (z.2.1, z.2.2) := List.forall_mem_cons.mpr ⟨ev_d_128_0, List.forall_mem_cons.mpr ⟨ev_d_128_1, List.forall_mem_cons.mpr ⟨ev_d_128_2, fun _ h => absurd h List.not_mem_nil⟩⟩⟩
def ev_c_129_0 : List (Nat × Instr × Nat) := [(0, .aload_n 0, 1), (1, .iconst 0, 1), (2, .putfield 15, 3), (5, .iconst 0, 1), (6, .istore_n 3, 1), (7, .iload_n 3, 1), (8, .iload_n 2, 1), (9, .if_icmp .ge 44, 3), (12, .aload_n 0, 1), (13, .bipush 47, 2), (15, .invokevirtual 52, 3), (18, .aload_n 1, 1), (19, .getfield 76, 3), (22, .iload_n 3, 1), (23, .iaload, 1), (24, .iconst (-1), 1), (25, .if_icmp .ne 12, 3), (28, .aload_n 0, 1), (29, .bipush 46, 2), (31, .invokevirtual 19, 3)]
set_option maxRecDepth 100000 in
theorem ev_d_129_0 : ∀ q ∈ ev_c_129_0, decode prog_8_method_10_code q.1 = .ok (q.2.1, q.2.2) := fd_rows (by decide +kernel)
def ev_c_129_1 : List (Nat × Instr × Nat) := [(34, .goto 13, 3), (37, .aload_n 0, 1), (38, .aload_n 1, 1), (39, .getfield 76, 3), (42, .iload_n 3, 1), (43, .iaload, 1), (44, .invokevirtual 35, 3), (47, .iinc 3 1, 3), (50, .goto (-43), 3), (53, .return_, 1)]
set_option maxRecDepth 100000 in
theorem ev_d_129_1 : ∀ q ∈ ev_c_129_1, decode prog_8_method_10_code q.1 = .ok (q.2.1, q.2.2) := fd_rows (by decide +kernel)
def ev_c_129 : List (Nat × List (Nat × Instr × Nat)) := [(0, ev_c_129_0), (1, ev_c_129_1)]
set_option maxRecDepth 100000 in
theorem ev_d_129 : ∀ q ∈ ev_c_129, ∀ z ∈ q.2, decode prog_8_method_10_code z.1 = .ok (z.2.1, z.2.2) := List.forall_mem_cons.mpr ⟨ev_d_129_0, List.forall_mem_cons.mpr ⟨ev_d_129_1, fun _ h => absurd h List.not_mem_nil⟩⟩
def ev_c_130_0 : List (Nat × Instr × Nat) := [(0, .aload_n 0, 1), (1, .invokespecial 1, 3), (4, .aload_n 0, 1), (5, .sipush 500, 3), (8, .newarray .byte, 2), (10, .putfield 9, 3), (13, .aload_n 0, 1), (14, .iconst 0, 1), (15, .putfield 13, 3), (18, .aload_n 0, 1), (19, .iconst 0, 1), (20, .putfield 17, 3), (23, .aload_n 0, 1), (24, .iconst (-1), 1), (25, .putfield 20, 3), (28, .aload_n 0, 1), (29, .iconst 0, 1), (30, .putfield 23, 3)]
set_option maxRecDepth 100000 in
theorem ev_d_130_0 : ∀ q ∈ ev_c_130_0, decode prog_1_method_1_code q.1 = .ok (q.2.1, q.2.2) := by decide +kernel
def ev_c_130_1 : List (Nat × Instr × Nat) := [(33, .aload_n 0, 1), (34, .new 27, 3), (37, .dup, 1), (38, .invokespecial 29, 3), (41, .putfield 30, 3), (44, .aload_n 0, 1), (45, .new 27, 3), (48, .dup, 1), (49, .invokespecial 29, 3), (52, .putfield 34, 3), (55, .aload_n 0, 1), (56, .new 37, 3), (59, .dup, 1), (60, .invokespecial 39, 3), (63, .putfield 40, 3)]
set_option maxRecDepth 100000 in
theorem ev_d_130_1 : ∀ q ∈ ev_c_130_1, decode prog_1_method_1_code q.1 = .ok (q.2.1, q.2.2) := fd_rows (by decide +kernel)
def ev_c_130_2 : List (Nat × Instr × Nat) := [(66, .aload_n 0, 1), (67, .new 44, 3), (70, .dup, 1), (71, .invokespecial 46, 3), (74, .putfield 47, 3), (77, .aload_n 0, 1), (78, .new 51, 3), (81, .dup, 1), (82, .invokespecial 53, 3), (85, .putfield 54, 3), (88, .return_, 1)]
set_option maxRecDepth 100000 in
theorem ev_d_130_2 : ∀ q ∈ ev_c_130_2, decode prog_1_method_1_code q.1 = .ok (q.2.1, q.2.2) := fd_rows (by decide +kernel)
def ev_c_130 : List (Nat × List (Nat × Instr × Nat)) := [(0, ev_c_130_0), (1, ev_c_130_1), (2, ev_c_130_2)]
set_option maxRecDepth 100000 in
theorem ev_d_130 : ∀ q ∈ ev_c_130, ∀ z ∈ q.2, decode prog_1_method_1_code z.1 = .ok (z.2.1, z.2.2) := List.forall_mem_cons.mpr ⟨ev_d_130_0, List.forall_mem_cons.mpr ⟨ev_d_130_1, List.forall_mem_cons.mpr ⟨ev_d_130_2, fun _ h => absurd h List.not_mem_nil⟩⟩⟩
def ev_c_131_0 : List (Nat × Instr × Nat) := [(0, .aload_n 0, 1), (1, .getfield 13, 3), (4, .bipush 20, 2), (6, .iadd, 1), (7, .sipush 500, 3), (10, .if_icmp .le 5, 3), (13, .iconst (-1), 1), (14, .ireturn, 1), (15, .aload_n 0, 1), (16, .iload_n 1, 1), (17, .invokevirtual 58, 3), (20, .aload_n 0, 1), (21, .iload_n 2, 1), (22, .invokevirtual 58, 3), (25, .aload_n 0, 1), (26, .iload_n 3, 1), (27, .invokevirtual 58, 3), (30, .aload_n 0, 1), (31, .iload 4, 2)]
set_option maxRecDepth 100000 in
theorem ev_d_131_0 : ∀ q ∈ ev_c_131_0, decode prog_1_method_2_code q.1 = .ok (q.2.1, q.2.2) := fd_rows (by decide +kernel)
def ev_c_131_1 : List (Nat × Instr × Nat) := [(33, .invokevirtual 58, 3), (36, .aload_n 0, 1), (37, .iload 5, 2), (39, .invokevirtual 58, 3), (42, .aload_n 0, 1), (43, .getfield 13, 3), (46, .ireturn, 1)]
set_option maxRecDepth 100000 in
theorem ev_d_131_1 : ∀ q ∈ ev_c_131_1, decode prog_1_method_2_code q.1 = .ok (q.2.1, q.2.2) := fd_rows (by decide +kernel)
def ev_c_131 : List (Nat × List (Nat × Instr × Nat)) := [(0, ev_c_131_0), (1, ev_c_131_1)]
set_option maxRecDepth 100000 in
theorem ev_d_131 : ∀ q ∈ ev_c_131, ∀ z ∈ q.2, decode prog_1_method_2_code z.1 = .ok (z.2.1, z.2.2) := List.forall_mem_cons.mpr ⟨ev_d_131_0, List.forall_mem_cons.mpr ⟨ev_d_131_1, fun _ h => absurd h List.not_mem_nil⟩⟩
def ev_c_132_0 : List (Nat × Instr × Nat) := [(0, .iload_n 1, 1), (1, .ifCond .lt 11, 3), (4, .iload_n 1, 1), (5, .aload_n 0, 1), (6, .getfield 13, 3), (9, .if_icmp .le 13, 3), (12, .new 62, 3), (15, .dup, 1), (16, .ldc 64, 2), (18, .invokespecial 66, 3), (21, .athrow, 1), (22, .aload_n 0, 1), (23, .iconst 0, 1), (24, .putfield 13, 3), (27, .aload_n 0, 1), (28, .getfield 40, 3), (31, .aload_n 0, 1)]
set_option maxRecDepth 100000 in
theorem ev_d_132_0 : ∀ q ∈ ev_c_132_0, decode prog_1_method_3_code q.1 = .ok (q.2.1, q.2.2) := fd_rows (by decide +kernel)
def ev_c_132_1 : List (Nat × Instr × Nat) := [(32, .getfield 9, 3), (35, .iload_n 1, 1), (36, .aload_n 0, 1), (37, .getfield 34, 3), (40, .invokevirtual 69, 3), (43, .aload_n 0, 1), (44, .aload_n 0, 1), (45, .getfield 40, 3), (48, .getfield 73, 3), (51, .putfield 17, 3), (54, .aload_n 0, 1), (55, .aload_n 0, 1), (56, .getfield 40, 3), (59, .getfield 76, 3), (62, .putfield 20, 3)]
set_option maxRecDepth 100000 in
theorem ev_d_132_1 : ∀ q ∈ ev_c_132_1, decode prog_1_method_3_code q.1 = .ok (q.2.1, q.2.2) := fd_rows (by decide +kernel)
def ev_c_132_2 : List (Nat × Instr × Nat) := [(65, .aload_n 0, 1), (66, .getfield 17, 3), (69, .ifCond .eq 13, 3), (72, .new 77, 3), (75, .dup, 1), (76, .ldc 79, 2), (78, .invokespecial 81, 3), (81, .athrow, 1), (82, .aload_n 0, 1), (83, .getfield 30, 3), (86, .astore_n 2, 1), (87, .aload_n 0, 1), (88, .aload_n 0, 1), (89, .getfield 34, 3), (92, .putfield 30, 3), (95, .aload_n 0, 1)]
set_option maxRecDepth 100000 in
theorem ev_d_132_2 : ∀ q ∈ ev_c_132_2, decode prog_1_method_3_code q.1 = .ok (q.2.1, q.2.2) := fd_rows (by decide +kernel)
def ev_c_132_3 : List (Nat × Instr × Nat) := [(96, .aload_n 2, 1), (97, .putfield 34, 3), (100, .aload_n 0, 1), (101, .iconst 1, 1), (102, .putfield 23, 3), (105, .aload_n 0, 1), (106, .getfield 47, 3), (109, .invokevirtual 82, 3), (112, .aload_n 0, 1), (113, .getfield 30, 3), (116, .getfield 85, 3), (119, .getfield 89, 3), (122, .ireturn, 1)]
set_option maxRecDepth 100000 in
theorem ev_d_132_3 : ∀ q ∈ ev_c_132_3, decode prog_1_method_3_code q.1 = .ok (q.2.1, q.2.2) := fd_rows (by decide +kernel)
def ev_c_132 : List (Nat × List (Nat × Instr × Nat)) := [(0, ev_c_132_0), (1, ev_c_132_1), (2, ev_c_132_2), (3, ev_c_132_3)]
set_option maxRecDepth 100000 in
theorem ev_d_132 : ∀ q ∈ ev_c_132, ∀ z ∈ q.2, decode prog_1_method_3_code z.1 = .ok (z.2.1, z.2.2) := List.forall_mem_cons.mpr ⟨ev_d_132_0, List.forall_mem_cons.mpr ⟨ev_d_132_1, List.forall_mem_cons.mpr ⟨ev_d_132_2, List.forall_mem_cons.mpr ⟨ev_d_132_3, fun _ h => absurd h List.not_mem_nil⟩⟩⟩⟩
def ev_c_133_0 : List (Nat × Instr × Nat) := [(0, .aload_n 0, 1), (1, .getfield 17, 3), (4, .ireturn, 1)]
set_option maxRecDepth 100000 in
theorem ev_d_133_0 : ∀ q ∈ ev_c_133_0, decode prog_1_method_4_code q.1 = .ok (q.2.1, q.2.2) := fd_rows (by decide +kernel)
def ev_c_133 : List (Nat × List (Nat × Instr × Nat)) := [(0, ev_c_133_0)]
set_option maxRecDepth 100000 in
theorem ev_d_133 : ∀ q ∈ ev_c_133, ∀ z ∈ q.2, decode prog_1_method_4_code z.1 = .ok (z.2.1, z.2.2) := List.forall_mem_cons.mpr ⟨ev_d_133_0, fun _ h => absurd h List.not_mem_nil⟩
def ev_c_134_0 : List (Nat × Instr × Nat) := [(0, .aload_n 0, 1), (1, .getfield 20, 3), (4, .ireturn, 1)]
set_option maxRecDepth 100000 in
theorem ev_d_134_0 : ∀ q ∈ ev_c_134_0, decode prog_1_method_5_code q.1 = .ok (q.2.1, q.2.2) := fd_rows (by decide +kernel)
def ev_c_134 : List (Nat × List (Nat × Instr × Nat)) := [(0, ev_c_134_0)]
set_option maxRecDepth 100000 in
theorem ev_d_134 : ∀ q ∈ ev_c_134, ∀ z ∈ q.2, decode prog_1_method_5_code z.1 = .ok (z.2.1, z.2.2) := List.forall_mem_cons.mpr ⟨ev_d_134_0, fun _ h => absurd h List.not_mem_nil⟩
def ev_c_135_0 : List (Nat × Instr × Nat) := [(0, .aload_n 0, 1), (1, .getfield 13, 3), (4, .ireturn, 1)]
set_option maxRecDepth 100000 in
theorem ev_d_135_0 : ∀ q ∈ ev_c_135_0, decode prog_1_method_6_code q.1 = .ok (q.2.1, q.2.2) := fd_rows (by decide +kernel)
def ev_c_135 : List (Nat × List (Nat × Instr × Nat)) := [(0, ev_c_135_0)]
set_option maxRecDepth 100000 in
theorem ev_d_135 : ∀ q ∈ ev_c_135, ∀ z ∈ q.2, decode prog_1_method_6_code z.1 = .ok (z.2.1, z.2.2) := List.forall_mem_cons.mpr ⟨ev_d_135_0, fun _ h => absurd h List.not_mem_nil⟩
def ev_c_136_0 : List (Nat × Instr × Nat) := [(0, .aload_n 0, 1), (1, .invokevirtual 94, 3), (4, .iload_n 1, 1), (5, .iconst 0, 1), (6, .bipush 15, 2), (8, .invokestatic 97, 3), (11, .aload_n 0, 1), (12, .getfield 30, 3), (15, .getfield 101, 3), (18, .astore_n 2, 1), (19, .aload_n 0, 1), (20, .getfield 30, 3), (23, .getfield 85, 3), (26, .astore_n 3, 1), (27, .iload_n 1, 1), (28, .tableswitch 155 0 14 #[76, 81, 86, 91, 96, 101, 106, 111, 117, 123, 129, 135, 140, 145, 150], 76)]
set_option maxRecDepth 100000 in
theorem ev_d_136_0 : ∀ q ∈ ev_c_136_0, decode prog_1_method_7_code q.1 = .ok (q.2.1, q.2.2) := by decide +kernel
def ev_c_136_3 : List (Nat × Instr × Nat) := [(104, .aload_n 2, 1), (105, .getfield 105, 3), (108, .ireturn, 1), (109, .aload_n 2, 1), (110, .getfield 110, 3), (113, .ireturn, 1), (114, .aload_n 2, 1), (115, .getfield 113, 3), (118, .ireturn, 1), (119, .aload_n 2, 1), (120, .getfield 116, 3), (123, .ireturn, 1), (124, .aload_n 3, 1), (125, .getfield 89, 3)]
set_option maxRecDepth 100000 in
theorem ev_d_136_3 : ∀ q ∈ ev_c_136_3, decode prog_1_method_7_code q.1 = .ok (q.2.1, q.2.2) := fd_rows (by decide +kernel)
def ev_c_136_4 : List (Nat × Instr × Nat) := [(128, .ireturn, 1), (129, .aload_n 3, 1), (130, .getfield 119, 3), (133, .ireturn, 1), (134, .aload_n 3, 1), (135, .getfield 122, 3), (138, .ireturn, 1), (139, .aload_n 3, 1), (140, .iconst 0, 1), (141, .invokevirtual 125, 3), (144, .ireturn, 1), (145, .aload_n 3, 1), (146, .iconst 1, 1), (147, .invokevirtual 125, 3), (150, .ireturn, 1), (151, .aload_n 3, 1), (152, .iconst 2, 1), (153, .invokevirtual 125, 3), (156, .ireturn, 1), (157, .aload_n 3, 1), (158, .iconst 3, 1), (159, .invokevirtual 125, 3)]
set_option maxRecDepth 100000 in
theorem ev_d_136_4 : ∀ q ∈ ev_c_136_4, decode prog_1_method_7_code q.1 = .ok (q.2.1, q.2.2) := fd_rows (by decide +kernel)
def ev_c_136_5 : List (Nat × Instr × Nat) := [(162, .ireturn, 1), (163, .aload_n 3, 1), (164, .getfield 129, 3), (167, .ireturn, 1), (168, .aload_n 3, 1), (169, .getfield 132, 3), (172, .ireturn, 1), (173, .aload_n 3, 1), (174, .getfield 135, 3), (177, .ireturn, 1), (178, .aload_n 3, 1), (179, .getfield 138, 3), (182, .ireturn, 1), (183, .aload_n 3, 1), (184, .invokevirtual 141, 3), (187, .ireturn, 1)]
set_option maxRecDepth 100000 in
theorem ev_d_136_5 : ∀ q ∈ ev_c_136_5, decode prog_1_method_7_code q.1 = .ok (q.2.1, q.2.2) := fd_rows (by decide +kernel)
def ev_c_136 : List (Nat × List (Nat × Instr × Nat)) := [(0, ev_c_136_0), (3, ev_c_136_3), (4, ev_c_136_4), (5, ev_c_136_5)]
set_option maxRecDepth 100000 in
theorem ev_d_136 : ∀ q ∈ ev_c_136, ∀ z ∈ q.2, decode prog_1_method_7_code z.1 = .ok (z.2.1, z.2.2) := List.forall_mem_cons.mpr ⟨ev_d_136_0, List.forall_mem_cons.mpr ⟨ev_d_136_3, List.forall_mem_cons.mpr ⟨ev_d_136_4, List.forall_mem_cons.mpr ⟨ev_d_136_5, fun _ h => absurd h List.not_mem_nil⟩⟩⟩⟩
def ev_c_137_0 : List (Nat × Instr × Nat) := [(0, .aload_n 0, 1), (1, .invokevirtual 94, 3), (4, .iload_n 1, 1), (5, .ifCond .lt 17, 3), (8, .iload_n 1, 1), (9, .aload_n 0, 1), (10, .getfield 30, 3), (13, .getfield 101, 3), (16, .getfield 105, 3), (19, .if_icmp .lt 13, 3), (22, .new 62, 3), (25, .dup, 1), (26, .ldc 145, 2), (28, .invokespecial 66, 3), (31, .athrow, 1)]
set_option maxRecDepth 100000 in
theorem ev_d_137_0 : ∀ q ∈ ev_c_137_0, decode prog_1_method_8_code q.1 = .ok (q.2.1, q.2.2) := fd_rows (by decide +kernel)
def ev_c_137_1 : List (Nat × Instr × Nat) := [(32, .iload_n 2, 1), (33, .iconst 0, 1), (34, .iconst 2, 1), (35, .invokestatic 97, 3), (38, .iload_n 2, 1), (39, .lookupswitch 50 #[(0, 25), (1, 38)], 25)]
set_option maxRecDepth 100000 in
theorem ev_d_137_1 : ∀ q ∈ ev_c_137_1, decode prog_1_method_8_code q.1 = .ok (q.2.1, q.2.2) := by decide +kernel
def ev_c_137_2 : List (Nat × Instr × Nat) := [(64, .aload_n 0, 1), (65, .getfield 30, 3), (68, .getfield 101, 3), (71, .getfield 147, 3), (74, .iload_n 1, 1), (75, .iaload, 1), (76, .ireturn, 1), (77, .aload_n 0, 1), (78, .getfield 30, 3), (81, .getfield 85, 3), (84, .iload_n 1, 1), (85, .invokevirtual 151, 3), (88, .ireturn, 1), (89, .aload_n 0, 1), (90, .getfield 30, 3), (93, .getfield 85, 3)]
set_option maxRecDepth 100000 in
theorem ev_d_137_2 : ∀ q ∈ ev_c_137_2, decode prog_1_method_8_code q.1 = .ok (q.2.1, q.2.2) := fd_rows (by decide +kernel)
def ev_c_137_3 : List (Nat × Instr × Nat) := [(96, .iload_n 1, 1), (97, .invokevirtual 154, 3), (100, .ireturn, 1)]
set_option maxRecDepth 100000 in
theorem ev_d_137_3 : ∀ q ∈ ev_c_137_3, decode prog_1_method_8_code q.1 = .ok (q.2.1, q.2.2) := fd_rows (by decide +kernel)
def ev_c_137 : List (Nat × List (Nat × Instr × Nat)) := [(0, ev_c_137_0), (1, ev_c_137_1), (2, ev_c_137_2), (3, ev_c_137_3)]
set_option maxRecDepth 100000 in
theorem ev_d_137 : ∀ q ∈ ev_c_137, ∀ z ∈ q.2, decode prog_1_method_8_code z.1 = .ok (z.2.1, z.2.2) := List.forall_mem_cons.mpr ⟨ev_d_137_0, List.forall_mem_cons.mpr ⟨ev_d_137_1, List.forall_mem_cons.mpr ⟨ev_d_137_2, List.forall_mem_cons.mpr ⟨ev_d_137_3, fun _ h => absurd h List.not_mem_nil⟩⟩⟩⟩
def ev_c_138_0 : List (Nat × Instr × Nat) := [(0, .aload_n 0, 1), (1, .iload_n 1, 1), (2, .invokevirtual 157, 3), (5, .iload_n 2, 1), (6, .iconst 0, 1), (7, .bipush 6, 2), (9, .invokestatic 97, 3), (12, .iload_n 2, 1), (13, .tableswitch 122 0 5 #[39, 52, 65, 78, 90, 102], 39)]
set_option maxRecDepth 100000 in
theorem ev_d_138_0 : ∀ q ∈ ev_c_138_0, decode prog_1_method_9_code q.1 = .ok (q.2.1, q.2.2) := by decide +kernel
def ev_c_138_1 : List (Nat × Instr × Nat) := [(52, .aload_n 0, 1), (53, .getfield 30, 3), (56, .getfield 101, 3), (59, .getfield 160, 3), (62, .iload_n 1, 1), (63, .iaload, 1)]
set_option maxRecDepth 100000 in
theorem ev_d_138_1 : ∀ q ∈ ev_c_138_1, decode prog_1_method_9_code q.1 = .ok (q.2.1, q.2.2) := fd_rows (by decide +kernel)
def ev_c_138_2 : List (Nat × Instr × Nat) := [(64, .ireturn, 1), (65, .aload_n 0, 1), (66, .getfield 30, 3), (69, .getfield 101, 3), (72, .getfield 163, 3), (75, .iload_n 1, 1), (76, .iaload, 1), (77, .ireturn, 1), (78, .aload_n 0, 1), (79, .getfield 30, 3), (82, .getfield 101, 3), (85, .getfield 166, 3), (88, .iload_n 1, 1), (89, .iaload, 1), (90, .ireturn, 1), (91, .aload_n 0, 1), (92, .getfield 30, 3), (95, .getfield 85, 3)]
set_option maxRecDepth 100000 in
theorem ev_d_138_2 : ∀ q ∈ ev_c_138_2, decode prog_1_method_9_code q.1 = .ok (q.2.1, q.2.2) := fd_rows (by decide +kernel)
def ev_c_138_3 : List (Nat × Instr × Nat) := [(98, .iload_n 1, 1), (99, .invokevirtual 169, 3), (102, .ireturn, 1), (103, .aload_n 0, 1), (104, .getfield 30, 3), (107, .getfield 85, 3), (110, .iload_n 1, 1), (111, .invokevirtual 172, 3), (114, .ireturn, 1), (115, .aload_n 0, 1), (116, .getfield 30, 3), (119, .getfield 85, 3), (122, .iload_n 1, 1), (123, .invokevirtual 175, 3), (126, .ifCond .eq 7, 3)]
set_option maxRecDepth 100000 in
theorem ev_d_138_3 : ∀ q ∈ ev_c_138_3, decode prog_1_method_9_code q.1 = .ok (q.2.1, q.2.2) := fd_rows (by decide +kernel)
def ev_c_138_4 : List (Nat × Instr × Nat) := [(129, .iconst 1, 1), (130, .goto 4, 3), (133, .iconst 0, 1), (134, .ireturn, 1), (135, .aload_n 0, 1), (136, .getfield 30, 3), (139, .iload_n 1, 1), (140, .invokevirtual 179, 3), (143, .ireturn, 1)]
set_option maxRecDepth 100000 in
theorem ev_d_138_4 : ∀ q ∈ ev_c_138_4, decode prog_1_method_9_code q.1 = .ok (q.2.1, q.2.2) := fd_rows (by decide +kernel)
def ev_c_138 : List (Nat × List (Nat × Instr × Nat)) := [(0, ev_c_138_0), (1, ev_c_138_1), (2, ev_c_138_2), (3, ev_c_138_3), (4, ev_c_138_4)]
set_option maxRecDepth 100000 in
theorem ev_d_138 : ∀ q ∈ ev_c_138, ∀ z ∈ q.2, decode prog_1_method_9_code z.1 = .ok (z.2.1, z.2.2) := List.forall_mem_cons.mpr ⟨ev_d_138_0, List.forall_mem_cons.mpr ⟨ev_d_138_1, List.forall_mem_cons.mpr ⟨ev_d_138_2, List.forall_mem_cons.mpr ⟨ev_d_138_3, List.forall_mem_cons.mpr ⟨ev_d_138_4, fun _ h => absurd h List.not_mem_nil⟩⟩⟩⟩⟩
def ev_c_139_0 : List (Nat × Instr × Nat) := [(0, .aload_n 0, 1), (1, .iload_n 1, 1), (2, .invokevirtual 182, 3), (5, .iload_n 2, 1), (6, .iconst 0, 1), (7, .bipush 9, 2), (9, .invokestatic 97, 3), (12, .aload_n 0, 1), (13, .getfield 30, 3), (16, .getfield 85, 3), (19, .getfield 185, 3), (22, .iload_n 1, 1), (23, .aaload, 1), (24, .astore_n 3, 1), (25, .iload_n 2, 1), (26, .tableswitch 95 0 8 #[50, 55, 60, 65, 70, 75, 80, 85, 90], 50)]
set_option maxRecDepth 100000 in
theorem ev_d_139_0 : ∀ q ∈ ev_c_139_0, decode prog_1_method_10_code q.1 = .ok (q.2.1, q.2.2) := by decide +kernel
def ev_c_139_2 : List (Nat × Instr × Nat) := [(76, .aload_n 3, 1), (77, .getfield 189, 3), (80, .ireturn, 1), (81, .aload_n 3, 1), (82, .getfield 194, 3), (85, .ireturn, 1), (86, .aload_n 3, 1), (87, .getfield 195, 3), (90, .ireturn, 1), (91, .aload_n 3, 1), (92, .getfield 198, 3), (95, .ireturn, 1)]
set_option maxRecDepth 100000 in
theorem ev_d_139_2 : ∀ q ∈ ev_c_139_2, decode prog_1_method_10_code q.1 = .ok (q.2.1, q.2.2) := fd_rows (by decide +kernel)
def ev_c_139_3 : List (Nat × Instr × Nat) := [(96, .aload_n 3, 1), (97, .getfield 201, 3), (100, .ireturn, 1), (101, .aload_n 3, 1), (102, .getfield 204, 3), (105, .ireturn, 1), (106, .aload_n 3, 1), (107, .getfield 207, 3), (110, .ireturn, 1), (111, .aload_n 3, 1), (112, .getfield 210, 3), (115, .ireturn, 1), (116, .aload_n 3, 1), (117, .getfield 213, 3), (120, .ireturn, 1), (121, .aload_n 3, 1), (122, .getfield 216, 3), (125, .ireturn, 1)]
set_option maxRecDepth 100000 in
theorem ev_d_139_3 : ∀ q ∈ ev_c_139_3, decode prog_1_method_10_code q.1 = .ok (q.2.1, q.2.2) := fd_rows (by decide +kernel)
def ev_c_139 : List (Nat × List (Nat × Instr × Nat)) := [(0, ev_c_139_0), (2, ev_c_139_2), (3, ev_c_139_3)]
set_option maxRecDepth 100000 in
theorem ev_d_139 : ∀ q ∈ ev_c_139, ∀ z ∈ q.2, decode prog_1_method_10_code z.1 = .ok (z.2.1, z.2.2) := List.forall_mem_cons.mpr ⟨ev_d_139_0, List.forall_mem_cons.mpr ⟨ev_d_139_2, List.forall_mem_cons.mpr ⟨ev_d_139_3, fun _ h => absurd h List.not_mem_nil⟩⟩⟩
def ev_c_140_0 : List (Nat × Instr × Nat) := [(0, .aload_n 0, 1), (1, .iload_n 1, 1), (2, .invokevirtual 219, 3), (5, .iload_n 2, 1), (6, .iconst 0, 1), (7, .iconst 4, 1), (8, .invokestatic 97, 3), (11, .iload_n 2, 1), (12, .tableswitch 76 0 3 #[32, 45, 58, 67], 32)]
set_option maxRecDepth 100000 in
theorem ev_d_140_0 : ∀ q ∈ ev_c_140_0, decode prog_1_method_11_code q.1 = .ok (q.2.1, q.2.2) := by decide +kernel
def ev_c_140_1 : List (Nat × Instr × Nat) := [(44, .aload_n 0, 1), (45, .getfield 30, 3), (48, .getfield 101, 3), (51, .getfield 222, 3), (54, .iload_n 1, 1), (55, .iaload, 1), (56, .ireturn, 1), (57, .aload_n 0, 1), (58, .getfield 30, 3), (61, .getfield 85, 3)]
set_option maxRecDepth 100000 in
theorem ev_d_140_1 : ∀ q ∈ ev_c_140_1, decode prog_1_method_11_code q.1 = .ok (q.2.1, q.2.2) := fd_rows (by decide +kernel)
def ev_c_140_2 : List (Nat × Instr × Nat) := [(64, .getfield 225, 3), (67, .iload_n 1, 1), (68, .iaload, 1), (69, .ireturn, 1), (70, .aload_n 0, 1), (71, .getfield 30, 3), (74, .iload_n 1, 1), (75, .invokevirtual 228, 3), (78, .ireturn, 1), (79, .aload_n 0, 1), (80, .getfield 30, 3), (83, .iload_n 1, 1), (84, .invokevirtual 231, 3), (87, .ireturn, 1), (88, .aload_n 0, 1), (89, .getfield 30, 3), (92, .iload_n 1, 1), (93, .invokevirtual 234, 3)]
set_option maxRecDepth 100000 in
theorem ev_d_140_2 : ∀ q ∈ ev_c_140_2, decode prog_1_method_11_code q.1 = .ok (q.2.1, q.2.2) := fd_rows (by decide +kernel)
def ev_c_140_3 : List (Nat × Instr × Nat) := [(96, .ireturn, 1)]
set_option maxRecDepth 100000 in
theorem ev_d_140_3 : ∀ q ∈ ev_c_140_3, decode prog_1_method_11_code q.1 = .ok (q.2.1, q.2.2) := fd_rows (by decide +kernel)
def ev_c_140 : List (Nat × List (Nat × Instr × Nat)) := [(0, ev_c_140_0), (1, ev_c_140_1), (2, ev_c_140_2), (3, ev_c_140_3)]
set_option maxRecDepth 100000 in
theorem ev_d_140 : ∀ q ∈ ev_c_140, ∀ z ∈ q.2, decode prog_1_method_11_code z.1 = .ok (z.2.1, z.2.2) := List.forall_mem_cons.mpr ⟨ev_d_140_0, List.forall_mem_cons.mpr ⟨ev_d_140_1, List.forall_mem_cons.mpr ⟨ev_d_140_2, List.forall_mem_cons.mpr ⟨ev_d_140_3, fun _ h => absurd h List.not_mem_nil⟩⟩⟩⟩
def ev_c_141_0 : List (Nat × Instr × Nat) := [(0, .aload_n 0, 1), (1, .iload_n 1, 1), (2, .invokevirtual 219, 3), (5, .iload_n 2, 1), (6, .ifCond .lt 34, 3), (9, .iload_n 2, 1), (10, .aload_n 0, 1), (11, .getfield 30, 3), (14, .getfield 85, 3), (17, .getfield 225, 3), (20, .iload_n 1, 1), (21, .iaload, 1), (22, .if_icmp .ge 18, 3), (25, .aload_n 0, 1), (26, .getfield 30, 3), (29, .getfield 85, 3)]
set_option maxRecDepth 100000 in
theorem ev_d_141_0 : ∀ q ∈ ev_c_141_0, decode prog_1_method_12_code q.1 = .ok (q.2.1, q.2.2) := fd_rows (by decide +kernel)
def ev_c_141_1 : List (Nat × Instr × Nat) := [(32, .iload_n 1, 1), (33, .iload_n 2, 1), (34, .invokevirtual 237, 3), (37, .goto 4, 3), (40, .iconst (-1), 1), (41, .ireturn, 1)]
set_option maxRecDepth 100000 in
theorem ev_d_141_1 : ∀ q ∈ ev_c_141_1, decode prog_1_method_12_code q.1 = .ok (q.2.1, q.2.2) := fd_rows (by decide +kernel)
def ev_c_141 : List (Nat × List (Nat × Instr × Nat)) := [(0, ev_c_141_0), (1, ev_c_141_1)]
set_option maxRecDepth 100000 in
theorem ev_d_141 : ∀ q ∈ ev_c_141, ∀ z ∈ q.2, decode prog_1_method_12_code z.1 = .ok (z.2.1, z.2.2) := List.forall_mem_cons.mpr ⟨ev_d_141_0, List.forall_mem_cons.mpr ⟨ev_d_141_1, fun _ h => absurd h List.not_mem_nil⟩⟩
def ev_c_142_0 : List (Nat × Instr × Nat) := [(0, .aload_n 0, 1), (1, .invokevirtual 94, 3), (4, .iload_n 1, 1), (5, .ifCond .lt 17, 3), (8, .iload_n 1, 1), (9, .aload_n 0, 1), (10, .getfield 30, 3), (13, .getfield 101, 3), (16, .getfield 116, 3), (19, .if_icmp .lt 13, 3), (22, .new 62, 3), (25, .dup, 1), (26, .ldc 241, 2), (28, .invokespecial 66, 3), (31, .athrow, 1)]
set_option maxRecDepth 100000 in
theorem ev_d_142_0 : ∀ q ∈ ev_c_142_0, decode prog_1_method_13_code q.1 = .ok (q.2.1, q.2.2) := fd_rows (by decide +kernel)
def ev_c_142_1 : List (Nat × Instr × Nat) := [(32, .aload_n 0, 1), (33, .getfield 30, 3), (36, .getfield 85, 3), (39, .getfield 243, 3), (42, .iload_n 1, 1), (43, .iaload, 1), (44, .ireturn, 1)]
set_option maxRecDepth 100000 in
theorem ev_d_142_1 : ∀ q ∈ ev_c_142_1, decode prog_1_method_13_code q.1 = .ok (q.2.1, q.2.2) := fd_rows (by decide +kernel)
def ev_c_142 : List (Nat × List (Nat × Instr × Nat)) := [(0, ev_c_142_0), (1, ev_c_142_1)]
set_option maxRecDepth 100000 in
theorem ev_d_142 : ∀ q ∈ ev_c_142, ∀ z ∈ q.2, decode prog_1_method_13_code z.1 = .ok (z.2.1, z.2.2) := List.forall_mem_cons.mpr ⟨ev_d_142_0, List.forall_mem_cons.mpr ⟨ev_d_142_1, fun _ h => absurd h List.not_mem_nil⟩⟩
def ev_c_143_0 : List (Nat × Instr × Nat) := [(0, .aload_n 0, 1), (1, .invokevirtual 94, 3), (4, .aload_n 0, 1), (5, .getfield 30, 3), (8, .getfield 101, 3), (11, .getfield 116, 3), (14, .aload_n 0, 1), (15, .getfield 30, 3), (18, .getfield 85, 3), (21, .iconst 2, 1), (22, .invokevirtual 125, 3), (25, .isub, 1), (26, .ireturn, 1)]
set_option maxRecDepth 100000 in
theorem ev_d_143_0 : ∀ q ∈ ev_c_143_0, decode prog_1_method_14_code q.1 = .ok (q.2.1, q.2.2) := fd_rows (by decide +kernel)
def ev_c_143 : List (Nat × List (Nat × Instr × Nat)) := [(0, ev_c_143_0)]
set_option maxRecDepth 100000 in
theorem ev_d_143 : ∀ q ∈ ev_c_143, ∀ z ∈ q.2, decode prog_1_method_14_code z.1 = .ok (z.2.1, z.2.2) := List.forall_mem_cons.mpr ⟨ev_d_143_0, fun _ h => absurd h List.not_mem_nil⟩
def ev_c_144_0 : List (Nat × Instr × Nat) := [(0, .aload_n 0, 1), (1, .invokevirtual 94, 3), (4, .aload_n 0, 1), (5, .getfield 30, 3), (8, .getfield 85, 3), (11, .invokevirtual 245, 3), (14, .ireturn, 1)]
set_option maxRecDepth 100000 in
theorem ev_d_144_0 : ∀ q ∈ ev_c_144_0, decode prog_1_method_15_code q.1 = .ok (q.2.1, q.2.2) := fd_rows (by decide +kernel)
def ev_c_144 : List (Nat × List (Nat × Instr × Nat)) := [(0, ev_c_144_0)]
set_option maxRecDepth 100000 in
theorem ev_d_144 : ∀ q ∈ ev_c_144, ∀ z ∈ q.2, decode prog_1_method_15_code z.1 = .ok (z.2.1, z.2.2) := List.forall_mem_cons.mpr ⟨ev_d_144_0, fun _ h => absurd h List.not_mem_nil⟩
def ev_c_145_0 : List (Nat × Instr × Nat) := [(0, .aload_n 0, 1), (1, .invokevirtual 94, 3), (4, .aload_n 0, 1), (5, .getfield 30, 3), (8, .invokevirtual 248, 3), (11, .ireturn, 1)]
set_option maxRecDepth 100000 in
theorem ev_d_145_0 : ∀ q ∈ ev_c_145_0, decode prog_1_method_16_code q.1 = .ok (q.2.1, q.2.2) := fd_rows (by decide +kernel)
def ev_c_145 : List (Nat × List (Nat × Instr × Nat)) := [(0, ev_c_145_0)]
set_option maxRecDepth 100000 in
theorem ev_d_145 : ∀ q ∈ ev_c_145, ∀ z ∈ q.2, decode prog_1_method_16_code z.1 = .ok (z.2.1, z.2.2) := List.forall_mem_cons.mpr ⟨ev_d_145_0, fun _ h => absurd h List.not_mem_nil⟩
def ev_c_146_0 : List (Nat × Instr × Nat) := [(0, .aload_n 0, 1), (1, .iload_n 1, 1), (2, .invokevirtual 182, 3), (5, .aload_n 0, 1), (6, .getfield 30, 3), (9, .getfield 85, 3), (12, .getfield 185, 3), (15, .iload_n 1, 1), (16, .aaload, 1), (17, .invokevirtual 251, 3), (20, .ireturn, 1)]
set_option maxRecDepth 100000 in
theorem ev_d_146_0 : ∀ q ∈ ev_c_146_0, decode prog_1_method_17_code q.1 = .ok (q.2.1, q.2.2) := fd_rows (by decide +kernel)
def ev_c_146 : List (Nat × List (Nat × Instr × Nat)) := [(0, ev_c_146_0)]
set_option maxRecDepth 100000 in
theorem ev_d_146 : ∀ q ∈ ev_c_146, ∀ z ∈ q.2, decode prog_1_method_17_code z.1 = .ok (z.2.1, z.2.2) := List.forall_mem_cons.mpr ⟨ev_d_146_0, fun _ h => absurd h List.not_mem_nil⟩
def ev_c_147_0 : List (Nat × Instr × Nat) := [(0, .aload_n 0, 1), (1, .iload_n 1, 1), (2, .invokevirtual 182, 3), (5, .aload_n 0, 1), (6, .getfield 30, 3), (9, .getfield 85, 3), (12, .getfield 185, 3), (15, .iload_n 1, 1), (16, .aaload, 1), (17, .invokevirtual 254, 3), (20, .ireturn, 1)]
set_option maxRecDepth 100000 in
theorem ev_d_147_0 : ∀ q ∈ ev_c_147_0, decode prog_1_method_18_code q.1 = .ok (q.2.1, q.2.2) := fd_rows (by decide +kernel)
def ev_c_147 : List (Nat × List (Nat × Instr × Nat)) := [(0, ev_c_147_0)]
set_option maxRecDepth 100000 in
theorem ev_d_147 : ∀ q ∈ ev_c_147, ∀ z ∈ q.2, decode prog_1_method_18_code z.1 = .ok (z.2.1, z.2.2) := List.forall_mem_cons.mpr ⟨ev_d_147_0, fun _ h => absurd h List.not_mem_nil⟩
def ev_c_148_0 : List (Nat × Instr × Nat) := [(0, .aload_n 0, 1), (1, .iload_n 1, 1), (2, .invokevirtual 157, 3), (5, .aload_n 0, 1), (6, .getfield 30, 3), (9, .getfield 85, 3), (12, .iload_n 1, 1), (13, .invokevirtual 257, 3), (16, .ireturn, 1)]
set_option maxRecDepth 100000 in
theorem ev_d_148_0 : ∀ q ∈ ev_c_148_0, decode prog_1_method_19_code q.1 = .ok (q.2.1, q.2.2) := fd_rows (by decide +kernel)
def ev_c_148 : List (Nat × List (Nat × Instr × Nat)) := [(0, ev_c_148_0)]
set_option maxRecDepth 100000 in
theorem ev_d_148 : ∀ q ∈ ev_c_148, ∀ z ∈ q.2, decode prog_1_method_19_code z.1 = .ok (z.2.1, z.2.2) := List.forall_mem_cons.mpr ⟨ev_d_148_0, fun _ h => absurd h List.not_mem_nil⟩
def ev_c_149_0 : List (Nat × Instr × Nat) := [(0, .aload_n 0, 1), (1, .iload_n 1, 1), (2, .invokevirtual 182, 3), (5, .aload_n 0, 1), (6, .iload_n 2, 1), (7, .invokevirtual 219, 3), (10, .aload_n 0, 1), (11, .getfield 30, 3), (14, .iload_n 1, 1), (15, .iload_n 2, 1), (16, .invokevirtual 260, 3), (19, .ireturn, 1)]
set_option maxRecDepth 100000 in
theorem ev_d_149_0 : ∀ q ∈ ev_c_149_0, decode prog_1_method_20_code q.1 = .ok (q.2.1, q.2.2) := fd_rows (by decide +kernel)
def ev_c_149 : List (Nat × List (Nat × Instr × Nat)) := [(0, ev_c_149_0)]
set_option maxRecDepth 100000 in
theorem ev_d_149 : ∀ q ∈ ev_c_149, ∀ z ∈ q.2, decode prog_1_method_20_code z.1 = .ok (z.2.1, z.2.2) := List.forall_mem_cons.mpr ⟨ev_d_149_0, fun _ h => absurd h List.not_mem_nil⟩
def ev_c_150_0 : List (Nat × Instr × Nat) := [(0, .aload_n 0, 1), (1, .iload_n 1, 1), (2, .invokevirtual 219, 3), (5, .iload_n 2, 1), (6, .invokestatic 263, 3), (9, .aload_n 0, 1), (10, .getfield 30, 3), (13, .iload_n 1, 1), (14, .iload_n 2, 1), (15, .invokevirtual 266, 3), (18, .ireturn, 1)]
set_option maxRecDepth 100000 in
theorem ev_d_150_0 : ∀ q ∈ ev_c_150_0, decode prog_1_method_21_code q.1 = .ok (q.2.1, q.2.2) := fd_rows (by decide +kernel)
def ev_c_150 : List (Nat × List (Nat × Instr × Nat)) := [(0, ev_c_150_0)]
set_option maxRecDepth 100000 in
theorem ev_d_150 : ∀ q ∈ ev_c_150, ∀ z ∈ q.2, decode prog_1_method_21_code z.1 = .ok (z.2.1, z.2.2) := List.forall_mem_cons.mpr ⟨ev_d_150_0, fun _ h => absurd h List.not_mem_nil⟩
def ev_c_151_0 : List (Nat × Instr × Nat) := [(0, .aload_n 0, 1), (1, .iload_n 1, 1), (2, .invokevirtual 182, 3), (5, .iload_n 2, 1), (6, .invokestatic 263, 3), (9, .aload_n 0, 1), (10, .getfield 30, 3), (13, .getfield 85, 3), (16, .getfield 185, 3), (19, .iload_n 1, 1), (20, .aaload, 1), (21, .iload_n 2, 1), (22, .invokevirtual 269, 3), (25, .ireturn, 1)]
set_option maxRecDepth 100000 in
theorem ev_d_151_0 : ∀ q ∈ ev_c_151_0, decode prog_1_method_22_code q.1 = .ok (q.2.1, q.2.2) := fd_rows (by decide +kernel)
def ev_c_151 : List (Nat × List (Nat × Instr × Nat)) := [(0, ev_c_151_0)]
set_option maxRecDepth 100000 in
theorem ev_d_151 : ∀ q ∈ ev_c_151, ∀ z ∈ q.2, decode prog_1_method_22_code z.1 = .ok (z.2.1, z.2.2) := List.forall_mem_cons.mpr ⟨ev_d_151_0, fun _ h => absurd h List.not_mem_nil⟩
def ev_c_152_0 : List (Nat × Instr × Nat) := [(0, .aload_n 0, 1), (1, .iload_n 1, 1), (2, .invokevirtual 182, 3), (5, .aload_n 0, 1), (6, .getfield 30, 3), (9, .getfield 85, 3), (12, .getfield 185, 3), (15, .iload_n 1, 1), (16, .aaload, 1), (17, .invokevirtual 272, 3), (20, .ireturn, 1)]
set_option maxRecDepth 100000 in
theorem ev_d_152_0 : ∀ q ∈ ev_c_152_0, decode prog_1_method_23_code q.1 = .ok (q.2.1, q.2.2) := fd_rows (by decide +kernel)
def ev_c_152 : List (Nat × List (Nat × Instr × Nat)) := [(0, ev_c_152_0)]
set_option maxRecDepth 100000 in
theorem ev_d_152 : ∀ q ∈ ev_c_152, ∀ z ∈ q.2, decode prog_1_method_23_code z.1 = .ok (z.2.1, z.2.2) := List.forall_mem_cons.mpr ⟨ev_d_152_0, fun _ h => absurd h List.not_mem_nil⟩
def ev_c_153_0 : List (Nat × Instr × Nat) := [(0, .aload_n 0, 1), (1, .iload_n 1, 1), (2, .invokevirtual 219, 3), (5, .iload_n 2, 1), (6, .invokestatic 263, 3), (9, .aload_n 0, 1), (10, .getfield 30, 3), (13, .iload_n 1, 1), (14, .iload_n 2, 1), (15, .invokevirtual 275, 3), (18, .ireturn, 1)]
set_option maxRecDepth 100000 in
theorem ev_d_153_0 : ∀ q ∈ ev_c_153_0, decode prog_1_method_24_code q.1 = .ok (q.2.1, q.2.2) := fd_rows (by decide +kernel)
def ev_c_153 : List (Nat × List (Nat × Instr × Nat)) := [(0, ev_c_153_0)]
set_option maxRecDepth 100000 in
theorem ev_d_153 : ∀ q ∈ ev_c_153, ∀ z ∈ q.2, decode prog_1_method_24_code z.1 = .ok (z.2.1, z.2.2) := List.forall_mem_cons.mpr ⟨ev_d_153_0, fun _ h => absurd h List.not_mem_nil⟩
def ev_c_154_0 : List (Nat × Instr × Nat) := [(0, .aload_n 0, 1), (1, .iload_n 1, 1), (2, .invokevirtual 219, 3), (5, .iload_n 2, 1), (6, .invokestatic 263, 3), (9, .aload_n 0, 1), (10, .getfield 30, 3), (13, .iload_n 1, 1), (14, .aload_n 0, 1), (15, .getfield 30, 3), (18, .iload_n 1, 1), (19, .iload_n 2, 1), (20, .invokevirtual 275, 3), (23, .invokevirtual 278, 3), (26, .ireturn, 1)]
set_option maxRecDepth 100000 in
theorem ev_d_154_0 : ∀ q ∈ ev_c_154_0, decode prog_1_method_25_code q.1 = .ok (q.2.1, q.2.2) := fd_rows (by decide +kernel)
def ev_c_154 : List (Nat × List (Nat × Instr × Nat)) := [(0, ev_c_154_0)]
set_option maxRecDepth 100000 in
theorem ev_d_154 : ∀ q ∈ ev_c_154, ∀ z ∈ q.2, decode prog_1_method_25_code z.1 = .ok (z.2.1, z.2.2) := List.forall_mem_cons.mpr ⟨ev_d_154_0, fun _ h => absurd h List.not_mem_nil⟩
def ev_c_155_0 : List (Nat × Instr × Nat) := [(0, .aload_n 0, 1), (1, .iload_n 1, 1), (2, .invokevirtual 219, 3), (5, .iload_n 2, 1), (6, .invokestatic 263, 3), (9, .aload_n 0, 1), (10, .getfield 30, 3), (13, .iload_n 1, 1), (14, .iload_n 2, 1), (15, .invokevirtual 281, 3), (18, .ireturn, 1)]
set_option maxRecDepth 100000 in
theorem ev_d_155_0 : ∀ q ∈ ev_c_155_0, decode prog_1_method_26_code q.1 = .ok (q.2.1, q.2.2) := fd_rows (by decide +kernel)
def ev_c_155 : List (Nat × List (Nat × Instr × Nat)) := [(0, ev_c_155_0)]
set_option maxRecDepth 100000 in
theorem ev_d_155 : ∀ q ∈ ev_c_155, ∀ z ∈ q.2, decode prog_1_method_26_code z.1 = .ok (z.2.1, z.2.2) := List.forall_mem_cons.mpr ⟨ev_d_155_0, fun _ h => absurd h List.not_mem_nil⟩
def ev_c_156_0 : List (Nat × Instr × Nat) := [(0, .aload_n 0, 1), (1, .iload_n 1, 1), (2, .invokevirtual 219, 3), (5, .aload_n 0, 1), (6, .getfield 30, 3), (9, .iload_n 1, 1), (10, .invokevirtual 284, 3), (13, .ireturn, 1)]
set_option maxRecDepth 100000 in
theorem ev_d_156_0 : ∀ q ∈ ev_c_156_0, decode prog_1_method_27_code q.1 = .ok (q.2.1, q.2.2) := fd_rows (by decide +kernel)
def ev_c_156 : List (Nat × List (Nat × Instr × Nat)) := [(0, ev_c_156_0)]
set_option maxRecDepth 100000 in
theorem ev_d_156 : ∀ q ∈ ev_c_156, ∀ z ∈ q.2, decode prog_1_method_27_code z.1 = .ok (z.2.1, z.2.2) := List.forall_mem_cons.mpr ⟨ev_d_156_0, fun _ h => absurd h List.not_mem_nil⟩
def ev_c_157_0 : List (Nat × Instr × Nat) := [(0, .aload_n 0, 1), (1, .iload_n 1, 1), (2, .invokevirtual 219, 3), (5, .iload_n 2, 1), (6, .invokestatic 263, 3), (9, .aload_n 0, 1), (10, .getfield 30, 3), (13, .iload_n 1, 1), (14, .iload_n 2, 1), (15, .invokevirtual 287, 3), (18, .ireturn, 1)]
set_option maxRecDepth 100000 in
theorem ev_d_157_0 : ∀ q ∈ ev_c_157_0, decode prog_1_method_28_code q.1 = .ok (q.2.1, q.2.2) := fd_rows (by decide +kernel)
def ev_c_157 : List (Nat × List (Nat × Instr × Nat)) := [(0, ev_c_157_0)]
set_option maxRecDepth 100000 in
theorem ev_d_157 : ∀ q ∈ ev_c_157, ∀ z ∈ q.2, decode prog_1_method_28_code z.1 = .ok (z.2.1, z.2.2) := List.forall_mem_cons.mpr ⟨ev_d_157_0, fun _ h => absurd h List.not_mem_nil⟩
def ev_c_158_0 : List (Nat × Instr × Nat) := [(0, .aload_n 0, 1), (1, .iload_n 1, 1), (2, .invokevirtual 182, 3), (5, .aload_n 0, 1), (6, .iload_n 2, 1), (7, .invokevirtual 182, 3), (10, .iload_n 3, 1), (11, .invokestatic 263, 3), (14, .aload_n 0, 1), (15, .getfield 30, 3), (18, .iload_n 1, 1), (19, .iload_n 2, 1), (20, .iload_n 3, 1), (21, .invokevirtual 290, 3), (24, .ireturn, 1)]
set_option maxRecDepth 100000 in
theorem ev_d_158_0 : ∀ q ∈ ev_c_158_0, decode prog_1_method_29_code q.1 = .ok (q.2.1, q.2.2) := fd_rows (by decide +kernel)
def ev_c_158 : List (Nat × List (Nat × Instr × Nat)) := [(0, ev_c_158_0)]
set_option maxRecDepth 100000 in
theorem ev_d_158 : ∀ q ∈ ev_c_158, ∀ z ∈ q.2, decode prog_1_method_29_code z.1 = .ok (z.2.1, z.2.2) := List.forall_mem_cons.mpr ⟨ev_d_158_0, fun _ h => absurd h List.not_mem_nil⟩
def ev_c_159_0 : List (Nat × Instr × Nat) := [(0, .aload_n 0, 1), (1, .invokevirtual 94, 3), (4, .iload_n 1, 1), (5, .invokestatic 263, 3), (8, .aload_n 0, 1), (9, .getfield 30, 3), (12, .iload_n 1, 1), (13, .invokevirtual 294, 3), (16, .ireturn, 1)]
set_option maxRecDepth 100000 in
theorem ev_d_159_0 : ∀ q ∈ ev_c_159_0, decode prog_1_method_30_code q.1 = .ok (q.2.1, q.2.2) := fd_rows (by decide +kernel)
def ev_c_159 : List (Nat × List (Nat × Instr × Nat)) := [(0, ev_c_159_0)]
set_option maxRecDepth 100000 in
theorem ev_d_159 : ∀ q ∈ ev_c_159, ∀ z ∈ q.2, decode prog_1_method_30_code z.1 = .ok (z.2.1, z.2.2) := List.forall_mem_cons.mpr ⟨ev_d_159_0, fun _ h => absurd h List.not_mem_nil⟩
def ev_c_160_0 : List (Nat × Instr × Nat) := [(0, .aload_n 0, 1), (1, .invokevirtual 94, 3), (4, .iload_n 1, 1), (5, .invokestatic 263, 3), (8, .aload_n 0, 1), (9, .getfield 30, 3), (12, .iload_n 1, 1), (13, .invokevirtual 297, 3), (16, .ireturn, 1)]
set_option maxRecDepth 100000 in
theorem ev_d_160_0 : ∀ q ∈ ev_c_160_0, decode prog_1_method_31_code q.1 = .ok (q.2.1, q.2.2) := fd_rows (by decide +kernel)
def ev_c_160 : List (Nat × List (Nat × Instr × Nat)) := [(0, ev_c_160_0)]
set_option maxRecDepth 100000 in
theorem ev_d_160 : ∀ q ∈ ev_c_160, ∀ z ∈ q.2, decode prog_1_method_31_code z.1 = .ok (z.2.1, z.2.2) := List.forall_mem_cons.mpr ⟨ev_d_160_0, fun _ h => absurd h List.not_mem_nil⟩
def ev_c_161_0 : List (Nat × Instr × Nat) := [(0, .aload_n 0, 1), (1, .iload_n 1, 1), (2, .invokevirtual 182, 3), (5, .aload_n 0, 1), (6, .getfield 30, 3), (9, .getfield 85, 3), (12, .getfield 185, 3), (15, .iload_n 1, 1), (16, .aaload, 1), (17, .invokevirtual 300, 3), (20, .ireturn, 1)]
set_option maxRecDepth 100000 in
theorem ev_d_161_0 : ∀ q ∈ ev_c_161_0, decode prog_1_method_32_code q.1 = .ok (q.2.1, q.2.2) := fd_rows (by decide +kernel)
def ev_c_161 : List (Nat × List (Nat × Instr × Nat)) := [(0, ev_c_161_0)]
set_option maxRecDepth 100000 in
theorem ev_d_161 : ∀ q ∈ ev_c_161, ∀ z ∈ q.2, decode prog_1_method_32_code z.1 = .ok (z.2.1, z.2.2) := List.forall_mem_cons.mpr ⟨ev_d_161_0, fun _ h => absurd h List.not_mem_nil⟩
def ev_c_162_0 : List (Nat × Instr × Nat) := [(0, .aload_n 0, 1), (1, .iload_n 1, 1), (2, .invokevirtual 182, 3), (5, .aload_n 0, 1), (6, .getfield 30, 3), (9, .getfield 85, 3), (12, .iload_n 1, 1), (13, .aload_n 0, 1), (14, .getfield 30, 3), (17, .getfield 85, 3), (20, .getfield 122, 3), (23, .invokevirtual 303, 3), (26, .ireturn, 1)]
set_option maxRecDepth 100000 in
theorem ev_d_162_0 : ∀ q ∈ ev_c_162_0, decode prog_1_method_33_code q.1 = .ok (q.2.1, q.2.2) := fd_rows (by decide +kernel)
def ev_c_162 : List (Nat × List (Nat × Instr × Nat)) := [(0, ev_c_162_0)]
set_option maxRecDepth 100000 in
theorem ev_d_162 : ∀ q ∈ ev_c_162, ∀ z ∈ q.2, decode prog_1_method_33_code z.1 = .ok (z.2.1, z.2.2) := List.forall_mem_cons.mpr ⟨ev_d_162_0, fun _ h => absurd h List.not_mem_nil⟩
def ev_c_163_0 : List (Nat × Instr × Nat) := [(0, .aload_n 0, 1), (1, .iload_n 1, 1), (2, .invokevirtual 182, 3), (5, .iload_n 2, 1), (6, .iconst 0, 1), (7, .bipush 9, 2), (9, .invokestatic 97, 3), (12, .aload_n 0, 1), (13, .getfield 30, 3), (16, .getfield 85, 3), (19, .iload_n 1, 1), (20, .iload_n 2, 1), (21, .invokevirtual 303, 3), (24, .ireturn, 1)]
set_option maxRecDepth 100000 in
theorem ev_d_163_0 : ∀ q ∈ ev_c_163_0, decode prog_1_method_34_code q.1 = .ok (q.2.1, q.2.2) := fd_rows (by decide +kernel)
def ev_c_163 : List (Nat × List (Nat × Instr × Nat)) := [(0, ev_c_163_0)]
set_option maxRecDepth 100000 in
theorem ev_d_163 : ∀ q ∈ ev_c_163, ∀ z ∈ q.2, decode prog_1_method_34_code z.1 = .ok (z.2.1, z.2.2) := List.forall_mem_cons.mpr ⟨ev_d_163_0, fun _ h => absurd h List.not_mem_nil⟩
def ev_c_164_0 : List (Nat × Instr × Nat) := [(0, .aload_n 0, 1), (1, .invokevirtual 94, 3), (4, .iload_n 1, 1), (5, .iconst 0, 1), (6, .bipush 99, 2), (8, .invokestatic 97, 3), (11, .aload_n 0, 1), (12, .getfield 30, 3), (15, .getfield 85, 3), (18, .getfield 122, 3), (21, .bipush 7, 2), (23, .if_icmp .lt 21, 3), (26, .iload_n 1, 1), (27, .aload_n 0, 1), (28, .getfield 30, 3), (31, .getfield 85, 3)]
set_option maxRecDepth 100000 in
theorem ev_d_164_0 : ∀ q ∈ ev_c_164_0, decode prog_1_method_35_code q.1 = .ok (q.2.1, q.2.2) := fd_rows (by decide +kernel)
def ev_c_164_1 : List (Nat × Instr × Nat) := [(34, .iconst 2, 1), (35, .invokevirtual 125, 3), (38, .invokestatic 306, 3), (41, .goto 4, 3), (44, .iconst 0, 1), (45, .ireturn, 1)]
set_option maxRecDepth 100000 in
theorem ev_d_164_1 : ∀ q ∈ ev_c_164_1, decode prog_1_method_35_code q.1 = .ok (q.2.1, q.2.2) := fd_rows (by decide +kernel)
def ev_c_164 : List (Nat × List (Nat × Instr × Nat)) := [(0, ev_c_164_0), (1, ev_c_164_1)]
set_option maxRecDepth 100000 in
theorem ev_d_164 : ∀ q ∈ ev_c_164, ∀ z ∈ q.2, decode prog_1_method_35_code z.1 = .ok (z.2.1, z.2.2) := List.forall_mem_cons.mpr ⟨ev_d_164_0, List.forall_mem_cons.mpr ⟨ev_d_164_1, fun _ h => absurd h List.not_mem_nil⟩⟩
def ev_c_165_0 : List (Nat × Instr × Nat) := [(0, .aload_n 0, 1), (1, .iload_n 1, 1), (2, .invokevirtual 157, 3), (5, .iload_n 2, 1), (6, .iconst 0, 1), (7, .bipush 99, 2), (9, .invokestatic 97, 3), (12, .aload_n 0, 1), (13, .getfield 30, 3), (16, .iload_n 1, 1), (17, .iload_n 2, 1), (18, .invokevirtual 311, 3), (21, .ireturn, 1)]
set_option maxRecDepth 100000 in
theorem ev_d_165_0 : ∀ q ∈ ev_c_165_0, decode prog_1_method_36_code q.1 = .ok (q.2.1, q.2.2) := fd_rows (by decide +kernel)
def ev_c_165 : List (Nat × List (Nat × Instr × Nat)) := [(0, ev_c_165_0)]
set_option maxRecDepth 100000 in
theorem ev_d_165 : ∀ q ∈ ev_c_165, ∀ z ∈ q.2, decode prog_1_method_36_code z.1 = .ok (z.2.1, z.2.2) := List.forall_mem_cons.mpr ⟨ev_d_165_0, fun _ h => absurd h List.not_mem_nil⟩
def ev_c_166_0 : List (Nat × Instr × Nat) := [(0, .aload_n 0, 1), (1, .iload_n 1, 1), (2, .invokevirtual 157, 3), (5, .aload_n 0, 1), (6, .getfield 30, 3), (9, .iload_n 1, 1), (10, .invokevirtual 314, 3), (13, .ireturn, 1)]
set_option maxRecDepth 100000 in
theorem ev_d_166_0 : ∀ q ∈ ev_c_166_0, decode prog_1_method_37_code q.1 = .ok (q.2.1, q.2.2) := fd_rows (by decide +kernel)
def ev_c_166 : List (Nat × List (Nat × Instr × Nat)) := [(0, ev_c_166_0)]
set_option maxRecDepth 100000 in
theorem ev_d_166 : ∀ q ∈ ev_c_166, ∀ z ∈ q.2, decode prog_1_method_37_code z.1 = .ok (z.2.1, z.2.2) := List.forall_mem_cons.mpr ⟨ev_d_166_0, fun _ h => absurd h List.not_mem_nil⟩
def ev_c_167_0 : List (Nat × Instr × Nat) := [(0, .aload_n 0, 1), (1, .invokevirtual 94, 3), (4, .aload_n 0, 1), (5, .getfield 30, 3), (8, .invokevirtual 317, 3), (11, .ireturn, 1)]
set_option maxRecDepth 100000 in
theorem ev_d_167_0 : ∀ q ∈ ev_c_167_0, decode prog_1_method_38_code q.1 = .ok (q.2.1, q.2.2) := fd_rows (by decide +kernel)
def ev_c_167 : List (Nat × List (Nat × Instr × Nat)) := [(0, ev_c_167_0)]
set_option maxRecDepth 100000 in
theorem ev_d_167 : ∀ q ∈ ev_c_167, ∀ z ∈ q.2, decode prog_1_method_38_code z.1 = .ok (z.2.1, z.2.2) := List.forall_mem_cons.mpr ⟨ev_d_167_0, fun _ h => absurd h List.not_mem_nil⟩
def ev_c_168_0 : List (Nat × Instr × Nat) := [(0, .aload_n 0, 1), (1, .iload_n 1, 1), (2, .invokevirtual 182, 3), (5, .iload_n 2, 1), (6, .invokestatic 263, 3), (9, .aload_n 0, 1), (10, .getfield 30, 3), (13, .getfield 85, 3), (16, .getfield 185, 3), (19, .iload_n 1, 1), (20, .aaload, 1), (21, .iload_n 2, 1), (22, .invokevirtual 320, 3), (25, .ireturn, 1)]
set_option maxRecDepth 100000 in
theorem ev_d_168_0 : ∀ q ∈ ev_c_168_0, decode prog_1_method_39_code q.1 = .ok (q.2.1, q.2.2) := fd_rows (by decide +kernel)
def ev_c_168 : List (Nat × List (Nat × Instr × Nat)) := [(0, ev_c_168_0)]
set_option maxRecDepth 100000 in
theorem ev_d_168 : ∀ q ∈ ev_c_168, ∀ z ∈ q.2, decode prog_1_method_39_code z.1 = .ok (z.2.1, z.2.2) := List.forall_mem_cons.mpr ⟨ev_d_168_0, fun _ h => absurd h List.not_mem_nil⟩
def ev_c_169_0 : List (Nat × Instr × Nat) := [(0, .aload_n 0, 1), (1, .invokevirtual 94, 3), (4, .aload_n 0, 1), (5, .getfield 30, 3), (8, .getfield 85, 3), (11, .getfield 89, 3), (14, .istore_n 1, 1), (15, .iload_n 1, 1), (16, .ifCond .ne 5, 3), (19, .fconst 0, 1), (20, .freturn, 1), (21, .aload_n 0, 1), (22, .getfield 30, 3), (25, .getfield 85, 3), (28, .invokevirtual 141, 3), (31, .aload_n 0, 1)]
set_option maxRecDepth 100000 in
theorem ev_d_169_0 : ∀ q ∈ ev_c_169_0, decode prog_1_method_40_code q.1 = .ok (q.2.1, q.2.2) := fd_rows (by decide +kernel)
def ev_c_169_1 : List (Nat × Instr × Nat) := [(32, .getfield 30, 3), (35, .getfield 85, 3), (38, .iconst 3, 1), (39, .invokevirtual 125, 3), (42, .iadd, 1), (43, .i2f, 1), (44, .iload_n 1, 1), (45, .i2f, 1), (46, .fdiv, 1), (47, .freturn, 1)]
set_option maxRecDepth 100000 in
theorem ev_d_169_1 : ∀ q ∈ ev_c_169_1, decode prog_1_method_40_code q.1 = .ok (q.2.1, q.2.2) := fd_rows (by decide +kernel)
def ev_c_169 : List (Nat × List (Nat × Instr × Nat)) := [(0, ev_c_169_0), (1, ev_c_169_1)]
set_option maxRecDepth 100000 in
theorem ev_d_169 : ∀ q ∈ ev_c_169, ∀ z ∈ q.2, decode prog_1_method_40_code z.1 = .ok (z.2.1, z.2.2) := List.forall_mem_cons.mpr ⟨ev_d_169_0, List.forall_mem_cons.mpr ⟨ev_d_169_1, fun _ h => absurd h List.not_mem_nil⟩⟩
def ev_c_170_0 : List (Nat × Instr × Nat) := [(0, .aload_n 0, 1), (1, .invokevirtual 94, 3), (4, .aload_n 0, 1), (5, .getfield 30, 3), (8, .getfield 85, 3), (11, .getfield 89, 3), (14, .istore_n 1, 1), (15, .iload_n 1, 1), (16, .ifCond .ne 5, 3), (19, .dconst 0, 1), (20, .dreturn, 1), (21, .aload_n 0, 1), (22, .getfield 30, 3), (25, .getfield 85, 3), (28, .invokevirtual 323, 3), (31, .i2d, 1)]
set_option maxRecDepth 100000 in
theorem ev_d_170_0 : ∀ q ∈ ev_c_170_0, decode prog_1_method_41_code q.1 = .ok (q.2.1, q.2.2) := fd_rows (by decide +kernel)
def ev_c_170_1 : List (Nat × Instr × Nat) := [(32, .iload_n 1, 1), (33, .i2d, 1), (34, .ddiv, 1), (35, .dreturn, 1)]
set_option maxRecDepth 100000 in
theorem ev_d_170_1 : ∀ q ∈ ev_c_170_1, decode prog_1_method_41_code q.1 = .ok (q.2.1, q.2.2) := fd_rows (by decide +kernel)
def ev_c_170 : List (Nat × List (Nat × Instr × Nat)) := [(0, ev_c_170_0), (1, ev_c_170_1)]
set_option maxRecDepth 100000 in
theorem ev_d_170 : ∀ q ∈ ev_c_170, ∀ z ∈ q.2, decode prog_1_method_41_code z.1 = .ok (z.2.1, z.2.2) := List.forall_mem_cons.mpr ⟨ev_d_170_0, List.forall_mem_cons.mpr ⟨ev_d_170_1, fun _ h => absurd h List.not_mem_nil⟩⟩
def ev_c_171_0 : List (Nat × Instr × Nat) := [(0, .aload_n 0, 1), (1, .iload_n 1, 1), (2, .invokevirtual 182, 3), (5, .aload_n 0, 1), (6, .getfield 54, 3), (9, .aload_n 0, 1), (10, .getfield 30, 3), (13, .getfield 85, 3), (16, .getfield 185, 3), (19, .iload_n 1, 1), (20, .aaload, 1), (21, .invokevirtual 326, 3), (24, .aload_n 0, 1), (25, .getfield 54, 3), (28, .getfield 330, 3), (31, .ireturn, 1)]
set_option maxRecDepth 100000 in
theorem ev_d_171_0 : ∀ q ∈ ev_c_171_0, decode prog_1_method_42_code q.1 = .ok (q.2.1, q.2.2) := fd_rows (by decide +kernel)
def ev_c_171 : List (Nat × List (Nat × Instr × Nat)) := [(0, ev_c_171_0)]
set_option maxRecDepth 100000 in
theorem ev_d_171 : ∀ q ∈ ev_c_171, ∀ z ∈ q.2, decode prog_1_method_42_code z.1 = .ok (z.2.1, z.2.2) := List.forall_mem_cons.mpr ⟨ev_d_171_0, fun _ h => absurd h List.not_mem_nil⟩
def ev_c_172_0 : List (Nat × Instr × Nat) := [(0, .aload_n 0, 1), (1, .iload_n 1, 1), (2, .invokevirtual 219, 3), (5, .aload_n 0, 1), (6, .getfield 54, 3), (9, .aload_n 0, 1), (10, .getfield 30, 3), (13, .getfield 85, 3), (16, .iload_n 1, 1), (17, .invokevirtual 333, 3), (20, .aload_n 0, 1), (21, .getfield 54, 3), (24, .getfield 330, 3), (27, .ireturn, 1)]
set_option maxRecDepth 100000 in
theorem ev_d_172_0 : ∀ q ∈ ev_c_172_0, decode prog_1_method_43_code q.1 = .ok (q.2.1, q.2.2) := fd_rows (by decide +kernel)
def ev_c_172 : List (Nat × List (Nat × Instr × Nat)) := [(0, ev_c_172_0)]
set_option maxRecDepth 100000 in
theorem ev_d_172 : ∀ q ∈ ev_c_172, ∀ z ∈ q.2, decode prog_1_method_43_code z.1 = .ok (z.2.1, z.2.2) := List.forall_mem_cons.mpr ⟨ev_d_172_0, fun _ h => absurd h List.not_mem_nil⟩
def ev_c_173_0 : List (Nat × Instr × Nat) := [(0, .aload_n 0, 1), (1, .iload_n 1, 1), (2, .invokevirtual 157, 3), (5, .aload_n 0, 1), (6, .getfield 54, 3), (9, .aload_n 0, 1), (10, .getfield 30, 3), (13, .getfield 85, 3), (16, .iload_n 1, 1), (17, .invokevirtual 337, 3), (20, .aload_n 0, 1), (21, .getfield 54, 3), (24, .getfield 330, 3), (27, .ireturn, 1)]
set_option maxRecDepth 100000 in
theorem ev_d_173_0 : ∀ q ∈ ev_c_173_0, decode prog_1_method_44_code q.1 = .ok (q.2.1, q.2.2) := fd_rows (by decide +kernel)
def ev_c_173 : List (Nat × List (Nat × Instr × Nat)) := [(0, ev_c_173_0)]
set_option maxRecDepth 100000 in
theorem ev_d_173 : ∀ q ∈ ev_c_173, ∀ z ∈ q.2, decode prog_1_method_44_code z.1 = .ok (z.2.1, z.2.2) := List.forall_mem_cons.mpr ⟨ev_d_173_0, fun _ h => absurd h List.not_mem_nil⟩
def ev_c_174_0 : List (Nat × Instr × Nat) := [(0, .aload_n 0, 1), (1, .invokevirtual 94, 3), (4, .aload_n 0, 1), (5, .getfield 54, 3), (8, .aload_n 0, 1), (9, .getfield 30, 3), (12, .getfield 85, 3), (15, .aload_n 0, 1), (16, .getfield 30, 3), (19, .getfield 101, 3), (22, .getfield 116, 3), (25, .invokevirtual 340, 3), (28, .aload_n 0, 1), (29, .getfield 54, 3)]
set_option maxRecDepth 100000 in
theorem ev_d_174_0 : ∀ q ∈ ev_c_174_0, decode prog_1_method_45_code q.1 = .ok (q.2.1, q.2.2) := fd_rows (by decide +kernel)
def ev_c_174_1 : List (Nat × Instr × Nat) := [(32, .getfield 330, 3), (35, .ireturn, 1)]
set_option maxRecDepth 100000 in
theorem ev_d_174_1 : ∀ q ∈ ev_c_174_1, decode prog_1_method_45_code q.1 = .ok (q.2.1, q.2.2) := fd_rows (by decide +kernel)
def ev_c_174 : List (Nat × List (Nat × Instr × Nat)) := [(0, ev_c_174_0), (1, ev_c_174_1)]
set_option maxRecDepth 100000 in
theorem ev_d_174 : ∀ q ∈ ev_c_174, ∀ z ∈ q.2, decode prog_1_method_45_code z.1 = .ok (z.2.1, z.2.2) := List.forall_mem_cons.mpr ⟨ev_d_174_0, List.forall_mem_cons.mpr ⟨ev_d_174_1, fun _ h => absurd h List.not_mem_nil⟩⟩
def ev_c_175_0 : List (Nat × Instr × Nat) := [(0, .iload_n 1, 1), (1, .ifCond .lt 14, 3), (4, .iload_n 1, 1), (5, .aload_n 0, 1), (6, .getfield 54, 3), (9, .getfield 330, 3), (12, .if_icmp .lt 14, 3), (15, .new 62, 3), (18, .dup, 1), (19, .ldc_w 343, 3), (22, .invokespecial 66, 3), (25, .athrow, 1), (26, .aload_n 0, 1), (27, .getfield 54, 3), (30, .getfield 345, 3)]
set_option maxRecDepth 100000 in
theorem ev_d_175_0 : ∀ q ∈ ev_c_175_0, decode prog_1_method_46_code q.1 = .ok (q.2.1, q.2.2) := fd_rows (by decide +kernel)
def ev_c_175_1 : List (Nat × Instr × Nat) := [(33, .iload_n 1, 1), (34, .iaload, 1), (35, .ireturn, 1)]
set_option maxRecDepth 100000 in
theorem ev_d_175_1 : ∀ q ∈ ev_c_175_1, decode prog_1_method_46_code q.1 = .ok (q.2.1, q.2.2) := fd_rows (by decide +kernel)
def ev_c_175 : List (Nat × List (Nat × Instr × Nat)) := [(0, ev_c_175_0), (1, ev_c_175_1)]
set_option maxRecDepth 100000 in
theorem ev_d_175 : ∀ q ∈ ev_c_175, ∀ z ∈ q.2, decode prog_1_method_46_code z.1 = .ok (z.2.1, z.2.2) := List.forall_mem_cons.mpr ⟨ev_d_175_0, List.forall_mem_cons.mpr ⟨ev_d_175_1, fun _ h => absurd h List.not_mem_nil⟩⟩
def ev_c_176_0 : List (Nat × Instr × Nat) := [(0, .aload_n 0, 1), (1, .iload_n 1, 1), (2, .invokevirtual 182, 3), (5, .aload_n 0, 1), (6, .iload_n 2, 1), (7, .invokevirtual 219, 3), (10, .aload_n 0, 1), (11, .getfield 30, 3), (14, .iload_n 1, 1), (15, .iload_n 2, 1), (16, .invokevirtual 260, 3), (19, .ifCond .ne 7, 3), (22, .iconst 1, 1), (23, .goto 4, 3), (26, .iconst 0, 1), (27, .invokestatic 348, 3), (30, .aload_n 0, 1), (31, .getfield 47, 3)]
set_option maxRecDepth 100000 in
theorem ev_d_176_0 : ∀ q ∈ ev_c_176_0, decode prog_1_method_47_code q.1 = .ok (q.2.1, q.2.2) := fd_rows (by decide +kernel)
def ev_c_176_1 : List (Nat × Instr × Nat) := [(34, .aload_n 0, 1), (35, .getfield 30, 3), (38, .getfield 85, 3), (41, .invokevirtual 352, 3), (44, .aload_n 0, 1), (45, .getfield 30, 3), (48, .getfield 85, 3), (51, .iload_n 1, 1), (52, .iload_n 2, 1), (53, .invokevirtual 356, 3), (56, .ireturn, 1)]
set_option maxRecDepth 100000 in
theorem ev_d_176_1 : ∀ q ∈ ev_c_176_1, decode prog_1_method_47_code q.1 = .ok (q.2.1, q.2.2) := fd_rows (by decide +kernel)
def ev_c_176 : List (Nat × List (Nat × Instr × Nat)) := [(0, ev_c_176_0), (1, ev_c_176_1)]
set_option maxRecDepth 100000 in
theorem ev_d_176 : ∀ q ∈ ev_c_176, ∀ z ∈ q.2, decode prog_1_method_47_code z.1 = .ok (z.2.1, z.2.2) := List.forall_mem_cons.mpr ⟨ev_d_176_0, List.forall_mem_cons.mpr ⟨ev_d_176_1, fun _ h => absurd h List.not_mem_nil⟩⟩
def ev_c_177_0 : List (Nat × Instr × Nat) := [(0, .aload_n 0, 1), (1, .iload_n 1, 1), (2, .invokevirtual 219, 3), (5, .iload_n 2, 1), (6, .invokestatic 263, 3), (9, .aload_n 0, 1), (10, .getfield 30, 3), (13, .iload_n 1, 1), (14, .iload_n 2, 1), (15, .invokevirtual 266, 3), (18, .ifCond .ne 7, 3), (21, .iconst 1, 1), (22, .goto 4, 3), (25, .iconst 0, 1), (26, .invokestatic 348, 3), (29, .aload_n 0, 1), (30, .getfield 47, 3)]
set_option maxRecDepth 100000 in
theorem ev_d_177_0 : ∀ q ∈ ev_c_177_0, decode prog_1_method_48_code q.1 = .ok (q.2.1, q.2.2) := fd_rows (by decide +kernel)
def ev_c_177_1 : List (Nat × Instr × Nat) := [(33, .aload_n 0, 1), (34, .getfield 30, 3), (37, .getfield 85, 3), (40, .invokevirtual 352, 3), (43, .aload_n 0, 1), (44, .getfield 30, 3), (47, .iload_n 1, 1), (48, .iload_n 2, 1), (49, .invokevirtual 359, 3), (52, .ireturn, 1)]
set_option maxRecDepth 100000 in
theorem ev_d_177_1 : ∀ q ∈ ev_c_177_1, decode prog_1_method_48_code q.1 = .ok (q.2.1, q.2.2) := fd_rows (by decide +kernel)
def ev_c_177 : List (Nat × List (Nat × Instr × Nat)) := [(0, ev_c_177_0), (1, ev_c_177_1)]
set_option maxRecDepth 100000 in
theorem ev_d_177 : ∀ q ∈ ev_c_177, ∀ z ∈ q.2, decode prog_1_method_48_code z.1 = .ok (z.2.1, z.2.2) := List.forall_mem_cons.mpr ⟨ev_d_177_0, List.forall_mem_cons.mpr ⟨ev_d_177_1, fun _ h => absurd h List.not_mem_nil⟩⟩
def ev_c_178_0 : List (Nat × Instr × Nat) := [(0, .aload_n 0, 1), (1, .iload_n 1, 1), (2, .invokevirtual 182, 3), (5, .aload_n 0, 1), (6, .getfield 30, 3), (9, .iload_n 1, 1), (10, .invokevirtual 362, 3), (13, .invokestatic 348, 3), (16, .aload_n 0, 1), (17, .getfield 47, 3), (20, .aload_n 0, 1), (21, .getfield 30, 3), (24, .getfield 85, 3), (27, .invokevirtual 352, 3), (30, .aload_n 0, 1), (31, .getfield 30, 3)]
set_option maxRecDepth 100000 in
theorem ev_d_178_0 : ∀ q ∈ ev_c_178_0, decode prog_1_method_49_code q.1 = .ok (q.2.1, q.2.2) := fd_rows (by decide +kernel)
def ev_c_178_1 : List (Nat × Instr × Nat) := [(34, .iload_n 1, 1), (35, .invokevirtual 365, 3), (38, .ireturn, 1)]
set_option maxRecDepth 100000 in
theorem ev_d_178_1 : ∀ q ∈ ev_c_178_1, decode prog_1_method_49_code q.1 = .ok (q.2.1, q.2.2) := fd_rows (by decide +kernel)
def ev_c_178 : List (Nat × List (Nat × Instr × Nat)) := [(0, ev_c_178_0), (1, ev_c_178_1)]
set_option maxRecDepth 100000 in
theorem ev_d_178 : ∀ q ∈ ev_c_178, ∀ z ∈ q.2, decode prog_1_method_49_code z.1 = .ok (z.2.1, z.2.2) := List.forall_mem_cons.mpr ⟨ev_d_178_0, List.forall_mem_cons.mpr ⟨ev_d_178_1, fun _ h => absurd h List.not_mem_nil⟩⟩
def ev_c_179_0 : List (Nat × Instr × Nat) := [(0, .aload_n 0, 1), (1, .invokevirtual 94, 3), (4, .aload_n 0, 1), (5, .getfield 47, 3), (8, .aload_n 0, 1), (9, .getfield 30, 3), (12, .getfield 85, 3), (15, .invokevirtual 352, 3), (18, .aload_n 0, 1), (19, .getfield 30, 3), (22, .invokevirtual 368, 3), (25, .ireturn, 1)]
set_option maxRecDepth 100000 in
theorem ev_d_179_0 : ∀ q ∈ ev_c_179_0, decode prog_1_method_50_code q.1 = .ok (q.2.1, q.2.2) := fd_rows (by decide +kernel)
def ev_c_179 : List (Nat × List (Nat × Instr × Nat)) := [(0, ev_c_179_0)]
set_option maxRecDepth 100000 in
theorem ev_d_179 : ∀ q ∈ ev_c_179, ∀ z ∈ q.2, decode prog_1_method_50_code z.1 = .ok (z.2.1, z.2.2) := List.forall_mem_cons.mpr ⟨ev_d_179_0, fun _ h => absurd h List.not_mem_nil⟩
def ev_c_180_0 : List (Nat × Instr × Nat) := [(0, .aload_n 0, 1), (1, .iload_n 1, 1), (2, .invokevirtual 182, 3), (5, .aload_n 0, 1), (6, .getfield 30, 3), (9, .getfield 85, 3), (12, .getfield 185, 3), (15, .iload_n 1, 1), (16, .aaload, 1), (17, .astore_n 2, 1), (18, .aload_n 2, 1), (19, .getfield 213, 3), (22, .iconst 2, 1), (23, .if_icmp .eq 11, 3), (26, .aload_n 2, 1), (27, .getfield 213, 3), (30, .iconst 1, 1), (31, .if_icmp .ne 7, 3)]
set_option maxRecDepth 100000 in
theorem ev_d_180_0 : ∀ q ∈ ev_c_180_0, decode prog_1_method_51_code q.1 = .ok (q.2.1, q.2.2) := fd_rows (by decide +kernel)
def ev_c_180_1 : List (Nat × Instr × Nat) := [(34, .iconst 1, 1), (35, .goto 4, 3), (38, .iconst 0, 1), (39, .invokestatic 348, 3), (42, .aload_n 0, 1), (43, .getfield 47, 3), (46, .aload_n 0, 1), (47, .getfield 30, 3), (50, .getfield 85, 3), (53, .invokevirtual 352, 3), (56, .aload_n 0, 1), (57, .getfield 30, 3), (60, .getfield 85, 3), (63, .iload_n 1, 1)]
set_option maxRecDepth 100000 in
theorem ev_d_180_1 : ∀ q ∈ ev_c_180_1, decode prog_1_method_51_code q.1 = .ok (q.2.1, q.2.2) := fd_rows (by decide +kernel)
def ev_c_180_2 : List (Nat × Instr × Nat) := [(64, .invokevirtual 371, 3), (67, .aload_n 2, 1), (68, .getfield 201, 3), (71, .ireturn, 1)]
set_option maxRecDepth 100000 in
theorem ev_d_180_2 : ∀ q ∈ ev_c_180_2, decode prog_1_method_51_code q.1 = .ok (q.2.1, q.2.2) := fd_rows (by decide +kernel)
def ev_c_180 : List (Nat × List (Nat × Instr × Nat)) := [(0, ev_c_180_0), (1, ev_c_180_1), (2, ev_c_180_2)]
set_option maxRecDepth 100000 in
theorem ev_d_180 : ∀ q ∈ ev_c_180, ∀ z ∈ q.2, decode prog_1_method_51_code z.1 = .ok (z.2.1, z.2.2) := List.forall_mem_cons.mpr ⟨ev_d_180_0, List.forall_mem_cons.mpr ⟨ev_d_180_1, List.forall_mem_cons.mpr ⟨ev_d_180_2, fun _ h => absurd h List.not_mem_nil⟩⟩⟩
def ev_c_181_0 : List (Nat × Instr × Nat) := [(0, .aload_n 0, 1), (1, .iload_n 1, 1), (2, .invokevirtual 219, 3), (5, .aload_n 0, 1), (6, .getfield 47, 3), (9, .aload_n 0, 1), (10, .getfield 30, 3), (13, .getfield 85, 3), (16, .invokevirtual 352, 3), (19, .aload_n 0, 1), (20, .getfield 30, 3), (23, .getfield 85, 3), (26, .iload_n 1, 1), (27, .invokevirtual 374, 3), (30, .ireturn, 1)]
set_option maxRecDepth 100000 in
theorem ev_d_181_0 : ∀ q ∈ ev_c_181_0, decode prog_1_method_52_code q.1 = .ok (q.2.1, q.2.2) := fd_rows (by decide +kernel)
def ev_c_181 : List (Nat × List (Nat × Instr × Nat)) := [(0, ev_c_181_0)]
set_option maxRecDepth 100000 in
theorem ev_d_181 : ∀ q ∈ ev_c_181, ∀ z ∈ q.2, decode prog_1_method_52_code z.1 = .ok (z.2.1, z.2.2) := List.forall_mem_cons.mpr ⟨ev_d_181_0, fun _ h => absurd h List.not_mem_nil⟩
def ev_c_182_0 : List (Nat × Instr × Nat) := [(0, .aload_n 0, 1), (1, .iload_n 1, 1), (2, .invokevirtual 182, 3), (5, .iload_n 2, 1), (6, .invokestatic 263, 3), (9, .aload_n 0, 1), (10, .getfield 30, 3), (13, .getfield 85, 3), (16, .getfield 185, 3), (19, .iload_n 1, 1), (20, .aaload, 1), (21, .astore_n 3, 1), (22, .aload_n 3, 1), (23, .iload_n 2, 1), (24, .invokevirtual 269, 3), (27, .ifCond .ne 7, 3), (30, .iconst 1, 1), (31, .goto 4, 3)]
set_option maxRecDepth 100000 in
theorem ev_d_182_0 : ∀ q ∈ ev_c_182_0, decode prog_1_method_53_code q.1 = .ok (q.2.1, q.2.2) := fd_rows (by decide +kernel)
def ev_c_182_1 : List (Nat × Instr × Nat) := [(34, .iconst 0, 1), (35, .invokestatic 348, 3), (38, .aload_n 0, 1), (39, .getfield 47, 3), (42, .aload_n 0, 1), (43, .getfield 30, 3), (46, .getfield 85, 3), (49, .invokevirtual 352, 3), (52, .aload_n 3, 1), (53, .iload_n 2, 1), (54, .invokevirtual 377, 3), (57, .aload_n 3, 1), (58, .getfield 204, 3), (61, .ireturn, 1)]
set_option maxRecDepth 100000 in
theorem ev_d_182_1 : ∀ q ∈ ev_c_182_1, decode prog_1_method_53_code q.1 = .ok (q.2.1, q.2.2) := fd_rows (by decide +kernel)
def ev_c_182 : List (Nat × List (Nat × Instr × Nat)) := [(0, ev_c_182_0), (1, ev_c_182_1)]
set_option maxRecDepth 100000 in
theorem ev_d_182 : ∀ q ∈ ev_c_182, ∀ z ∈ q.2, decode prog_1_method_53_code z.1 = .ok (z.2.1, z.2.2) := List.forall_mem_cons.mpr ⟨ev_d_182_0, List.forall_mem_cons.mpr ⟨ev_d_182_1, fun _ h => absurd h List.not_mem_nil⟩⟩
def ev_c_183_0 : List (Nat × Instr × Nat) := [(0, .aload_n 0, 1), (1, .iload_n 1, 1), (2, .invokevirtual 182, 3), (5, .aload_n 0, 1), (6, .getfield 30, 3), (9, .getfield 85, 3), (12, .getfield 185, 3), (15, .iload_n 1, 1), (16, .aaload, 1), (17, .astore_n 2, 1), (18, .aload_n 2, 1), (19, .invokevirtual 272, 3), (22, .ifCond .ne 7, 3), (25, .iconst 1, 1), (26, .goto 4, 3), (29, .iconst 0, 1), (30, .invokestatic 348, 3)]
set_option maxRecDepth 100000 in
theorem ev_d_183_0 : ∀ q ∈ ev_c_183_0, decode prog_1_method_54_code q.1 = .ok (q.2.1, q.2.2) := fd_rows (by decide +kernel)
def ev_c_183_1 : List (Nat × Instr × Nat) := [(33, .aload_n 0, 1), (34, .getfield 47, 3), (37, .aload_n 0, 1), (38, .getfield 30, 3), (41, .getfield 85, 3), (44, .invokevirtual 352, 3), (47, .aload_n 2, 1), (48, .invokevirtual 380, 3), (51, .ireturn, 1)]
set_option maxRecDepth 100000 in
theorem ev_d_183_1 : ∀ q ∈ ev_c_183_1, decode prog_1_method_54_code q.1 = .ok (q.2.1, q.2.2) := fd_rows (by decide +kernel)
def ev_c_183 : List (Nat × List (Nat × Instr × Nat)) := [(0, ev_c_183_0), (1, ev_c_183_1)]
set_option maxRecDepth 100000 in
theorem ev_d_183 : ∀ q ∈ ev_c_183, ∀ z ∈ q.2, decode prog_1_method_54_code z.1 = .ok (z.2.1, z.2.2) := List.forall_mem_cons.mpr ⟨ev_d_183_0, List.forall_mem_cons.mpr ⟨ev_d_183_1, fun _ h => absurd h List.not_mem_nil⟩⟩
def ev_c_184_0 : List (Nat × Instr × Nat) := [(0, .aload_n 0, 1), (1, .iload_n 1, 1), (2, .invokevirtual 157, 3), (5, .aload_n 0, 1), (6, .getfield 30, 3), (9, .iload_n 1, 1), (10, .invokevirtual 383, 3), (13, .invokestatic 348, 3), (16, .aload_n 0, 1), (17, .getfield 47, 3), (20, .aload_n 0, 1), (21, .getfield 30, 3), (24, .getfield 85, 3), (27, .invokevirtual 352, 3), (30, .aload_n 0, 1), (31, .getfield 30, 3)]
set_option maxRecDepth 100000 in
theorem ev_d_184_0 : ∀ q ∈ ev_c_184_0, decode prog_1_method_55_code q.1 = .ok (q.2.1, q.2.2) := fd_rows (by decide +kernel)
def ev_c_184_1 : List (Nat × Instr × Nat) := [(34, .iload_n 1, 1), (35, .invokevirtual 386, 3), (38, .ireturn, 1)]
set_option maxRecDepth 100000 in
theorem ev_d_184_1 : ∀ q ∈ ev_c_184_1, decode prog_1_method_55_code q.1 = .ok (q.2.1, q.2.2) := fd_rows (by decide +kernel)
def ev_c_184 : List (Nat × List (Nat × Instr × Nat)) := [(0, ev_c_184_0), (1, ev_c_184_1)]
set_option maxRecDepth 100000 in
theorem ev_d_184 : ∀ q ∈ ev_c_184, ∀ z ∈ q.2, decode prog_1_method_55_code z.1 = .ok (z.2.1, z.2.2) := List.forall_mem_cons.mpr ⟨ev_d_184_0, List.forall_mem_cons.mpr ⟨ev_d_184_1, fun _ h => absurd h List.not_mem_nil⟩⟩
def ev_c_185_0 : List (Nat × Instr × Nat) := [(0, .aload_n 0, 1), (1, .invokevirtual 94, 3), (4, .iload_n 1, 1), (5, .iconst 1, 1), (6, .bipush 50, 2), (8, .invokestatic 97, 3), (11, .aload_n 0, 1), (12, .getfield 47, 3), (15, .aload_n 0, 1), (16, .getfield 30, 3), (19, .getfield 85, 3), (22, .invokevirtual 352, 3), (25, .aload_n 0, 1), (26, .getfield 30, 3), (29, .getfield 85, 3)]
set_option maxRecDepth 100000 in
theorem ev_d_185_0 : ∀ q ∈ ev_c_185_0, decode prog_1_method_56_code q.1 = .ok (q.2.1, q.2.2) := fd_rows (by decide +kernel)
def ev_c_185_1 : List (Nat × Instr × Nat) := [(32, .iload_n 1, 1), (33, .invokevirtual 389, 3), (36, .ireturn, 1)]
set_option maxRecDepth 100000 in
theorem ev_d_185_1 : ∀ q ∈ ev_c_185_1, decode prog_1_method_56_code q.1 = .ok (q.2.1, q.2.2) := fd_rows (by decide +kernel)
def ev_c_185 : List (Nat × List (Nat × Instr × Nat)) := [(0, ev_c_185_0), (1, ev_c_185_1)]
set_option maxRecDepth 100000 in
theorem ev_d_185 : ∀ q ∈ ev_c_185, ∀ z ∈ q.2, decode prog_1_method_56_code z.1 = .ok (z.2.1, z.2.2) := List.forall_mem_cons.mpr ⟨ev_d_185_0, List.forall_mem_cons.mpr ⟨ev_d_185_1, fun _ h => absurd h List.not_mem_nil⟩⟩
def ev_c_186_0 : List (Nat × Instr × Nat) := [(0, .aload_n 0, 1), (1, .invokevirtual 94, 3), (4, .iload_n 1, 1), (5, .iconst 0, 1), (6, .bipush 9, 2), (8, .invokestatic 97, 3), (11, .aload_n 0, 1), (12, .getfield 47, 3), (15, .aload_n 0, 1), (16, .getfield 30, 3), (19, .getfield 85, 3), (22, .invokevirtual 352, 3), (25, .aload_n 0, 1), (26, .getfield 30, 3), (29, .getfield 85, 3)]
set_option maxRecDepth 100000 in
theorem ev_d_186_0 : ∀ q ∈ ev_c_186_0, decode prog_1_method_57_code q.1 = .ok (q.2.1, q.2.2) := fd_rows (by decide +kernel)
def ev_c_186_1 : List (Nat × Instr × Nat) := [(32, .getfield 122, 3), (35, .istore_n 2, 1), (36, .aload_n 0, 1), (37, .getfield 30, 3), (40, .getfield 85, 3), (43, .iload_n 1, 1), (44, .putfield 122, 3), (47, .iload_n 2, 1), (48, .ireturn, 1)]
set_option maxRecDepth 100000 in
theorem ev_d_186_1 : ∀ q ∈ ev_c_186_1, decode prog_1_method_57_code q.1 = .ok (q.2.1, q.2.2) := fd_rows (by decide +kernel)
def ev_c_186 : List (Nat × List (Nat × Instr × Nat)) := [(0, ev_c_186_0), (1, ev_c_186_1)]
set_option maxRecDepth 100000 in
theorem ev_d_186 : ∀ q ∈ ev_c_186, ∀ z ∈ q.2, decode prog_1_method_57_code z.1 = .ok (z.2.1, z.2.2) := List.forall_mem_cons.mpr ⟨ev_d_186_0, List.forall_mem_cons.mpr ⟨ev_d_186_1, fun _ h => absurd h List.not_mem_nil⟩⟩
def ev_c_187_0 : List (Nat × Instr × Nat) := [(0, .aload_n 0, 1), (1, .iload_n 1, 1), (2, .invokevirtual 157, 3), (5, .iload_n 2, 1), (6, .iconst 1, 1), (7, .aload_n 0, 1), (8, .getfield 30, 3), (11, .getfield 101, 3), (14, .invokevirtual 392, 3), (17, .invokestatic 97, 3), (20, .iload_n 3, 1), (21, .iconst 0, 1), (22, .iconst 3, 1), (23, .invokestatic 97, 3), (26, .iload 4, 2), (28, .iconst 0, 1), (29, .bipush 9, 2), (31, .invokestatic 97, 3)]
set_option maxRecDepth 100000 in
theorem ev_d_187_0 : ∀ q ∈ ev_c_187_0, decode prog_1_method_58_code q.1 = .ok (q.2.1, q.2.2) := fd_rows (by decide +kernel)
def ev_c_187_1 : List (Nat × Instr × Nat) := [(34, .aload_n 0, 1), (35, .getfield 30, 3), (38, .getfield 85, 3), (41, .iload_n 1, 1), (42, .invokevirtual 175, 3), (45, .ifCond .ne 22, 3), (48, .aload_n 0, 1), (49, .getfield 30, 3), (52, .getfield 85, 3), (55, .getfield 89, 3), (58, .bipush 12, 2), (60, .if_icmp .ge 7, 3), (63, .iconst 1, 1)]
set_option maxRecDepth 100000 in
theorem ev_d_187_1 : ∀ q ∈ ev_c_187_1, decode prog_1_method_58_code q.1 = .ok (q.2.1, q.2.2) := fd_rows (by decide +kernel)
def ev_c_187_2 : List (Nat × Instr × Nat) := [(64, .goto 4, 3), (67, .iconst 0, 1), (68, .invokestatic 348, 3), (71, .aload_n 0, 1), (72, .getfield 47, 3), (75, .aload_n 0, 1), (76, .getfield 30, 3), (79, .getfield 85, 3), (82, .invokevirtual 352, 3), (85, .aload_n 0, 1), (86, .getfield 30, 3), (89, .getfield 85, 3), (92, .iload_n 1, 1), (93, .iload_n 2, 1), (94, .iload_n 3, 1), (95, .iload 4, 2)]
set_option maxRecDepth 100000 in
theorem ev_d_187_2 : ∀ q ∈ ev_c_187_2, decode prog_1_method_58_code q.1 = .ok (q.2.1, q.2.2) := fd_rows (by decide +kernel)
def ev_c_187_3 : List (Nat × Instr × Nat) := [(97, .invokevirtual 395, 3), (100, .ireturn, 1)]
set_option maxRecDepth 100000 in
theorem ev_d_187_3 : ∀ q ∈ ev_c_187_3, decode prog_1_method_58_code q.1 = .ok (q.2.1, q.2.2) := fd_rows (by decide +kernel)
def ev_c_187 : List (Nat × List (Nat × Instr × Nat)) := [(0, ev_c_187_0), (1, ev_c_187_1), (2, ev_c_187_2), (3, ev_c_187_3)]
set_option maxRecDepth 100000 in
theorem ev_d_187 : ∀ q ∈ ev_c_187, ∀ z ∈ q.2, decode prog_1_method_58_code z.1 = .ok (z.2.1, z.2.2) := List.forall_mem_cons.mpr ⟨ev_d_187_0, List.forall_mem_cons.mpr ⟨ev_d_187_1, List.forall_mem_cons.mpr ⟨ev_d_187_2, List.forall_mem_cons.mpr ⟨ev_d_187_3, fun _ h => absurd h List.not_mem_nil⟩⟩⟩⟩
def ev_c_188_0 : List (Nat × Instr × Nat) := [(0, .aload_n 0, 1), (1, .getfield 47, 3), (4, .getfield 399, 3), (7, .ifCond .ne 14, 3), (10, .new 402, 3), (13, .dup, 1), (14, .ldc_w 404, 3), (17, .invokespecial 406, 3), (20, .athrow, 1), (21, .aload_n 0, 1), (22, .getfield 47, 3), (25, .aload_n 0, 1), (26, .getfield 30, 3), (29, .getfield 85, 3)]
set_option maxRecDepth 100000 in
theorem ev_d_188_0 : ∀ q ∈ ev_c_188_0, decode prog_1_method_59_code q.1 = .ok (q.2.1, q.2.2) := fd_rows (by decide +kernel)
def ev_c_188_1 : List (Nat × Instr × Nat) := [(32, .invokevirtual 407, 3), (35, .aload_n 0, 1), (36, .getfield 47, 3), (39, .getfield 399, 3), (42, .ireturn, 1)]
set_option maxRecDepth 100000 in
theorem ev_d_188_1 : ∀ q ∈ ev_c_188_1, decode prog_1_method_59_code q.1 = .ok (q.2.1, q.2.2) := fd_rows (by decide +kernel)
def ev_c_188 : List (Nat × List (Nat × Instr × Nat)) := [(0, ev_c_188_0), (1, ev_c_188_1)]
set_option maxRecDepth 100000 in
theorem ev_d_188 : ∀ q ∈ ev_c_188, ∀ z ∈ q.2, decode prog_1_method_59_code z.1 = .ok (z.2.1, z.2.2) := List.forall_mem_cons.mpr ⟨ev_d_188_0, List.forall_mem_cons.mpr ⟨ev_d_188_1, fun _ h => absurd h List.not_mem_nil⟩⟩
def ev_c_189_0 : List (Nat × Instr × Nat) := [(0, .aload_n 0, 1), (1, .getfield 47, 3), (4, .getfield 399, 3), (7, .ireturn, 1)]
set_option maxRecDepth 100000 in
theorem ev_d_189_0 : ∀ q ∈ ev_c_189_0, decode prog_1_method_60_code q.1 = .ok (q.2.1, q.2.2) := fd_rows (by decide +kernel)
def ev_c_189 : List (Nat × List (Nat × Instr × Nat)) := [(0, ev_c_189_0)]
set_option maxRecDepth 100000 in
theorem ev_d_189 : ∀ q ∈ ev_c_189, ∀ z ∈ q.2, decode prog_1_method_60_code z.1 = .ok (z.2.1, z.2.2) := List.forall_mem_cons.mpr ⟨ev_d_189_0, fun _ h => absurd h List.not_mem_nil⟩
def ev_c_190_0 : List (Nat × Instr × Nat) := [(0, .aload_n 0, 1), (1, .invokevirtual 94, 3), (4, .iload_n 1, 1), (5, .invokestatic 410, 3), (8, .aload_n 0, 1), (9, .getfield 47, 3), (12, .iload_n 1, 1), (13, .aload_n 0, 1), (14, .getfield 30, 3), (17, .getfield 85, 3), (20, .invokevirtual 413, 3), (23, .aload_n 0, 1), (24, .getfield 30, 3), (27, .getfield 85, 3), (30, .getfield 119, 3)]
set_option maxRecDepth 100000 in
theorem ev_d_190_0 : ∀ q ∈ ev_c_190_0, decode prog_1_method_61_code q.1 = .ok (q.2.1, q.2.2) := fd_rows (by decide +kernel)
def ev_c_190_1 : List (Nat × Instr × Nat) := [(33, .ireturn, 1)]
set_option maxRecDepth 100000 in
theorem ev_d_190_1 : ∀ q ∈ ev_c_190_1, decode prog_1_method_61_code q.1 = .ok (q.2.1, q.2.2) := fd_rows (by decide +kernel)
def ev_c_190 : List (Nat × List (Nat × Instr × Nat)) := [(0, ev_c_190_0), (1, ev_c_190_1)]
set_option maxRecDepth 100000 in
theorem ev_d_190 : ∀ q ∈ ev_c_190, ∀ z ∈ q.2, decode prog_1_method_61_code z.1 = .ok (z.2.1, z.2.2) := List.forall_mem_cons.mpr ⟨ev_d_190_0, List.forall_mem_cons.mpr ⟨ev_d_190_1, fun _ h => absurd h List.not_mem_nil⟩⟩
def ev_c_191_0 : List (Nat × Instr × Nat) := [(0, .iload_n 1, 1), (1, .invokestatic 410, 3), (4, .aload_n 0, 1), (5, .getfield 47, 3), (8, .getfield 417, 3), (11, .iload_n 1, 1), (12, .baload, 1), (13, .ifCond .ne 14, 3), (16, .new 402, 3), (19, .dup, 1), (20, .ldc_w 421, 3), (23, .invokespecial 406, 3), (26, .athrow, 1), (27, .aload_n 0, 1), (28, .getfield 47, 3), (31, .iload_n 1, 1)]
set_option maxRecDepth 100000 in
theorem ev_d_191_0 : ∀ q ∈ ev_c_191_0, decode prog_1_method_62_code q.1 = .ok (q.2.1, q.2.2) := fd_rows (by decide +kernel)
def ev_c_191_1 : List (Nat × Instr × Nat) := [(32, .aload_n 0, 1), (33, .getfield 30, 3), (36, .getfield 85, 3), (39, .invokevirtual 423, 3), (42, .aload_n 0, 1), (43, .getfield 30, 3), (46, .getfield 85, 3), (49, .getfield 119, 3), (52, .ireturn, 1)]
set_option maxRecDepth 100000 in
theorem ev_d_191_1 : ∀ q ∈ ev_c_191_1, decode prog_1_method_62_code q.1 = .ok (q.2.1, q.2.2) := fd_rows (by decide +kernel)
def ev_c_191 : List (Nat × List (Nat × Instr × Nat)) := [(0, ev_c_191_0), (1, ev_c_191_1)]
set_option maxRecDepth 100000 in
theorem ev_d_191 : ∀ q ∈ ev_c_191, ∀ z ∈ q.2, decode prog_1_method_62_code z.1 = .ok (z.2.1, z.2.2) := List.forall_mem_cons.mpr ⟨ev_d_191_0, List.forall_mem_cons.mpr ⟨ev_d_191_1, fun _ h => absurd h List.not_mem_nil⟩⟩
def ev_c_192_0 : List (Nat × Instr × Nat) := [(0, .aload_n 0, 1), (1, .getfield 23, 3), (4, .ifCond .ne 14, 3), (7, .new 402, 3), (10, .dup, 1), (11, .ldc_w 426, 3), (14, .invokespecial 406, 3), (17, .athrow, 1), (18, .return_, 1)]
set_option maxRecDepth 100000 in
theorem ev_d_192_0 : ∀ q ∈ ev_c_192_0, decode prog_1_method_63_code q.1 = .ok (q.2.1, q.2.2) := fd_rows (by decide +kernel)
def ev_c_192 : List (Nat × List (Nat × Instr × Nat)) := [(0, ev_c_192_0)]
set_option maxRecDepth 100000 in
theorem ev_d_192 : ∀ q ∈ ev_c_192, ∀ z ∈ q.2, decode prog_1_method_63_code z.1 = .ok (z.2.1, z.2.2) := List.forall_mem_cons.mpr ⟨ev_d_192_0, fun _ h => absurd h List.not_mem_nil⟩
def ev_c_193_0 : List (Nat × Instr × Nat) := [(0, .aload_n 0, 1), (1, .invokevirtual 94, 3), (4, .iload_n 1, 1), (5, .ifCond .lt 17, 3), (8, .iload_n 1, 1), (9, .aload_n 0, 1), (10, .getfield 30, 3), (13, .getfield 85, 3), (16, .getfield 89, 3), (19, .if_icmp .lt 14, 3), (22, .new 62, 3), (25, .dup, 1), (26, .ldc_w 428, 3), (29, .invokespecial 66, 3)]
set_option maxRecDepth 100000 in
theorem ev_d_193_0 : ∀ q ∈ ev_c_193_0, decode prog_1_method_64_code q.1 = .ok (q.2.1, q.2.2) := fd_rows (by decide +kernel)
def ev_c_193_1 : List (Nat × Instr × Nat) := [(32, .athrow, 1), (33, .return_, 1)]
set_option maxRecDepth 100000 in
theorem ev_d_193_1 : ∀ q ∈ ev_c_193_1, decode prog_1_method_64_code q.1 = .ok (q.2.1, q.2.2) := fd_rows (by decide +kernel)
def ev_c_193 : List (Nat × List (Nat × Instr × Nat)) := [(0, ev_c_193_0), (1, ev_c_193_1)]
set_option maxRecDepth 100000 in
theorem ev_d_193 : ∀ q ∈ ev_c_193, ∀ z ∈ q.2, decode prog_1_method_64_code z.1 = .ok (z.2.1, z.2.2) := List.forall_mem_cons.mpr ⟨ev_d_193_0, List.forall_mem_cons.mpr ⟨ev_d_193_1, fun _ h => absurd h List.not_mem_nil⟩⟩
def ev_c_194_0 : List (Nat × Instr × Nat) := [(0, .aload_n 0, 1), (1, .invokevirtual 94, 3), (4, .iload_n 1, 1), (5, .ifCond .lt 17, 3), (8, .iload_n 1, 1), (9, .aload_n 0, 1), (10, .getfield 30, 3), (13, .getfield 101, 3), (16, .getfield 113, 3), (19, .if_icmp .lt 14, 3), (22, .new 62, 3), (25, .dup, 1), (26, .ldc_w 430, 3), (29, .invokespecial 66, 3)]
set_option maxRecDepth 100000 in
theorem ev_d_194_0 : ∀ q ∈ ev_c_194_0, decode prog_1_method_65_code q.1 = .ok (q.2.1, q.2.2) := fd_rows (by decide +kernel)
def ev_c_194_1 : List (Nat × Instr × Nat) := [(32, .athrow, 1), (33, .return_, 1)]
set_option maxRecDepth 100000 in
theorem ev_d_194_1 : ∀ q ∈ ev_c_194_1, decode prog_1_method_65_code q.1 = .ok (q.2.1, q.2.2) := fd_rows (by decide +kernel)
def ev_c_194 : List (Nat × List (Nat × Instr × Nat)) := [(0, ev_c_194_0), (1, ev_c_194_1)]
set_option maxRecDepth 100000 in
theorem ev_d_194 : ∀ q ∈ ev_c_194, ∀ z ∈ q.2, decode prog_1_method_65_code z.1 = .ok (z.2.1, z.2.2) := List.forall_mem_cons.mpr ⟨ev_d_194_0, List.forall_mem_cons.mpr ⟨ev_d_194_1, fun _ h => absurd h List.not_mem_nil⟩⟩
def ev_c_195_0 : List (Nat × Instr × Nat) := [(0, .aload_n 0, 1), (1, .invokevirtual 94, 3), (4, .iload_n 1, 1), (5, .ifCond .lt 17, 3), (8, .iload_n 1, 1), (9, .aload_n 0, 1), (10, .getfield 30, 3), (13, .getfield 101, 3), (16, .getfield 110, 3), (19, .if_icmp .lt 14, 3), (22, .new 62, 3), (25, .dup, 1), (26, .ldc_w 432, 3), (29, .invokespecial 66, 3)]
set_option maxRecDepth 100000 in
theorem ev_d_195_0 : ∀ q ∈ ev_c_195_0, decode prog_1_method_66_code q.1 = .ok (q.2.1, q.2.2) := fd_rows (by decide +kernel)
def ev_c_195_1 : List (Nat × Instr × Nat) := [(32, .athrow, 1), (33, .return_, 1)]
set_option maxRecDepth 100000 in
theorem ev_d_195_1 : ∀ q ∈ ev_c_195_1, decode prog_1_method_66_code q.1 = .ok (q.2.1, q.2.2) := fd_rows (by decide +kernel)
def ev_c_195 : List (Nat × List (Nat × Instr × Nat)) := [(0, ev_c_195_0), (1, ev_c_195_1)]
set_option maxRecDepth 100000 in
theorem ev_d_195 : ∀ q ∈ ev_c_195, ∀ z ∈ q.2, decode prog_1_method_66_code z.1 = .ok (z.2.1, z.2.2) := List.forall_mem_cons.mpr ⟨ev_d_195_0, List.forall_mem_cons.mpr ⟨ev_d_195_1, fun _ h => absurd h List.not_mem_nil⟩⟩
def ev_c_196_0 : List (Nat × Instr × Nat) := [(0, .iload_n 0, 1), (1, .ifCond .lt 8, 3), (4, .iload_n 0, 1), (5, .iconst 2, 1), (6, .if_icmp .lt 14, 3), (9, .new 62, 3), (12, .dup, 1), (13, .ldc_w 434, 3), (16, .invokespecial 66, 3), (19, .athrow, 1), (20, .return_, 1)]
set_option maxRecDepth 100000 in
theorem ev_d_196_0 : ∀ q ∈ ev_c_196_0, decode prog_1_method_67_code q.1 = .ok (q.2.1, q.2.2) := fd_rows (by decide +kernel)
def ev_c_196 : List (Nat × List (Nat × Instr × Nat)) := [(0, ev_c_196_0)]
set_option maxRecDepth 100000 in
theorem ev_d_196 : ∀ q ∈ ev_c_196, ∀ z ∈ q.2, decode prog_1_method_67_code z.1 = .ok (z.2.1, z.2.2) := List.forall_mem_cons.mpr ⟨ev_d_196_0, fun _ h => absurd h List.not_mem_nil⟩
def ev_c_197_0 : List (Nat × Instr × Nat) := [(0, .iload_n 0, 1), (1, .iconst 0, 1), (2, .iconst 3, 1), (3, .invokestatic 97, 3), (6, .return_, 1)]
set_option maxRecDepth 100000 in
theorem ev_d_197_0 : ∀ q ∈ ev_c_197_0, decode prog_1_method_68_code q.1 = .ok (q.2.1, q.2.2) := fd_rows (by decide +kernel)
def ev_c_197 : List (Nat × List (Nat × Instr × Nat)) := [(0, ev_c_197_0)]
set_option maxRecDepth 100000 in
theorem ev_d_197 : ∀ q ∈ ev_c_197, ∀ z ∈ q.2, decode prog_1_method_68_code z.1 = .ok (z.2.1, z.2.2) := List.forall_mem_cons.mpr ⟨ev_d_197_0, fun _ h => absurd h List.not_mem_nil⟩
def ev_c_198_0 : List (Nat × Instr × Nat) := [(0, .iload_n 0, 1), (1, .iload_n 1, 1), (2, .if_icmp .lt 8, 3), (5, .iload_n 0, 1), (6, .iload_n 2, 1), (7, .if_icmp .le 14, 3), (10, .new 77, 3), (13, .dup, 1), (14, .ldc_w 436, 3), (17, .invokespecial 81, 3), (20, .athrow, 1), (21, .return_, 1)]
set_option maxRecDepth 100000 in
theorem ev_d_198_0 : ∀ q ∈ ev_c_198_0, decode prog_1_method_69_code q.1 = .ok (q.2.1, q.2.2) := fd_rows (by decide +kernel)
def ev_c_198 : List (Nat × List (Nat × Instr × Nat)) := [(0, ev_c_198_0)]
set_option maxRecDepth 100000 in
theorem ev_d_198 : ∀ q ∈ ev_c_198, ∀ z ∈ q.2, decode prog_1_method_69_code z.1 = .ok (z.2.1, z.2.2) := List.forall_mem_cons.mpr ⟨ev_d_198_0, fun _ h => absurd h List.not_mem_nil⟩
def ev_c_199_0 : List (Nat × Instr × Nat) := [(0, .iload_n 0, 1), (1, .ifCond .ne 14, 3), (4, .new 77, 3), (7, .dup, 1), (8, .ldc_w 438, 3), (11, .invokespecial 81, 3), (14, .athrow, 1), (15, .return_, 1)]
set_option maxRecDepth 100000 in
theorem ev_d_199_0 : ∀ q ∈ ev_c_199_0, decode prog_1_method_70_code q.1 = .ok (q.2.1, q.2.2) := fd_rows (by decide +kernel)
def ev_c_199 : List (Nat × List (Nat × Instr × Nat)) := [(0, ev_c_199_0)]
set_option maxRecDepth 100000 in
theorem ev_d_199 : ∀ q ∈ ev_c_199, ∀ z ∈ q.2, decode prog_1_method_70_code z.1 = .ok (z.2.1, z.2.2) := List.forall_mem_cons.mpr ⟨ev_d_199_0, fun _ h => absurd h List.not_mem_nil⟩
def ev_c_200_0 : List (Nat × Instr × Nat) := [(0, .bipush 24, 2), (2, .istore_n 2, 1), (3, .iload_n 2, 1), (4, .ifCond .lt 32, 3), (7, .aload_n 0, 1), (8, .getfield 9, 3), (11, .aload_n 0, 1), (12, .getfield 13, 3), (15, .iload_n 1, 1), (16, .iload_n 2, 1), (17, .ishr, 1), (18, .i2b, 1), (19, .bastore, 1), (20, .aload_n 0, 1), (21, .dup, 1), (22, .getfield 13, 3), (25, .iconst 1, 1), (26, .iadd, 1), (27, .putfield 13, 3), (30, .iinc 2 (-8), 3)]
set_option maxRecDepth 100000 in
theorem ev_d_200_0 : ∀ q ∈ ev_c_200_0, decode prog_1_method_71_code q.1 = .ok (q.2.1, q.2.2) := fd_rows (by decide +kernel)
def ev_c_200_1 : List (Nat × Instr × Nat) := [(33, .goto (-30), 3), (36, .return_, 1)]
set_option maxRecDepth 100000 in
theorem ev_d_200_1 : ∀ q ∈ ev_c_200_1, decode prog_1_method_71_code q.1 = .ok (q.2.1, q.2.2) := fd_rows (by decide +kernel)
def ev_c_200 : List (Nat × List (Nat × Instr × Nat)) := [(0, ev_c_200_0), (1, ev_c_200_1)]
set_option maxRecDepth 100000 in
theorem ev_d_200 : ∀ q ∈ ev_c_200, ∀ z ∈ q.2, decode prog_1_method_71_code z.1 = .ok (z.2.1, z.2.2) := List.forall_mem_cons.mpr ⟨ev_d_200_0, List.forall_mem_cons.mpr ⟨ev_d_200_1, fun _ h => absurd h List.not_mem_nil⟩⟩
def ev_c_201_0 : List (Nat × Instr × Nat) := [(0, .aload_n 0, 1), (1, .invokespecial 1, 3), (4, .aload_n 0, 1), (5, .sipush 173, 3), (8, .newarray .int, 2), (10, .putfield 9, 3), (13, .aload_n 0, 1), (14, .sipush 173, 3), (17, .newarray .int, 2), (19, .putfield 13, 3), (22, .aload_n 0, 1), (23, .sipush 1384, 3), (26, .newarray .int, 2), (28, .putfield 16, 3), (31, .aload_n 0, 1)]
set_option maxRecDepth 100000 in
theorem ev_d_201_0 : ∀ q ∈ ev_c_201_0, decode prog_10_method_1_code q.1 = .ok (q.2.1, q.2.2) := by decide +kernel
def ev_c_201_1 : List (Nat × Instr × Nat) := [(32, .sipush 346, 3), (35, .newarray .int, 2), (37, .putfield 19, 3), (40, .aload_n 0, 1), (41, .iconst 2, 1), (42, .newarray .boolean, 2), (44, .putfield 22, 3), (47, .aload_n 0, 1), (48, .sipush 500, 3), (51, .newarray .byte, 2), (53, .putfield 26, 3), (56, .aload_n 0, 1), (57, .iconst (-1), 1), (58, .putfield 30, 3), (61, .aload_n 0, 1), (62, .bipush 12, 2)]
set_option maxRecDepth 100000 in
theorem ev_d_201_1 : ∀ q ∈ ev_c_201_1, decode prog_10_method_1_code q.1 = .ok (q.2.1, q.2.2) := by decide +kernel
def ev_c_201_2 : List (Nat × Instr × Nat) := [(64, .newarray .int, 2), (66, .putfield 34, 3), (69, .aload_n 0, 1), (70, .bipush 60, 2), (72, .newarray .byte, 2), (74, .putfield 37, 3), (77, .return_, 1)]
set_option maxRecDepth 100000 in
theorem ev_d_201_2 : ∀ q ∈ ev_c_201_2, decode prog_10_method_1_code q.1 = .ok (q.2.1, q.2.2) := by decide +kernel
def ev_c_201 : List (Nat × List (Nat × Instr × Nat)) := [(0, ev_c_201_0), (1, ev_c_201_1), (2, ev_c_201_2)]
set_option maxRecDepth 100000 in
theorem ev_d_201 : ∀ q ∈ ev_c_201, ∀ z ∈ q.2, decode prog_10_method_1_code z.1 = .ok (z.2.1, z.2.2) := List.forall_mem_cons.mpr ⟨ev_d_201_0, List.forall_mem_cons.mpr ⟨ev_d_201_1, List.forall_mem_cons.mpr ⟨ev_d_201_2, fun _ h => absurd h List.not_mem_nil⟩⟩⟩
def ev_c_202_0 : List (Nat × Instr × Nat) := [(0, .aload_n 0, 1), (1, .getfield 40, 3), (4, .ireturn, 1)]
set_option maxRecDepth 100000 in
theorem ev_d_202_0 : ∀ q ∈ ev_c_202_0, decode prog_10_method_2_code q.1 = .ok (q.2.1, q.2.2) := fd_rows (by decide +kernel)
def ev_c_202 : List (Nat × List (Nat × Instr × Nat)) := [(0, ev_c_202_0)]
set_option maxRecDepth 100000 in
theorem ev_d_202 : ∀ q ∈ ev_c_202, ∀ z ∈ q.2, decode prog_10_method_2_code z.1 = .ok (z.2.1, z.2.2) := List.forall_mem_cons.mpr ⟨ev_d_202_0, fun _ h => absurd h List.not_mem_nil⟩
def ev_c_203_0 : List (Nat × Instr × Nat) := [(0, .iload_n 1, 1), (1, .iload_n 0, 1), (2, .if_icmp .gt 12, 3), (5, .iload_n 0, 1), (6, .iload_n 2, 1), (7, .if_icmp .gt 7, 3), (10, .iconst 1, 1), (11, .goto 4, 3), (14, .iconst 0, 1), (15, .ireturn, 1)]
set_option maxRecDepth 100000 in
theorem ev_d_203_0 : ∀ q ∈ ev_c_203_0, decode prog_10_method_3_code q.1 = .ok (q.2.1, q.2.2) := fd_rows (by decide +kernel)
def ev_c_203 : List (Nat × List (Nat × Instr × Nat)) := [(0, ev_c_203_0)]
set_option maxRecDepth 100000 in
theorem ev_d_203 : ∀ q ∈ ev_c_203, ∀ z ∈ q.2, decode prog_10_method_3_code z.1 = .ok (z.2.1, z.2.2) := List.forall_mem_cons.mpr ⟨ev_d_203_0, fun _ h => absurd h List.not_mem_nil⟩
def ev_c_204_0 : List (Nat × Instr × Nat) := [(0, .iload_n 0, 1), (1, .ifCond .eq 7, 3), (4, .iconst 1, 1), (5, .goto 4, 3), (8, .iconst 0, 1), (9, .ireturn, 1)]
set_option maxRecDepth 100000 in
theorem ev_d_204_0 : ∀ q ∈ ev_c_204_0, decode prog_10_method_4_code q.1 = .ok (q.2.1, q.2.2) := fd_rows (by decide +kernel)
def ev_c_204 : List (Nat × List (Nat × Instr × Nat)) := [(0, ev_c_204_0)]
set_option maxRecDepth 100000 in
theorem ev_d_204 : ∀ q ∈ ev_c_204, ∀ z ∈ q.2, decode prog_10_method_4_code z.1 = .ok (z.2.1, z.2.2) := List.forall_mem_cons.mpr ⟨ev_d_204_0, fun _ h => absurd h List.not_mem_nil⟩
def ev_c_205_0 : List (Nat × Instr × Nat) := [(0, .iload_n 0, 1), (1, .iload_n 1, 1), (2, .ishr, 1), (3, .iconst 1, 1), (4, .iand, 1), (5, .iconst 1, 1), (6, .if_icmp .ne 7, 3), (9, .iconst 1, 1), (10, .goto 4, 3), (13, .iconst 0, 1), (14, .ireturn, 1)]
set_option maxRecDepth 100000 in
theorem ev_d_205_0 : ∀ q ∈ ev_c_205_0, decode prog_10_method_5_code q.1 = .ok (q.2.1, q.2.2) := fd_rows (by decide +kernel)
def ev_c_205 : List (Nat × List (Nat × Instr × Nat)) := [(0, ev_c_205_0)]
set_option maxRecDepth 100000 in
theorem ev_d_205 : ∀ q ∈ ev_c_205, ∀ z ∈ q.2, decode prog_10_method_5_code z.1 = .ok (z.2.1, z.2.2) := List.forall_mem_cons.mpr ⟨ev_d_205_0, fun _ h => absurd h List.not_mem_nil⟩
def ev_c_206_0 : List (Nat × Instr × Nat) := [(0, .aload_n 0, 1), (1, .iload_n 1, 1), (2, .ifCond .ne 7, 3), (5, .iconst 1, 1), (6, .goto 20, 3), (9, .iload_n 2, 1), (10, .ifCond .ne 7, 3), (13, .iconst 2, 1), (14, .goto 12, 3), (17, .iload_n 3, 1), (18, .ifCond .eq 7, 3), (21, .iconst 0, 1), (22, .goto 4, 3), (25, .iconst 3, 1), (26, .putfield 40, 3), (29, .aload_n 0, 1), (30, .getfield 40, 3)]
set_option maxRecDepth 100000 in
theorem ev_d_206_0 : ∀ q ∈ ev_c_206_0, decode prog_10_method_6_code q.1 = .ok (q.2.1, q.2.2) := fd_rows (by decide +kernel)
def ev_c_206_1 : List (Nat × Instr × Nat) := [(33, .ifCond .ne 7, 3), (36, .iconst 1, 1), (37, .goto 4, 3), (40, .iconst 0, 1), (41, .ireturn, 1)]
set_option maxRecDepth 100000 in
theorem ev_d_206_1 : ∀ q ∈ ev_c_206_1, decode prog_10_method_6_code q.1 = .ok (q.2.1, q.2.2) := fd_rows (by decide +kernel)
def ev_c_206 : List (Nat × List (Nat × Instr × Nat)) := [(0, ev_c_206_0), (1, ev_c_206_1)]
set_option maxRecDepth 100000 in
theorem ev_d_206 : ∀ q ∈ ev_c_206, ∀ z ∈ q.2, decode prog_10_method_6_code z.1 = .ok (z.2.1, z.2.2) := List.forall_mem_cons.mpr ⟨ev_d_206_0, List.forall_mem_cons.mpr ⟨ev_d_206_1, fun _ h => absurd h List.not_mem_nil⟩⟩
def ev_c_207_0 : List (Nat × Instr × Nat) := [(0, .aload_n 0, 1), (1, .iload_n 1, 1), (2, .iload_n 2, 1), (3, .iconst 1, 1), (4, .invokevirtual 43, 3), (7, .ireturn, 1)]
set_option maxRecDepth 100000 in
theorem ev_d_207_0 : ∀ q ∈ ev_c_207_0, decode prog_10_method_7_code q.1 = .ok (q.2.1, q.2.2) := fd_rows (by decide +kernel)
def ev_c_207 : List (Nat × List (Nat × Instr × Nat)) := [(0, ev_c_207_0)]
set_option maxRecDepth 100000 in
theorem ev_d_207 : ∀ q ∈ ev_c_207, ∀ z ∈ q.2, decode prog_10_method_7_code z.1 = .ok (z.2.1, z.2.2) := List.forall_mem_cons.mpr ⟨ev_d_207_0, fun _ h => absurd h List.not_mem_nil⟩
def ev_c_208_0 : List (Nat × Instr × Nat) := [(0, .aload_n 0, 1), (1, .aload_n 0, 1), (2, .getfield 47, 3), (5, .iconst 1, 1), (6, .iconst 1, 1), (7, .invokevirtual 43, 3), (10, .ireturn, 1)]
set_option maxRecDepth 100000 in
theorem ev_d_208_0 : ∀ q ∈ ev_c_208_0, decode prog_10_method_8_code q.1 = .ok (q.2.1, q.2.2) := fd_rows (by decide +kernel)
def ev_c_208 : List (Nat × List (Nat × Instr × Nat)) := [(0, ev_c_208_0)]
set_option maxRecDepth 100000 in
theorem ev_d_208 : ∀ q ∈ ev_c_208, ∀ z ∈ q.2, decode prog_10_method_8_code z.1 = .ok (z.2.1, z.2.2) := List.forall_mem_cons.mpr ⟨ev_d_208_0, fun _ h => absurd h List.not_mem_nil⟩
def ev_c_209_0 : List (Nat × Instr × Nat) := [(0, .iconst 0, 1), (1, .istore 4, 2), (3, .iload 4, 2), (5, .sipush 173, 3), (8, .if_icmp .ge 21, 3), (11, .aload_n 2, 1), (12, .iload_n 3, 1), (13, .iload 4, 2), (15, .iadd, 1), (16, .aload_n 0, 1), (17, .iload_n 1, 1), (18, .iload 4, 2), (20, .iadd, 1), (21, .iaload, 1), (22, .iastore, 1), (23, .iinc 4 1, 3), (26, .goto (-23), 3), (29, .return_, 1)]
set_option maxRecDepth 100000 in
theorem ev_d_209_0 : ∀ q ∈ ev_c_209_0, decode prog_10_method_9_code q.1 = .ok (q.2.1, q.2.2) := fd_rows (by decide +kernel)
def ev_c_209 : List (Nat × List (Nat × Instr × Nat)) := [(0, ev_c_209_0)]
set_option maxRecDepth 100000 in
theorem ev_d_209 : ∀ q ∈ ev_c_209, ∀ z ∈ q.2, decode prog_10_method_9_code z.1 = .ok (z.2.1, z.2.2) := List.forall_mem_cons.mpr ⟨ev_d_209_0, fun _ h => absurd h List.not_mem_nil⟩
def ev_c_210_0 : List (Nat × Instr × Nat) := [(0, .aload_n 0, 1), (1, .getfield 9, 3), (4, .iconst 0, 1), (5, .aload_n 0, 1), (6, .getfield 13, 3), (9, .iconst 0, 1), (10, .invokestatic 51, 3), (13, .return_, 1)]
set_option maxRecDepth 100000 in
theorem ev_d_210_0 : ∀ q ∈ ev_c_210_0, decode prog_10_method_10_code q.1 = .ok (q.2.1, q.2.2) := fd_rows (by decide +kernel)
def ev_c_210 : List (Nat × List (Nat × Instr × Nat)) := [(0, ev_c_210_0)]
set_option maxRecDepth 100000 in
theorem ev_d_210 : ∀ q ∈ ev_c_210, ∀ z ∈ q.2, decode prog_10_method_10_code z.1 = .ok (z.2.1, z.2.2) := List.forall_mem_cons.mpr ⟨ev_d_210_0, fun _ h => absurd h List.not_mem_nil⟩
def ev_c_211_0 : List (Nat × Instr × Nat) := [(0, .aload_n 0, 1), (1, .getfield 13, 3), (4, .iconst 0, 1), (5, .aload_n 0, 1), (6, .getfield 9, 3), (9, .iconst 0, 1), (10, .invokestatic 51, 3), (13, .iload_n 1, 1), (14, .ireturn, 1)]
set_option maxRecDepth 100000 in
theorem ev_d_211_0 : ∀ q ∈ ev_c_211_0, decode prog_10_method_11_code q.1 = .ok (q.2.1, q.2.2) := fd_rows (by decide +kernel)
def ev_c_211 : List (Nat × List (Nat × Instr × Nat)) := [(0, ev_c_211_0)]
set_option maxRecDepth 100000 in
theorem ev_d_211 : ∀ q ∈ ev_c_211, ∀ z ∈ q.2, decode prog_10_method_11_code z.1 = .ok (z.2.1, z.2.2) := List.forall_mem_cons.mpr ⟨ev_d_211_0, fun _ h => absurd h List.not_mem_nil⟩
def ev_c_212_0 : List (Nat × Instr × Nat) := [(0, .aload_n 0, 1), (1, .iconst 0, 1), (2, .putfield 40, 3), (5, .aload_n 0, 1), (6, .getfield 55, 3), (9, .sipush 480, 3), (12, .if_icmp .le 5, 3), (15, .iconst (-1), 1), (16, .ireturn, 1), (17, .aload_n 0, 1), (18, .iload_n 1, 1), (19, .invokevirtual 58, 3), (22, .aload_n 0, 1), (23, .iload_n 2, 1), (24, .invokevirtual 58, 3), (27, .aload_n 0, 1), (28, .iload_n 3, 1), (29, .invokevirtual 58, 3)]
set_option maxRecDepth 100000 in
theorem ev_d_212_0 : ∀ q ∈ ev_c_212_0, decode prog_10_method_12_code q.1 = .ok (q.2.1, q.2.2) := fd_rows (by decide +kernel)
def ev_c_212_1 : List (Nat × Instr × Nat) := [(32, .aload_n 0, 1), (33, .iload 4, 2), (35, .invokevirtual 58, 3), (38, .aload_n 0, 1), (39, .iload 5, 2), (41, .invokevirtual 58, 3), (44, .aload_n 0, 1), (45, .getfield 55, 3), (48, .ireturn, 1)]
set_option maxRecDepth 100000 in
theorem ev_d_212_1 : ∀ q ∈ ev_c_212_1, decode prog_10_method_12_code q.1 = .ok (q.2.1, q.2.2) := fd_rows (by decide +kernel)
def ev_c_212 : List (Nat × List (Nat × Instr × Nat)) := [(0, ev_c_212_0), (1, ev_c_212_1)]
set_option maxRecDepth 100000 in
theorem ev_d_212 : ∀ q ∈ ev_c_212, ∀ z ∈ q.2, decode prog_10_method_12_code z.1 = .ok (z.2.1, z.2.2) := List.forall_mem_cons.mpr ⟨ev_d_212_0, List.forall_mem_cons.mpr ⟨ev_d_212_1, fun _ h => absurd h List.not_mem_nil⟩⟩
def ev_c_213_0 : List (Nat × Instr × Nat) := [(0, .iconst 3, 1), (1, .istore_n 2, 1), (2, .iload_n 2, 1), (3, .ifCond .lt 35, 3), (6, .aload_n 0, 1), (7, .getfield 26, 3), (10, .aload_n 0, 1), (11, .getfield 55, 3), (14, .iload_n 1, 1), (15, .bipush 8, 2), (17, .iload_n 2, 1), (18, .imul, 1), (19, .ishr, 1), (20, .i2b, 1), (21, .bastore, 1), (22, .aload_n 0, 1), (23, .dup, 1), (24, .getfield 55, 3), (27, .iconst 1, 1), (28, .iadd, 1), (29, .putfield 55, 3)]
set_option maxRecDepth 100000 in
theorem ev_d_213_0 : ∀ q ∈ ev_c_213_0, decode prog_10_method_13_code q.1 = .ok (q.2.1, q.2.2) := fd_rows (by decide +kernel)
def ev_c_213_1 : List (Nat × Instr × Nat) := [(32, .iinc 2 (-1), 3), (35, .goto (-33), 3), (38, .return_, 1)]
set_option maxRecDepth 100000 in
theorem ev_d_213_1 : ∀ q ∈ ev_c_213_1, decode prog_10_method_13_code q.1 = .ok (q.2.1, q.2.2) := fd_rows (by decide +kernel)
def ev_c_213 : List (Nat × List (Nat × Instr × Nat)) := [(0, ev_c_213_0), (1, ev_c_213_1)]
set_option maxRecDepth 100000 in
theorem ev_d_213 : ∀ q ∈ ev_c_213, ∀ z ∈ q.2, decode prog_10_method_13_code z.1 = .ok (z.2.1, z.2.2) := List.forall_mem_cons.mpr ⟨ev_d_213_0, List.forall_mem_cons.mpr ⟨ev_d_213_1, fun _ h => absurd h List.not_mem_nil⟩⟩
