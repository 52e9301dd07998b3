/-! code, by wip/gen/gen.py -/
def ev_c_68_0 : List (Nat × Instr × Nat) := [(0, .aload_n 0, 1), (1, .getfield 28, 3), (4, .aload_n 0, 1), (5, .getfield 25, 3), (8, .if_icmp .ge 30, 3), (11, .aload_n 0, 1), (12, .getfield 15, 3), (15, .aload_n 0, 1), (16, .getfield 28, 3), (19, .baload, 1), (20, .bipush 32, 2), (22, .if_icmp .ne 16, 3), (25, .aload_n 0, 1), (26, .dup, 1), (27, .getfield 28, 3), (30, .iconst 1, 1), (31, .iadd, 1)]
set_option maxRecDepth 100000 in
theorem ev_d_68_0 : ∀ q ∈ ev_c_68_0, decode prog_5_method_7_code q.1 = .ok (q.2.1, q.2.2) := fd_rows (by decide +kernel)
def ev_c_68_1 : List (Nat × Instr × Nat) := [(32, .putfield 28, 3), (35, .goto (-35), 3), (38, .return_, 1)]
set_option maxRecDepth 100000 in
theorem ev_d_68_1 : ∀ q ∈ ev_c_68_1, decode prog_5_method_7_code q.1 = .ok (q.2.1, q.2.2) := fd_rows (by decide +kernel)
def ev_c_68 : List (Nat × List (Nat × Instr × Nat)) := [(0, ev_c_68_0), (1, ev_c_68_1)]
set_option maxRecDepth 100000 in
theorem ev_d_68 : ∀ q ∈ ev_c_68, ∀ z ∈ q.2, decode prog_5_method_7_code z.1 = .ok (z.2.1, z.2.2) := List.forall_mem_cons.mpr ⟨ev_d_68_0, List.forall_mem_cons.mpr ⟨ev_d_68_1, fun _ h => absurd h List.not_mem_nil⟩⟩
def ev_c_69_0 : List (Nat × Instr × Nat) := [(0, .aload_n 0, 1), (1, .invokevirtual 49, 3), (4, .ifCond .eq 4, 3), (7, .return_, 1), (8, .aload_n 0, 1), (9, .invokevirtual 65, 3), (12, .aload_n 0, 1), (13, .aload_n 0, 1), (14, .getfield 28, 3), (17, .putfield 62, 3), (20, .aload_n 0, 1), (21, .getfield 28, 3), (24, .aload_n 0, 1), (25, .getfield 25, 3), (28, .if_icmp .lt 11, 3), (31, .aload_n 0, 1)]
set_option maxRecDepth 100000 in
theorem ev_d_69_0 : ∀ q ∈ ev_c_69_0, decode prog_5_method_8_code q.1 = .ok (q.2.1, q.2.2) := fd_rows (by decide +kernel)
def ev_c_69_1 : List (Nat × Instr × Nat) := [(32, .iconst 0, 1), (33, .putfield 31, 3), (36, .goto 171, 3), (39, .aload_n 0, 1), (40, .aload_n 0, 1), (41, .getfield 28, 3), (44, .invokevirtual 68, 3), (47, .ifCond .eq 43, 3), (50, .aload_n 0, 1), (51, .iconst 1, 1), (52, .putfield 31, 3), (55, .aload_n 0, 1), (56, .getfield 28, 3), (59, .aload_n 0, 1), (60, .getfield 25, 3), (63, .if_icmp .ge 144, 3)]
set_option maxRecDepth 100000 in
theorem ev_d_69_1 : ∀ q ∈ ev_c_69_1, decode prog_5_method_8_code q.1 = .ok (q.2.1, q.2.2) := fd_rows (by decide +kernel)
def ev_c_69_2 : List (Nat × Instr × Nat) := [(66, .aload_n 0, 1), (67, .aload_n 0, 1), (68, .getfield 28, 3), (71, .invokevirtual 68, 3), (74, .ifCond .eq 133, 3), (77, .aload_n 0, 1), (78, .dup, 1), (79, .getfield 28, 3), (82, .iconst 1, 1), (83, .iadd, 1), (84, .putfield 28, 3), (87, .goto (-32), 3), (90, .aload_n 0, 1), (91, .aload_n 0, 1), (92, .getfield 28, 3), (95, .invokevirtual 72, 3)]
set_option maxRecDepth 100000 in
theorem ev_d_69_2 : ∀ q ∈ ev_c_69_2, decode prog_5_method_8_code q.1 = .ok (q.2.1, q.2.2) := fd_rows (by decide +kernel)
def ev_c_69_3 : List (Nat × Instr × Nat) := [(98, .ifCond .eq 72, 3), (101, .aload_n 0, 1), (102, .iconst 2, 1), (103, .putfield 31, 3), (106, .aload_n 0, 1), (107, .iconst 0, 1), (108, .putfield 75, 3), (111, .aload_n 0, 1), (112, .getfield 28, 3), (115, .aload_n 0, 1), (116, .getfield 25, 3), (119, .if_icmp .ge 88, 3), (122, .aload_n 0, 1), (123, .aload_n 0, 1), (124, .getfield 28, 3), (127, .invokevirtual 72, 3)]
set_option maxRecDepth 100000 in
theorem ev_d_69_3 : ∀ q ∈ ev_c_69_3, decode prog_5_method_8_code q.1 = .ok (q.2.1, q.2.2) := fd_rows (by decide +kernel)
def ev_c_69_4 : List (Nat × Instr × Nat) := [(130, .ifCond .eq 77, 3), (133, .aload_n 0, 1), (134, .aload_n 0, 1), (135, .getfield 75, 3), (138, .bipush 10, 2), (140, .imul, 1), (141, .aload_n 0, 1), (142, .getfield 15, 3), (145, .aload_n 0, 1), (146, .getfield 28, 3), (149, .baload, 1), (150, .iadd, 1), (151, .bipush 48, 2), (153, .isub, 1), (154, .putfield 75, 3), (157, .aload_n 0, 1), (158, .dup, 1), (159, .getfield 28, 3)]
set_option maxRecDepth 100000 in
theorem ev_d_69_4 : ∀ q ∈ ev_c_69_4, decode prog_5_method_8_code q.1 = .ok (q.2.1, q.2.2) := fd_rows (by decide +kernel)
def ev_c_69_5 : List (Nat × Instr × Nat) := [(162, .iconst 1, 1), (163, .iadd, 1), (164, .putfield 28, 3), (167, .goto (-56), 3), (170, .aload_n 0, 1), (171, .getfield 15, 3), (174, .aload_n 0, 1), (175, .getfield 28, 3), (178, .baload, 1), (179, .bipush 59, 2), (181, .if_icmp .ne 21, 3), (184, .aload_n 0, 1), (185, .iconst 3, 1), (186, .putfield 31, 3), (189, .aload_n 0, 1), (190, .dup, 1), (191, .getfield 28, 3)]
set_option maxRecDepth 100000 in
theorem ev_d_69_5 : ∀ q ∈ ev_c_69_5, decode prog_5_method_8_code q.1 = .ok (q.2.1, q.2.2) := fd_rows (by decide +kernel)
def ev_c_69_6 : List (Nat × Instr × Nat) := [(194, .iconst 1, 1), (195, .iadd, 1), (196, .putfield 28, 3), (199, .goto 8, 3), (202, .aload_n 0, 1), (203, .iconst 1, 1), (204, .invokevirtual 78, 3), (207, .aload_n 0, 1), (208, .getfield 31, 3), (211, .iconst 1, 1), (212, .if_icmp .ne 8, 3), (215, .bipush 6, 2), (217, .goto 4, 3), (220, .iconst 2, 1), (221, .istore_n 1, 1), (222, .aload_n 0, 1), (223, .getfield 28, 3)]
set_option maxRecDepth 100000 in
theorem ev_d_69_6 : ∀ q ∈ ev_c_69_6, decode prog_5_method_8_code q.1 = .ok (q.2.1, q.2.2) := fd_rows (by decide +kernel)
def ev_c_69_7 : List (Nat × Instr × Nat) := [(226, .aload_n 0, 1), (227, .getfield 62, 3), (230, .isub, 1), (231, .iload_n 1, 1), (232, .if_icmp .le 8, 3), (235, .aload_n 0, 1), (236, .iconst 1, 1), (237, .invokevirtual 78, 3), (240, .return_, 1)]
set_option maxRecDepth 100000 in
theorem ev_d_69_7 : ∀ q ∈ ev_c_69_7, decode prog_5_method_8_code q.1 = .ok (q.2.1, q.2.2) := fd_rows (by decide +kernel)
def ev_c_69 : List (Nat × List (Nat × Instr × Nat)) := [(0, ev_c_69_0), (1, ev_c_69_1), (2, ev_c_69_2), (3, ev_c_69_3), (4, ev_c_69_4), (5, ev_c_69_5), (6, ev_c_69_6), (7, ev_c_69_7)]
set_option maxRecDepth 100000 in
theorem ev_d_69 : ∀ q ∈ ev_c_69, ∀ z ∈ q.2, decode prog_5_method_8_code z.1 = .ok (z.2.1, z.2.2) := List.forall_mem_cons.mpr ⟨ev_d_69_0, List.forall_mem_cons.mpr ⟨ev_d_69_1, List.forall_mem_cons.mpr ⟨ev_d_69_2, List.forall_mem_cons.mpr ⟨ev_d_69_3, List.forall_mem_cons.mpr ⟨ev_d_69_4, List.forall_mem_cons.mpr ⟨ev_d_69_5, List.forall_mem_cons.mpr ⟨ev_d_69_6, List.forall_mem_cons.mpr ⟨ev_d_69_7, fun _ h => absurd h List.not_mem_nil⟩⟩⟩⟩⟩⟩⟩⟩
def ev_c_70_0 : List (Nat × Instr × Nat) := [(0, .aload_n 0, 1), (1, .getfield 31, 3), (4, .iconst 1, 1), (5, .if_icmp .ne 19, 3), (8, .aload_n 0, 1), (9, .getfield 28, 3), (12, .aload_n 0, 1), (13, .getfield 62, 3), (16, .isub, 1), (17, .aload_n 1, 1), (18, .invokevirtual 82, 3), (21, .if_icmp .eq 5, 3), (24, .iconst 0, 1), (25, .ireturn, 1), (26, .iconst 0, 1), (27, .istore_n 2, 1), (28, .iload_n 2, 1), (29, .aload_n 1, 1), (30, .invokevirtual 82, 3)]
set_option maxRecDepth 100000 in
theorem ev_d_70_0 : ∀ q ∈ ev_c_70_0, decode prog_5_method_9_code q.1 = .ok (q.2.1, q.2.2) := fd_rows (by decide +kernel)
def ev_c_70_1 : List (Nat × Instr × Nat) := [(33, .if_icmp .ge 30, 3), (36, .aload_n 0, 1), (37, .getfield 15, 3), (40, .aload_n 0, 1), (41, .getfield 62, 3), (44, .iload_n 2, 1), (45, .iadd, 1), (46, .baload, 1), (47, .aload_n 1, 1), (48, .iload_n 2, 1), (49, .invokevirtual 87, 3), (52, .if_icmp .eq 5, 3), (55, .iconst 0, 1), (56, .ireturn, 1), (57, .iinc 2 1, 3), (60, .goto (-32), 3), (63, .iconst 1, 1)]
set_option maxRecDepth 100000 in
theorem ev_d_70_1 : ∀ q ∈ ev_c_70_1, decode prog_5_method_9_code q.1 = .ok (q.2.1, q.2.2) := fd_rows (by decide +kernel)
def ev_c_70_2 : List (Nat × Instr × Nat) := [(64, .ireturn, 1)]
set_option maxRecDepth 100000 in
theorem ev_d_70_2 : ∀ q ∈ ev_c_70_2, decode prog_5_method_9_code q.1 = .ok (q.2.1, q.2.2) := fd_rows (by decide +kernel)
def ev_c_70 : List (Nat × List (Nat × Instr × Nat)) := [(0, ev_c_70_0), (1, ev_c_70_1), (2, ev_c_70_2)]
set_option maxRecDepth 100000 in
theorem ev_d_70 : ∀ q ∈ ev_c_70, ∀ z ∈ q.2, decode prog_5_method_9_code z.1 = .ok (z.2.1, z.2.2) := List.forall_mem_cons.mpr ⟨ev_d_70_0, List.forall_mem_cons.mpr ⟨ev_d_70_1, List.forall_mem_cons.mpr ⟨ev_d_70_2, fun _ h => absurd h List.not_mem_nil⟩⟩⟩
def ev_c_71_0 : List (Nat × Instr × Nat) := [(0, .aload_n 0, 1), (1, .invokevirtual 65, 3), (4, .aload_n 0, 1), (5, .invokevirtual 49, 3), (8, .ifCond .ne 18, 3), (11, .aload_n 0, 1), (12, .aload_n 0, 1), (13, .getfield 28, 3), (16, .invokevirtual 72, 3), (19, .ifCond .eq 7, 3), (22, .iconst 1, 1), (23, .goto 4, 3), (26, .iconst 0, 1), (27, .ireturn, 1)]
set_option maxRecDepth 100000 in
theorem ev_d_71_0 : ∀ q ∈ ev_c_71_0, decode prog_5_method_10_code q.1 = .ok (q.2.1, q.2.2) := fd_rows (by decide +kernel)
def ev_c_71 : List (Nat × List (Nat × Instr × Nat)) := [(0, ev_c_71_0)]
set_option maxRecDepth 100000 in
theorem ev_d_71 : ∀ q ∈ ev_c_71, ∀ z ∈ q.2, decode prog_5_method_10_code z.1 = .ok (z.2.1, z.2.2) := List.forall_mem_cons.mpr ⟨ev_d_71_0, fun _ h => absurd h List.not_mem_nil⟩
def ev_c_72_0 : List (Nat × Instr × Nat) := [(0, .aload_n 0, 1), (1, .invokevirtual 56, 3), (4, .aload_n 0, 1), (5, .invokevirtual 49, 3), (8, .ifCond .ne 16, 3), (11, .aload_n 0, 1), (12, .getfield 31, 3), (15, .iconst 2, 1), (16, .if_icmp .eq 8, 3), (19, .aload_n 0, 1), (20, .iconst 1, 1), (21, .invokevirtual 78, 3), (24, .aload_n 0, 1), (25, .invokevirtual 49, 3), (28, .ifCond .ne 24, 3), (31, .aload_n 0, 1)]
set_option maxRecDepth 100000 in
theorem ev_d_72_0 : ∀ q ∈ ev_c_72_0, decode prog_5_method_11_code q.1 = .ok (q.2.1, q.2.2) := fd_rows (by decide +kernel)
def ev_c_72_1 : List (Nat × Instr × Nat) := [(32, .getfield 75, 3), (35, .iload_n 1, 1), (36, .if_icmp .lt 11, 3), (39, .aload_n 0, 1), (40, .getfield 75, 3), (43, .iload_n 2, 1), (44, .if_icmp .le 8, 3), (47, .aload_n 0, 1), (48, .iconst 2, 1), (49, .invokevirtual 78, 3), (52, .aload_n 0, 1), (53, .invokevirtual 49, 3), (56, .ifCond .eq 7, 3), (59, .iconst (-1), 1), (60, .goto 7, 3), (63, .aload_n 0, 1)]
set_option maxRecDepth 100000 in
theorem ev_d_72_1 : ∀ q ∈ ev_c_72_1, decode prog_5_method_11_code q.1 = .ok (q.2.1, q.2.2) := fd_rows (by decide +kernel)
def ev_c_72_2 : List (Nat × Instr × Nat) := [(64, .getfield 75, 3), (67, .ireturn, 1)]
set_option maxRecDepth 100000 in
theorem ev_d_72_2 : ∀ q ∈ ev_c_72_2, decode prog_5_method_11_code q.1 = .ok (q.2.1, q.2.2) := fd_rows (by decide +kernel)
def ev_c_72 : List (Nat × List (Nat × Instr × Nat)) := [(0, ev_c_72_0), (1, ev_c_72_1), (2, ev_c_72_2)]
set_option maxRecDepth 100000 in
theorem ev_d_72 : ∀ q ∈ ev_c_72, ∀ z ∈ q.2, decode prog_5_method_11_code z.1 = .ok (z.2.1, z.2.2) := List.forall_mem_cons.mpr ⟨ev_d_72_0, List.forall_mem_cons.mpr ⟨ev_d_72_1, List.forall_mem_cons.mpr ⟨ev_d_72_2, fun _ h => absurd h List.not_mem_nil⟩⟩⟩
def ev_c_73_0 : List (Nat × Instr × Nat) := [(0, .aload_n 0, 1), (1, .invokevirtual 56, 3), (4, .aload_n 0, 1), (5, .ldc 91, 2), (7, .invokevirtual 93, 3), (10, .ifCond .ne 8, 3), (13, .aload_n 0, 1), (14, .iconst 1, 1), (15, .invokevirtual 78, 3), (18, .aload_n 0, 1), (19, .iconst 1, 1), (20, .bipush 8, 2), (22, .invokevirtual 97, 3), (25, .istore_n 1, 1), (26, .aload_n 0, 1), (27, .invokevirtual 49, 3), (30, .ifCond .ne 14, 3)]
set_option maxRecDepth 100000 in
theorem ev_d_73_0 : ∀ q ∈ ev_c_73_0, decode prog_5_method_12_code q.1 = .ok (q.2.1, q.2.2) := fd_rows (by decide +kernel)
def ev_c_73_1 : List (Nat × Instr × Nat) := [(33, .aload_n 0, 1), (34, .getfield 37, 3), (37, .getfield 100, 3), (40, .iload_n 1, 1), (41, .putfield 104, 3), (44, .aload_n 0, 1), (45, .invokevirtual 56, 3), (48, .return_, 1)]
set_option maxRecDepth 100000 in
theorem ev_d_73_1 : ∀ q ∈ ev_c_73_1, decode prog_5_method_12_code q.1 = .ok (q.2.1, q.2.2) := fd_rows (by decide +kernel)
def ev_c_73 : List (Nat × List (Nat × Instr × Nat)) := [(0, ev_c_73_0), (1, ev_c_73_1)]
set_option maxRecDepth 100000 in
theorem ev_d_73 : ∀ q ∈ ev_c_73, ∀ z ∈ q.2, decode prog_5_method_12_code z.1 = .ok (z.2.1, z.2.2) := List.forall_mem_cons.mpr ⟨ev_d_73_0, List.forall_mem_cons.mpr ⟨ev_d_73_1, fun _ h => absurd h List.not_mem_nil⟩⟩
def ev_c_74_0 : List (Nat × Instr × Nat) := [(0, .aload_n 0, 1), (1, .invokevirtual 49, 3), (4, .ifCond .eq 4, 3), (7, .return_, 1), (8, .aload_n 0, 1), (9, .getfield 37, 3), (12, .getfield 100, 3), (15, .astore_n 1, 1), (16, .aload_n 0, 1), (17, .getfield 31, 3), (20, .ifCond .eq 11, 3), (23, .aload_n 0, 1), (24, .iconst 1, 1), (25, .invokevirtual 78, 3), (28, .goto 29, 3), (31, .aload_n 1, 1)]
set_option maxRecDepth 100000 in
theorem ev_d_74_0 : ∀ q ∈ ev_c_74_0, decode prog_5_method_13_code q.1 = .ok (q.2.1, q.2.2) := fd_rows (by decide +kernel)
def ev_c_74_1 : List (Nat × Instr × Nat) := [(32, .getfield 109, 3), (35, .ifCond .eq 17, 3), (38, .aload_n 1, 1), (39, .getfield 112, 3), (42, .ifCond .eq 10, 3), (45, .aload_n 1, 1), (46, .getfield 115, 3), (49, .ifCond .ne 8, 3), (52, .aload_n 0, 1), (53, .iconst 4, 1), (54, .invokevirtual 78, 3), (57, .return_, 1)]
set_option maxRecDepth 100000 in
theorem ev_d_74_1 : ∀ q ∈ ev_c_74_1, decode prog_5_method_13_code q.1 = .ok (q.2.1, q.2.2) := fd_rows (by decide +kernel)
def ev_c_74 : List (Nat × List (Nat × Instr × Nat)) := [(0, ev_c_74_0), (1, ev_c_74_1)]
set_option maxRecDepth 100000 in
theorem ev_d_74 : ∀ q ∈ ev_c_74, ∀ z ∈ q.2, decode prog_5_method_13_code z.1 = .ok (z.2.1, z.2.2) := List.forall_mem_cons.mpr ⟨ev_d_74_0, List.forall_mem_cons.mpr ⟨ev_d_74_1, fun _ h => absurd h List.not_mem_nil⟩⟩
def ev_c_75_0 : List (Nat × Instr × Nat) := [(0, .aload_n 0, 1), (1, .invokevirtual 56, 3), (4, .aload_n 0, 1), (5, .invokevirtual 49, 3), (8, .ifCond .eq 4, 3), (11, .return_, 1), (12, .aload_n 0, 1), (13, .ldc 118, 2), (15, .invokevirtual 93, 3), (18, .ifCond .eq 10, 3), (21, .aload_n 0, 1), (22, .invokevirtual 120, 3), (25, .goto 136, 3), (28, .aload_n 0, 1), (29, .ldc 123, 2), (31, .invokevirtual 93, 3)]
set_option maxRecDepth 100000 in
theorem ev_d_75_0 : ∀ q ∈ ev_c_75_0, decode prog_5_method_14_code q.1 = .ok (q.2.1, q.2.2) := fd_rows (by decide +kernel)
def ev_c_75_1 : List (Nat × Instr × Nat) := [(34, .ifCond .eq 10, 3), (37, .aload_n 0, 1), (38, .invokevirtual 125, 3), (41, .goto 120, 3), (44, .aload_n 0, 1), (45, .ldc 128, 2), (47, .invokevirtual 93, 3), (50, .ifCond .eq 10, 3), (53, .aload_n 0, 1), (54, .invokevirtual 130, 3), (57, .goto 104, 3), (60, .aload_n 0, 1), (61, .ldc 133, 2), (63, .invokevirtual 93, 3)]
set_option maxRecDepth 100000 in
theorem ev_d_75_1 : ∀ q ∈ ev_c_75_1, decode prog_5_method_14_code q.1 = .ok (q.2.1, q.2.2) := fd_rows (by decide +kernel)
def ev_c_75_2 : List (Nat × Instr × Nat) := [(66, .ifCond .eq 10, 3), (69, .aload_n 0, 1), (70, .invokevirtual 135, 3), (73, .goto 88, 3), (76, .aload_n 0, 1), (77, .ldc 138, 2), (79, .invokevirtual 93, 3), (82, .ifCond .eq 10, 3), (85, .aload_n 0, 1), (86, .invokevirtual 140, 3), (89, .goto 72, 3), (92, .aload_n 0, 1), (93, .ldc 143, 2), (95, .invokevirtual 93, 3)]
set_option maxRecDepth 100000 in
theorem ev_d_75_2 : ∀ q ∈ ev_c_75_2, decode prog_5_method_14_code q.1 = .ok (q.2.1, q.2.2) := fd_rows (by decide +kernel)
def ev_c_75_3 : List (Nat × Instr × Nat) := [(98, .ifCond .eq 10, 3), (101, .aload_n 0, 1), (102, .invokevirtual 145, 3), (105, .goto 56, 3), (108, .aload_n 0, 1), (109, .ldc 148, 2), (111, .invokevirtual 93, 3), (114, .ifCond .eq 10, 3), (117, .aload_n 0, 1), (118, .invokevirtual 150, 3), (121, .goto 40, 3), (124, .aload_n 0, 1), (125, .ldc 153, 2), (127, .invokevirtual 93, 3)]
set_option maxRecDepth 100000 in
theorem ev_d_75_3 : ∀ q ∈ ev_c_75_3, decode prog_5_method_14_code q.1 = .ok (q.2.1, q.2.2) := fd_rows (by decide +kernel)
def ev_c_75_4 : List (Nat × Instr × Nat) := [(130, .ifCond .eq 10, 3), (133, .aload_n 0, 1), (134, .invokevirtual 155, 3), (137, .goto 24, 3), (140, .aload_n 0, 1), (141, .ldc 158, 2), (143, .invokevirtual 93, 3), (146, .ifCond .eq 10, 3), (149, .aload_n 0, 1), (150, .invokevirtual 160, 3), (153, .goto 8, 3), (156, .aload_n 0, 1), (157, .iconst 1, 1), (158, .invokevirtual 78, 3)]
set_option maxRecDepth 100000 in
theorem ev_d_75_4 : ∀ q ∈ ev_c_75_4, decode prog_5_method_14_code q.1 = .ok (q.2.1, q.2.2) := fd_rows (by decide +kernel)
def ev_c_75_5 : List (Nat × Instr × Nat) := [(161, .return_, 1)]
set_option maxRecDepth 100000 in
theorem ev_d_75_5 : ∀ q ∈ ev_c_75_5, decode prog_5_method_14_code q.1 = .ok (q.2.1, q.2.2) := fd_rows (by decide +kernel)
def ev_c_75 : List (Nat × List (Nat × Instr × Nat)) := [(0, ev_c_75_0), (1, ev_c_75_1), (2, ev_c_75_2), (3, ev_c_75_3), (4, ev_c_75_4), (5, ev_c_75_5)]
set_option maxRecDepth 100000 in
theorem ev_d_75 : ∀ q ∈ ev_c_75, ∀ z ∈ q.2, decode prog_5_method_14_code z.1 = .ok (z.2.1, z.2.2) := List.forall_mem_cons.mpr ⟨ev_d_75_0, List.forall_mem_cons.mpr ⟨ev_d_75_1, List.forall_mem_cons.mpr ⟨ev_d_75_2, List.forall_mem_cons.mpr ⟨ev_d_75_3, List.forall_mem_cons.mpr ⟨ev_d_75_4, List.forall_mem_cons.mpr ⟨ev_d_75_5, fun _ h => absurd h List.not_mem_nil⟩⟩⟩⟩⟩⟩
def ev_c_76_0 : List (Nat × Instr × Nat) := [(0, .iload_n 1, 1), (1, .iload_n 2, 1), (2, .if_icmp .lt 8, 3), (5, .aload_n 0, 1), (6, .iconst 4, 1), (7, .invokevirtual 78, 3), (10, .return_, 1)]
set_option maxRecDepth 100000 in
theorem ev_d_76_0 : ∀ q ∈ ev_c_76_0, decode prog_5_method_15_code q.1 = .ok (q.2.1, q.2.2) := fd_rows (by decide +kernel)
def ev_c_76 : List (Nat × List (Nat × Instr × Nat)) := [(0, ev_c_76_0)]
set_option maxRecDepth 100000 in
theorem ev_d_76 : ∀ q ∈ ev_c_76, ∀ z ∈ q.2, decode prog_5_method_15_code z.1 = .ok (z.2.1, z.2.2) := List.forall_mem_cons.mpr ⟨ev_d_76_0, fun _ h => absurd h List.not_mem_nil⟩
def ev_c_77_0 : List (Nat × Instr × Nat) := [(0, .aload_n 0, 1), (1, .aload_n 0, 1), (2, .getfield 37, 3), (5, .getfield 100, 3), (8, .getfield 109, 3), (11, .bipush 6, 2), (13, .invokevirtual 163, 3), (16, .aload_n 0, 1), (17, .iconst 0, 1), (18, .iconst 4, 1), (19, .invokevirtual 97, 3), (22, .istore_n 1, 1), (23, .aload_n 0, 1), (24, .invokevirtual 49, 3), (27, .ifCond .ne 14, 3), (30, .aload_n 0, 1), (31, .getfield 37, 3)]
set_option maxRecDepth 100000 in
theorem ev_d_77_0 : ∀ q ∈ ev_c_77_0, decode prog_5_method_16_code q.1 = .ok (q.2.1, q.2.2) := fd_rows (by decide +kernel)
def ev_c_77_1 : List (Nat × Instr × Nat) := [(34, .getfield 100, 3), (37, .iload_n 1, 1), (38, .invokevirtual 167, 3), (41, .return_, 1)]
set_option maxRecDepth 100000 in
theorem ev_d_77_1 : ∀ q ∈ ev_c_77_1, decode prog_5_method_16_code q.1 = .ok (q.2.1, q.2.2) := fd_rows (by decide +kernel)
def ev_c_77 : List (Nat × List (Nat × Instr × Nat)) := [(0, ev_c_77_0), (1, ev_c_77_1)]
set_option maxRecDepth 100000 in
theorem ev_d_77 : ∀ q ∈ ev_c_77, ∀ z ∈ q.2, decode prog_5_method_16_code z.1 = .ok (z.2.1, z.2.2) := List.forall_mem_cons.mpr ⟨ev_d_77_0, List.forall_mem_cons.mpr ⟨ev_d_77_1, fun _ h => absurd h List.not_mem_nil⟩⟩
def ev_c_78_0 : List (Nat × Instr × Nat) := [(0, .aload_n 0, 1), (1, .aload_n 0, 1), (2, .getfield 37, 3), (5, .getfield 100, 3), (8, .getfield 112, 3), (11, .iconst 4, 1), (12, .invokevirtual 163, 3), (15, .aload_n 0, 1), (16, .iconst 0, 1), (17, .bipush 99, 2), (19, .invokevirtual 97, 3), (22, .istore_n 1, 1), (23, .aload_n 0, 1), (24, .iconst 1, 1), (25, .bipush 99, 2), (27, .invokevirtual 97, 3), (30, .istore_n 2, 1), (31, .aload_n 0, 1)]
set_option maxRecDepth 100000 in
theorem ev_d_78_0 : ∀ q ∈ ev_c_78_0, decode prog_5_method_17_code q.1 = .ok (q.2.1, q.2.2) := fd_rows (by decide +kernel)
def ev_c_78_1 : List (Nat × Instr × Nat) := [(32, .iconst 0, 1), (33, .bipush 9, 2), (35, .invokevirtual 97, 3), (38, .istore_n 3, 1), (39, .aload_n 0, 1), (40, .invokevirtual 49, 3), (43, .ifCond .ne 16, 3), (46, .aload_n 0, 1), (47, .getfield 37, 3), (50, .getfield 100, 3), (53, .iload_n 1, 1), (54, .iload_n 2, 1), (55, .iload_n 3, 1), (56, .invokevirtual 170, 3), (59, .return_, 1)]
set_option maxRecDepth 100000 in
theorem ev_d_78_1 : ∀ q ∈ ev_c_78_1, decode prog_5_method_17_code q.1 = .ok (q.2.1, q.2.2) := fd_rows (by decide +kernel)
def ev_c_78 : List (Nat × List (Nat × Instr × Nat)) := [(0, ev_c_78_0), (1, ev_c_78_1)]
set_option maxRecDepth 100000 in
theorem ev_d_78 : ∀ q ∈ ev_c_78, ∀ z ∈ q.2, decode prog_5_method_17_code z.1 = .ok (z.2.1, z.2.2) := List.forall_mem_cons.mpr ⟨ev_d_78_0, List.forall_mem_cons.mpr ⟨ev_d_78_1, fun _ h => absurd h List.not_mem_nil⟩⟩
def ev_c_79_0 : List (Nat × Instr × Nat) := [(0, .aload_n 0, 1), (1, .aload_n 0, 1), (2, .getfield 37, 3), (5, .getfield 100, 3), (8, .getfield 115, 3), (11, .iconst 3, 1), (12, .invokevirtual 163, 3), (15, .aload_n 0, 1), (16, .iconst 1, 1), (17, .bipush 6, 2), (19, .invokevirtual 97, 3), (22, .istore_n 1, 1), (23, .aload_n 0, 1), (24, .invokevirtual 49, 3), (27, .ifCond .ne 14, 3), (30, .aload_n 0, 1), (31, .getfield 37, 3)]
set_option maxRecDepth 100000 in
theorem ev_d_79_0 : ∀ q ∈ ev_c_79_0, decode prog_5_method_18_code q.1 = .ok (q.2.1, q.2.2) := fd_rows (by decide +kernel)
def ev_c_79_1 : List (Nat × Instr × Nat) := [(34, .getfield 100, 3), (37, .iload_n 1, 1), (38, .invokevirtual 174, 3), (41, .return_, 1)]
set_option maxRecDepth 100000 in
theorem ev_d_79_1 : ∀ q ∈ ev_c_79_1, decode prog_5_method_18_code q.1 = .ok (q.2.1, q.2.2) := fd_rows (by decide +kernel)
def ev_c_79 : List (Nat × List (Nat × Instr × Nat)) := [(0, ev_c_79_0), (1, ev_c_79_1)]
set_option maxRecDepth 100000 in
theorem ev_d_79 : ∀ q ∈ ev_c_79, ∀ z ∈ q.2, decode prog_5_method_18_code z.1 = .ok (z.2.1, z.2.2) := List.forall_mem_cons.mpr ⟨ev_d_79_0, List.forall_mem_cons.mpr ⟨ev_d_79_1, fun _ h => absurd h List.not_mem_nil⟩⟩
def ev_c_80_0 : List (Nat × Instr × Nat) := [(0, .aload_n 0, 1), (1, .aload_n 0, 1), (2, .getfield 37, 3), (5, .getfield 177, 3), (8, .getfield 181, 3), (11, .bipush 12, 2), (13, .invokevirtual 163, 3), (16, .aload_n 0, 1), (17, .iconst 0, 1), (18, .aload_n 0, 1), (19, .getfield 37, 3), (22, .getfield 100, 3), (25, .getfield 112, 3), (28, .iconst 1, 1), (29, .isub, 1), (30, .invokevirtual 97, 3)]
set_option maxRecDepth 100000 in
theorem ev_d_80_0 : ∀ q ∈ ev_c_80_0, decode prog_5_method_19_code q.1 = .ok (q.2.1, q.2.2) := fd_rows (by decide +kernel)
def ev_c_80_1 : List (Nat × Instr × Nat) := [(33, .istore_n 1, 1), (34, .aload_n 0, 1), (35, .iconst 0, 1), (36, .iconst 3, 1), (37, .invokevirtual 97, 3), (40, .istore_n 2, 1), (41, .aload_n 0, 1), (42, .iconst 0, 1), (43, .bipush 9, 2), (45, .invokevirtual 97, 3), (48, .istore_n 3, 1), (49, .iconst 0, 1), (50, .istore 4, 2), (52, .iconst 0, 1), (53, .istore 5, 2), (55, .iload 5, 2), (57, .bipush 6, 2), (59, .if_icmp .gt 78, 3), (62, .iload 5, 2)]
set_option maxRecDepth 100000 in
theorem ev_d_80_1 : ∀ q ∈ ev_c_80_1, decode prog_5_method_19_code q.1 = .ok (q.2.1, q.2.2) := fd_rows (by decide +kernel)
def ev_c_80_2 : List (Nat × Instr × Nat) := [(64, .ifCond .eq 10, 3), (67, .aload_n 0, 1), (68, .invokevirtual 186, 3), (71, .ifCond .eq 66, 3), (74, .aload_n 0, 1), (75, .iconst 0, 1), (76, .aload_n 0, 1), (77, .getfield 37, 3), (80, .getfield 100, 3), (83, .getfield 109, 3), (86, .iconst 1, 1), (87, .isub, 1), (88, .invokevirtual 97, 3), (91, .istore 6, 2), (93, .aload_n 0, 1), (94, .invokevirtual 49, 3)]
set_option maxRecDepth 100000 in
theorem ev_d_80_2 : ∀ q ∈ ev_c_80_2, decode prog_5_method_19_code q.1 = .ok (q.2.1, q.2.2) := fd_rows (by decide +kernel)
def ev_c_80_3 : List (Nat × Instr × Nat) := [(97, .ifCond .ne 18, 3), (100, .iload 4, 2), (102, .iload 6, 2), (104, .ishr, 1), (105, .iconst 1, 1), (106, .iand, 1), (107, .ifCond .eq 8, 3), (110, .aload_n 0, 1), (111, .iconst 3, 1), (112, .invokevirtual 78, 3), (115, .aload_n 0, 1), (116, .invokevirtual 49, 3), (119, .ifCond .ne 12, 3), (122, .iload 4, 2), (124, .iconst 1, 1), (125, .iload 6, 2), (127, .ishl, 1)]
set_option maxRecDepth 100000 in
theorem ev_d_80_3 : ∀ q ∈ ev_c_80_3, decode prog_5_method_19_code q.1 = .ok (q.2.1, q.2.2) := fd_rows (by decide +kernel)
def ev_c_80_4 : List (Nat × Instr × Nat) := [(128, .ior, 1), (129, .istore 4, 2), (131, .iinc 5 1, 3), (134, .goto (-79), 3), (137, .aload_n 0, 1), (138, .invokevirtual 49, 3), (141, .ifCond .ne 19, 3), (144, .aload_n 0, 1), (145, .getfield 37, 3), (148, .getfield 177, 3), (151, .iload_n 1, 1), (152, .iload 4, 2), (154, .iload_n 2, 1), (155, .iload_n 3, 1), (156, .invokevirtual 189, 3), (159, .pop, 1)]
set_option maxRecDepth 100000 in
theorem ev_d_80_4 : ∀ q ∈ ev_c_80_4, decode prog_5_method_19_code q.1 = .ok (q.2.1, q.2.2) := fd_rows (by decide +kernel)
def ev_c_80_5 : List (Nat × Instr × Nat) := [(160, .return_, 1)]
set_option maxRecDepth 100000 in
theorem ev_d_80_5 : ∀ q ∈ ev_c_80_5, decode prog_5_method_19_code q.1 = .ok (q.2.1, q.2.2) := fd_rows (by decide +kernel)
def ev_c_80 : List (Nat × List (Nat × Instr × Nat)) := [(0, ev_c_80_0), (1, ev_c_80_1), (2, ev_c_80_2), (3, ev_c_80_3), (4, ev_c_80_4), (5, ev_c_80_5)]
set_option maxRecDepth 100000 in
theorem ev_d_80 : ∀ q ∈ ev_c_80, ∀ z ∈ q.2, decode prog_5_method_19_code z.1 = .ok (z.2.1, z.2.2) := List.forall_mem_cons.mpr ⟨ev_d_80_0, List.forall_mem_cons.mpr ⟨ev_d_80_1, List.forall_mem_cons.mpr ⟨ev_d_80_2, List.forall_mem_cons.mpr ⟨ev_d_80_3, List.forall_mem_cons.mpr ⟨ev_d_80_4, List.forall_mem_cons.mpr ⟨ev_d_80_5, fun _ h => absurd h List.not_mem_nil⟩⟩⟩⟩⟩⟩
def ev_c_81_0 : List (Nat × Instr × Nat) := [(0, .aload_n 0, 1), (1, .iconst 0, 1), (2, .aload_n 0, 1), (3, .getfield 37, 3), (6, .getfield 177, 3), (9, .getfield 181, 3), (12, .iconst 1, 1), (13, .isub, 1), (14, .invokevirtual 97, 3), (17, .istore_n 1, 1), (18, .aload_n 0, 1), (19, .iconst 0, 1), (20, .aload_n 0, 1), (21, .getfield 37, 3), (24, .getfield 100, 3), (27, .getfield 115, 3), (30, .iconst 1, 1), (31, .isub, 1)]
set_option maxRecDepth 100000 in
theorem ev_d_81_0 : ∀ q ∈ ev_c_81_0, decode prog_5_method_20_code q.1 = .ok (q.2.1, q.2.2) := fd_rows (by decide +kernel)
def ev_c_81_1 : List (Nat × Instr × Nat) := [(32, .invokevirtual 97, 3), (35, .istore_n 2, 1), (36, .aload_n 0, 1), (37, .invokevirtual 49, 3), (40, .ifCond .eq 4, 3), (43, .return_, 1), (44, .aload_n 0, 1), (45, .getfield 37, 3), (48, .iload_n 1, 1), (49, .iload_n 2, 1), (50, .invokevirtual 193, 3), (53, .ifCond .eq 11, 3), (56, .aload_n 0, 1), (57, .iconst 3, 1), (58, .invokevirtual 78, 3), (61, .goto 16, 3)]
set_option maxRecDepth 100000 in
theorem ev_d_81_1 : ∀ q ∈ ev_c_81_1, decode prog_5_method_20_code q.1 = .ok (q.2.1, q.2.2) := fd_rows (by decide +kernel)
def ev_c_81_2 : List (Nat × Instr × Nat) := [(64, .aload_n 0, 1), (65, .getfield 37, 3), (68, .getfield 177, 3), (71, .iload_n 1, 1), (72, .iload_n 2, 1), (73, .invokevirtual 196, 3), (76, .pop, 1), (77, .return_, 1)]
set_option maxRecDepth 100000 in
theorem ev_d_81_2 : ∀ q ∈ ev_c_81_2, decode prog_5_method_20_code q.1 = .ok (q.2.1, q.2.2) := fd_rows (by decide +kernel)
def ev_c_81 : List (Nat × List (Nat × Instr × Nat)) := [(0, ev_c_81_0), (1, ev_c_81_1), (2, ev_c_81_2)]
set_option maxRecDepth 100000 in
theorem ev_d_81 : ∀ q ∈ ev_c_81, ∀ z ∈ q.2, decode prog_5_method_20_code z.1 = .ok (z.2.1, z.2.2) := List.forall_mem_cons.mpr ⟨ev_d_81_0, List.forall_mem_cons.mpr ⟨ev_d_81_1, List.forall_mem_cons.mpr ⟨ev_d_81_2, fun _ h => absurd h List.not_mem_nil⟩⟩⟩
def ev_c_82_0 : List (Nat × Instr × Nat) := [(0, .aload_n 0, 1), (1, .iconst 0, 1), (2, .aload_n 0, 1), (3, .getfield 37, 3), (6, .getfield 100, 3), (9, .getfield 115, 3), (12, .iconst 1, 1), (13, .isub, 1), (14, .invokevirtual 97, 3), (17, .istore_n 1, 1), (18, .aload_n 0, 1), (19, .iconst 0, 1), (20, .iconst 3, 1), (21, .invokevirtual 97, 3), (24, .istore_n 2, 1), (25, .aload_n 0, 1), (26, .invokevirtual 49, 3), (29, .ifCond .eq 4, 3)]
set_option maxRecDepth 100000 in
theorem ev_d_82_0 : ∀ q ∈ ev_c_82_0, decode prog_5_method_21_code q.1 = .ok (q.2.1, q.2.2) := fd_rows (by decide +kernel)
def ev_c_82_1 : List (Nat × Instr × Nat) := [(32, .return_, 1), (33, .aload_n 0, 1), (34, .getfield 37, 3), (37, .iload_n 1, 1), (38, .iload_n 2, 1), (39, .invokevirtual 199, 3), (42, .ifCond .eq 11, 3), (45, .aload_n 0, 1), (46, .iconst 3, 1), (47, .invokevirtual 78, 3), (50, .goto 13, 3), (53, .aload_n 0, 1), (54, .getfield 37, 3), (57, .iload_n 1, 1), (58, .iload_n 2, 1), (59, .invokevirtual 202, 3), (62, .pop, 1), (63, .return_, 1)]
set_option maxRecDepth 100000 in
theorem ev_d_82_1 : ∀ q ∈ ev_c_82_1, decode prog_5_method_21_code q.1 = .ok (q.2.1, q.2.2) := fd_rows (by decide +kernel)
def ev_c_82 : List (Nat × List (Nat × Instr × Nat)) := [(0, ev_c_82_0), (1, ev_c_82_1)]
set_option maxRecDepth 100000 in
theorem ev_d_82 : ∀ q ∈ ev_c_82, ∀ z ∈ q.2, decode prog_5_method_21_code z.1 = .ok (z.2.1, z.2.2) := List.forall_mem_cons.mpr ⟨ev_d_82_0, List.forall_mem_cons.mpr ⟨ev_d_82_1, fun _ h => absurd h List.not_mem_nil⟩⟩
def ev_c_83_0 : List (Nat × Instr × Nat) := [(0, .aload_n 0, 1), (1, .iconst 0, 1), (2, .aload_n 0, 1), (3, .getfield 37, 3), (6, .getfield 177, 3), (9, .getfield 181, 3), (12, .iconst 1, 1), (13, .isub, 1), (14, .invokevirtual 97, 3), (17, .istore_n 1, 1), (18, .aload_n 0, 1), (19, .invokevirtual 49, 3), (22, .ifCond .eq 4, 3), (25, .return_, 1), (26, .aload_n 0, 1), (27, .getfield 37, 3), (30, .iload_n 1, 1), (31, .invokevirtual 205, 3)]
set_option maxRecDepth 100000 in
theorem ev_d_83_0 : ∀ q ∈ ev_c_83_0, decode prog_5_method_22_code q.1 = .ok (q.2.1, q.2.2) := fd_rows (by decide +kernel)
def ev_c_83_1 : List (Nat × Instr × Nat) := [(34, .ifCond .ne 11, 3), (37, .aload_n 0, 1), (38, .iconst 3, 1), (39, .invokevirtual 78, 3), (42, .goto 12, 3), (45, .aload_n 0, 1), (46, .getfield 37, 3), (49, .iload_n 1, 1), (50, .invokevirtual 208, 3), (53, .pop, 1), (54, .return_, 1)]
set_option maxRecDepth 100000 in
theorem ev_d_83_1 : ∀ q ∈ ev_c_83_1, decode prog_5_method_22_code q.1 = .ok (q.2.1, q.2.2) := fd_rows (by decide +kernel)
def ev_c_83 : List (Nat × List (Nat × Instr × Nat)) := [(0, ev_c_83_0), (1, ev_c_83_1)]
set_option maxRecDepth 100000 in
theorem ev_d_83 : ∀ q ∈ ev_c_83, ∀ z ∈ q.2, decode prog_5_method_22_code z.1 = .ok (z.2.1, z.2.2) := List.forall_mem_cons.mpr ⟨ev_d_83_0, List.forall_mem_cons.mpr ⟨ev_d_83_1, fun _ h => absurd h List.not_mem_nil⟩⟩
def ev_c_84_0 : List (Nat × Instr × Nat) := [(0, .aload_n 0, 1), (1, .iconst 0, 1), (2, .bipush 9, 2), (4, .invokevirtual 97, 3), (7, .istore_n 1, 1), (8, .aload_n 0, 1), (9, .invokevirtual 49, 3), (12, .ifCond .ne 14, 3), (15, .aload_n 0, 1), (16, .getfield 37, 3), (19, .getfield 177, 3), (22, .iload_n 1, 1), (23, .putfield 212, 3), (26, .return_, 1)]
set_option maxRecDepth 100000 in
theorem ev_d_84_0 : ∀ q ∈ ev_c_84_0, decode prog_5_method_23_code q.1 = .ok (q.2.1, q.2.2) := fd_rows (by decide +kernel)
def ev_c_84 : List (Nat × List (Nat × Instr × Nat)) := [(0, ev_c_84_0)]
set_option maxRecDepth 100000 in
theorem ev_d_84 : ∀ q ∈ ev_c_84, ∀ z ∈ q.2, decode prog_5_method_23_code z.1 = .ok (z.2.1, z.2.2) := List.forall_mem_cons.mpr ⟨ev_d_84_0, fun _ h => absurd h List.not_mem_nil⟩
def ev_c_85_0 : List (Nat × Instr × Nat) := [(0, .aload_n 0, 1), (1, .iconst 1, 1), (2, .bipush 50, 2), (4, .invokevirtual 97, 3), (7, .istore_n 1, 1), (8, .aload_n 0, 1), (9, .invokevirtual 49, 3), (12, .ifCond .ne 15, 3), (15, .aload_n 0, 1), (16, .getfield 37, 3), (19, .getfield 177, 3), (22, .iload_n 1, 1), (23, .invokevirtual 214, 3), (26, .pop, 1), (27, .return_, 1)]
set_option maxRecDepth 100000 in
theorem ev_d_85_0 : ∀ q ∈ ev_c_85_0, decode prog_5_method_24_code q.1 = .ok (q.2.1, q.2.2) := fd_rows (by decide +kernel)
def ev_c_85 : List (Nat × List (Nat × Instr × Nat)) := [(0, ev_c_85_0)]
set_option maxRecDepth 100000 in
theorem ev_d_85 : ∀ q ∈ ev_c_85, ∀ z ∈ q.2, decode prog_5_method_24_code z.1 = .ok (z.2.1, z.2.2) := List.forall_mem_cons.mpr ⟨ev_d_85_0, fun _ h => absurd h List.not_mem_nil⟩
def ev_c_86_0 : List (Nat × Instr × Nat) := [(0, .aload_n 0, 1), (1, .invokespecial 3, 3), (4, .aload_n 0, 1), (5, .bipush 6, 2), (7, .newarray .int, 2), (9, .putfield 9, 3), (12, .aload_n 0, 1), (13, .iconst 4, 1), (14, .newarray .int, 2), (16, .putfield 15, 3), (19, .aload_n 0, 1), (20, .iconst 4, 1), (21, .newarray .int, 2), (23, .putfield 18, 3), (26, .aload_n 0, 1), (27, .iconst 4, 1), (28, .newarray .int, 2), (30, .putfield 21, 3)]
set_option maxRecDepth 100000 in
theorem ev_d_86_0 : ∀ q ∈ ev_c_86_0, decode prog_6_method_1_code q.1 = .ok (q.2.1, q.2.2) := by decide +kernel
def ev_c_86_1 : List (Nat × Instr × Nat) := [(33, .aload_n 0, 1), (34, .iconst 3, 1), (35, .newarray .int, 2), (37, .putfield 24, 3), (40, .return_, 1)]
set_option maxRecDepth 100000 in
theorem ev_d_86_1 : ∀ q ∈ ev_c_86_1, decode prog_6_method_1_code q.1 = .ok (q.2.1, q.2.2) := by decide +kernel
def ev_c_86 : List (Nat × List (Nat × Instr × Nat)) := [(0, ev_c_86_0), (1, ev_c_86_1)]
set_option maxRecDepth 100000 in
theorem ev_d_86 : ∀ q ∈ ev_c_86, ∀ z ∈ q.2, decode prog_6_method_1_code z.1 = .ok (z.2.1, z.2.2) := List.forall_mem_cons.mpr ⟨ev_d_86_0, List.forall_mem_cons.mpr ⟨ev_d_86_1, fun _ h => absurd h List.not_mem_nil⟩⟩
def ev_c_87_0 : List (Nat × Instr × Nat) := [(0, .aload_n 0, 1), (1, .iconst 0, 1), (2, .putfield 27, 3), (5, .aload_n 0, 1), (6, .iconst 0, 1), (7, .putfield 31, 3), (10, .aload_n 0, 1), (11, .iconst 0, 1), (12, .putfield 34, 3), (15, .aload_n 0, 1), (16, .iconst 0, 1), (17, .putfield 37, 3), (20, .return_, 1)]
set_option maxRecDepth 100000 in
theorem ev_d_87_0 : ∀ q ∈ ev_c_87_0, decode prog_6_method_2_code q.1 = .ok (q.2.1, q.2.2) := fd_rows (by decide +kernel)
def ev_c_87 : List (Nat × List (Nat × Instr × Nat)) := [(0, ev_c_87_0)]
set_option maxRecDepth 100000 in
theorem ev_d_87 : ∀ q ∈ ev_c_87, ∀ z ∈ q.2, decode prog_6_method_2_code z.1 = .ok (z.2.1, z.2.2) := List.forall_mem_cons.mpr ⟨ev_d_87_0, fun _ h => absurd h List.not_mem_nil⟩
def ev_c_88_0 : List (Nat × Instr × Nat) := [(0, .aload_n 0, 1), (1, .getfield 9, 3), (4, .aload_n 0, 1), (5, .getfield 31, 3), (8, .iload_n 1, 1), (9, .iastore, 1), (10, .aload_n 0, 1), (11, .dup, 1), (12, .getfield 31, 3), (15, .iconst 1, 1), (16, .iadd, 1), (17, .putfield 31, 3), (20, .return_, 1)]
set_option maxRecDepth 100000 in
theorem ev_d_88_0 : ∀ q ∈ ev_c_88_0, decode prog_6_method_3_code q.1 = .ok (q.2.1, q.2.2) := fd_rows (by decide +kernel)
def ev_c_88 : List (Nat × List (Nat × Instr × Nat)) := [(0, ev_c_88_0)]
set_option maxRecDepth 100000 in
theorem ev_d_88 : ∀ q ∈ ev_c_88, ∀ z ∈ q.2, decode prog_6_method_3_code z.1 = .ok (z.2.1, z.2.2) := List.forall_mem_cons.mpr ⟨ev_d_88_0, fun _ h => absurd h List.not_mem_nil⟩
def ev_c_89_0 : List (Nat × Instr × Nat) := [(0, .aload_n 0, 1), (1, .getfield 15, 3), (4, .aload_n 0, 1), (5, .getfield 34, 3), (8, .iload_n 1, 1), (9, .iastore, 1), (10, .aload_n 0, 1), (11, .getfield 18, 3), (14, .aload_n 0, 1), (15, .getfield 34, 3), (18, .iload_n 2, 1), (19, .iastore, 1), (20, .aload_n 0, 1), (21, .getfield 21, 3), (24, .aload_n 0, 1), (25, .getfield 34, 3), (28, .iload_n 3, 1), (29, .iastore, 1), (30, .aload_n 0, 1), (31, .dup, 1)]
set_option maxRecDepth 100000 in
theorem ev_d_89_0 : ∀ q ∈ ev_c_89_0, decode prog_6_method_4_code q.1 = .ok (q.2.1, q.2.2) := fd_rows (by decide +kernel)
def ev_c_89_1 : List (Nat × Instr × Nat) := [(32, .getfield 34, 3), (35, .iconst 1, 1), (36, .iadd, 1), (37, .putfield 34, 3), (40, .return_, 1)]
set_option maxRecDepth 100000 in
theorem ev_d_89_1 : ∀ q ∈ ev_c_89_1, decode prog_6_method_4_code q.1 = .ok (q.2.1, q.2.2) := fd_rows (by decide +kernel)
def ev_c_89 : List (Nat × List (Nat × Instr × Nat)) := [(0, ev_c_89_0), (1, ev_c_89_1)]
set_option maxRecDepth 100000 in
theorem ev_d_89 : ∀ q ∈ ev_c_89, ∀ z ∈ q.2, decode prog_6_method_4_code z.1 = .ok (z.2.1, z.2.2) := List.forall_mem_cons.mpr ⟨ev_d_89_0, List.forall_mem_cons.mpr ⟨ev_d_89_1, fun _ h => absurd h List.not_mem_nil⟩⟩
def ev_c_90_0 : List (Nat × Instr × Nat) := [(0, .aload_n 0, 1), (1, .getfield 24, 3), (4, .aload_n 0, 1), (5, .getfield 37, 3), (8, .iload_n 1, 1), (9, .iastore, 1), (10, .aload_n 0, 1), (11, .dup, 1), (12, .getfield 37, 3), (15, .iconst 1, 1), (16, .iadd, 1), (17, .putfield 37, 3), (20, .return_, 1)]
set_option maxRecDepth 100000 in
theorem ev_d_90_0 : ∀ q ∈ ev_c_90_0, decode prog_6_method_5_code q.1 = .ok (q.2.1, q.2.2) := fd_rows (by decide +kernel)
def ev_c_90 : List (Nat × List (Nat × Instr × Nat)) := [(0, ev_c_90_0)]
set_option maxRecDepth 100000 in
theorem ev_d_90 : ∀ q ∈ ev_c_90, ∀ z ∈ q.2, decode prog_6_method_5_code z.1 = .ok (z.2.1, z.2.2) := List.forall_mem_cons.mpr ⟨ev_d_90_0, fun _ h => absurd h List.not_mem_nil⟩
def ev_c_91_0 : List (Nat × Instr × Nat) := [(0, .iconst 1, 1), (1, .aload_n 0, 1), (2, .getfield 31, 3), (5, .ishl, 1), (6, .iconst 1, 1), (7, .isub, 1), (8, .ireturn, 1)]
set_option maxRecDepth 100000 in
theorem ev_d_91_0 : ∀ q ∈ ev_c_91_0, decode prog_6_method_6_code q.1 = .ok (q.2.1, q.2.2) := fd_rows (by decide +kernel)
def ev_c_91 : List (Nat × List (Nat × Instr × Nat)) := [(0, ev_c_91_0)]
set_option maxRecDepth 100000 in
theorem ev_d_91 : ∀ q ∈ ev_c_91, ∀ z ∈ q.2, decode prog_6_method_6_code z.1 = .ok (z.2.1, z.2.2) := List.forall_mem_cons.mpr ⟨ev_d_91_0, fun _ h => absurd h List.not_mem_nil⟩
def ev_c_92_0 : List (Nat × Instr × Nat) := [(0, .iconst 0, 1), (1, .istore_n 2, 1), (2, .iconst 0, 1), (3, .istore_n 3, 1), (4, .iload_n 3, 1), (5, .aload_n 0, 1), (6, .getfield 31, 3), (9, .if_icmp .ge 25, 3), (12, .aload_n 0, 1), (13, .getfield 9, 3), (16, .iload_n 3, 1), (17, .iaload, 1), (18, .iload_n 1, 1), (19, .if_icmp .gt 9, 3), (22, .iload_n 2, 1), (23, .iconst 1, 1), (24, .iload_n 3, 1), (25, .ishl, 1), (26, .ior, 1), (27, .istore_n 2, 1), (28, .iinc 3 1, 3), (31, .goto (-27), 3)]
set_option maxRecDepth 100000 in
theorem ev_d_92_0 : ∀ q ∈ ev_c_92_0, decode prog_6_method_7_code q.1 = .ok (q.2.1, q.2.2) := fd_rows (by decide +kernel)
def ev_c_92_1 : List (Nat × Instr × Nat) := [(34, .iload_n 2, 1), (35, .ireturn, 1)]
set_option maxRecDepth 100000 in
theorem ev_d_92_1 : ∀ q ∈ ev_c_92_1, decode prog_6_method_7_code q.1 = .ok (q.2.1, q.2.2) := fd_rows (by decide +kernel)
def ev_c_92 : List (Nat × List (Nat × Instr × Nat)) := [(0, ev_c_92_0), (1, ev_c_92_1)]
set_option maxRecDepth 100000 in
theorem ev_d_92 : ∀ q ∈ ev_c_92, ∀ z ∈ q.2, decode prog_6_method_7_code z.1 = .ok (z.2.1, z.2.2) := List.forall_mem_cons.mpr ⟨ev_d_92_0, List.forall_mem_cons.mpr ⟨ev_d_92_1, fun _ h => absurd h List.not_mem_nil⟩⟩
def ev_c_93_0 : List (Nat × Instr × Nat) := [(0, .aload_n 0, 1), (1, .invokespecial 3, 3), (4, .aload_n 0, 1), (5, .bipush 12, 2), (7, .anewarray 9, 3), (10, .putfield 11, 3), (13, .iconst 0, 1), (14, .istore_n 1, 1), (15, .iload_n 1, 1), (16, .bipush 12, 2), (18, .if_icmp .ge 22, 3), (21, .aload_n 0, 1), (22, .getfield 11, 3), (25, .iload_n 1, 1), (26, .new 9, 3), (29, .dup, 1), (30, .invokespecial 17, 3)]
set_option maxRecDepth 100000 in
theorem ev_d_93_0 : ∀ q ∈ ev_c_93_0, decode prog_7_method_1_code q.1 = .ok (q.2.1, q.2.2) := fd_rows (by decide +kernel)
def ev_c_93_1 : List (Nat × Instr × Nat) := [(33, .aastore, 1), (34, .iinc 1 1, 3), (37, .goto (-22), 3), (40, .aload_n 0, 1), (41, .iconst 3, 1), (42, .newarray .int, 2), (44, .putfield 18, 3), (47, .aload_n 0, 1), (48, .bipush 18, 2), (50, .newarray .int, 2), (52, .putfield 22, 3), (55, .aload_n 0, 1), (56, .bipush 8, 2), (58, .newarray .int, 2), (60, .putfield 25, 3), (63, .aload_n 0, 1)]
set_option maxRecDepth 100000 in
theorem ev_d_93_1 : ∀ q ∈ ev_c_93_1, decode prog_7_method_1_code q.1 = .ok (q.2.1, q.2.2) := by decide +kernel
def ev_c_93_2 : List (Nat × Instr × Nat) := [(64, .iconst 4, 1), (65, .newarray .int, 2), (67, .putfield 28, 3), (70, .return_, 1)]
set_option maxRecDepth 100000 in
theorem ev_d_93_2 : ∀ q ∈ ev_c_93_2, decode prog_7_method_1_code q.1 = .ok (q.2.1, q.2.2) := by decide +kernel
def ev_c_93 : List (Nat × List (Nat × Instr × Nat)) := [(0, ev_c_93_0), (1, ev_c_93_1), (2, ev_c_93_2)]
set_option maxRecDepth 100000 in
theorem ev_d_93 : ∀ q ∈ ev_c_93, ∀ z ∈ q.2, decode prog_7_method_1_code z.1 = .ok (z.2.1, z.2.2) := List.forall_mem_cons.mpr ⟨ev_d_93_0, List.forall_mem_cons.mpr ⟨ev_d_93_1, List.forall_mem_cons.mpr ⟨ev_d_93_2, fun _ h => absurd h List.not_mem_nil⟩⟩⟩
def ev_c_94_0 : List (Nat × Instr × Nat) := [(0, .aload_n 0, 1), (1, .iconst 0, 1), (2, .putfield 31, 3), (5, .aload_n 0, 1), (6, .iconst 0, 1), (7, .putfield 35, 3), (10, .aload_n 0, 1), (11, .iconst 0, 1), (12, .putfield 38, 3), (15, .aload_n 0, 1), (16, .iconst 0, 1), (17, .putfield 41, 3), (20, .aload_n 0, 1), (21, .iconst 0, 1), (22, .putfield 44, 3), (25, .aload_n 0, 1), (26, .iconst 0, 1), (27, .putfield 47, 3), (30, .aload_n 0, 1), (31, .iconst 0, 1)]
set_option maxRecDepth 100000 in
theorem ev_d_94_0 : ∀ q ∈ ev_c_94_0, decode prog_7_method_2_code q.1 = .ok (q.2.1, q.2.2) := fd_rows (by decide +kernel)
def ev_c_94_1 : List (Nat × Instr × Nat) := [(32, .putfield 50, 3), (35, .aload_n 0, 1), (36, .getfield 18, 3), (39, .iconst 0, 1), (40, .invokestatic 53, 3), (43, .aload_n 0, 1), (44, .getfield 22, 3), (47, .iconst (-1), 1), (48, .invokestatic 53, 3), (51, .aload_n 0, 1), (52, .getfield 25, 3), (55, .iconst (-1), 1), (56, .invokestatic 53, 3), (59, .aload_n 0, 1), (60, .getfield 28, 3), (63, .iconst (-1), 1)]
set_option maxRecDepth 100000 in
theorem ev_d_94_1 : ∀ q ∈ ev_c_94_1, decode prog_7_method_2_code q.1 = .ok (q.2.1, q.2.2) := fd_rows (by decide +kernel)
def ev_c_94_2 : List (Nat × Instr × Nat) := [(64, .invokestatic 53, 3), (67, .return_, 1)]
set_option maxRecDepth 100000 in
theorem ev_d_94_2 : ∀ q ∈ ev_c_94_2, decode prog_7_method_2_code q.1 = .ok (q.2.1, q.2.2) := fd_rows (by decide +kernel)
def ev_c_94 : List (Nat × List (Nat × Instr × Nat)) := [(0, ev_c_94_0), (1, ev_c_94_1), (2, ev_c_94_2)]
set_option maxRecDepth 100000 in
theorem ev_d_94 : ∀ q ∈ ev_c_94, ∀ z ∈ q.2, decode prog_7_method_2_code z.1 = .ok (z.2.1, z.2.2) := List.forall_mem_cons.mpr ⟨ev_d_94_0, List.forall_mem_cons.mpr ⟨ev_d_94_1, List.forall_mem_cons.mpr ⟨ev_d_94_2, fun _ h => absurd h List.not_mem_nil⟩⟩⟩
def ev_c_95_0 : List (Nat × Instr × Nat) := [(0, .aload_n 0, 1), (1, .aload_n 1, 1), (2, .getfield 31, 3), (5, .putfield 31, 3), (8, .aload_n 0, 1), (9, .aload_n 1, 1), (10, .getfield 35, 3), (13, .putfield 35, 3), (16, .aload_n 0, 1), (17, .aload_n 1, 1), (18, .getfield 38, 3), (21, .putfield 38, 3), (24, .aload_n 0, 1), (25, .aload_n 1, 1), (26, .getfield 41, 3), (29, .putfield 41, 3)]
set_option maxRecDepth 100000 in
theorem ev_d_95_0 : ∀ q ∈ ev_c_95_0, decode prog_7_method_3_code q.1 = .ok (q.2.1, q.2.2) := fd_rows (by decide +kernel)
def ev_c_95_1 : List (Nat × Instr × Nat) := [(32, .aload_n 0, 1), (33, .aload_n 1, 1), (34, .getfield 44, 3), (37, .putfield 44, 3), (40, .aload_n 0, 1), (41, .aload_n 1, 1), (42, .getfield 47, 3), (45, .putfield 47, 3), (48, .aload_n 0, 1), (49, .aload_n 1, 1), (50, .getfield 50, 3), (53, .putfield 50, 3), (56, .iconst 0, 1), (57, .istore_n 2, 1), (58, .iload_n 2, 1), (59, .bipush 12, 2), (61, .if_icmp .ge 24, 3)]
set_option maxRecDepth 100000 in
theorem ev_d_95_1 : ∀ q ∈ ev_c_95_1, decode prog_7_method_3_code q.1 = .ok (q.2.1, q.2.2) := fd_rows (by decide +kernel)
def ev_c_95_2 : List (Nat × Instr × Nat) := [(64, .aload_n 0, 1), (65, .getfield 11, 3), (68, .iload_n 2, 1), (69, .aaload, 1), (70, .aload_n 1, 1), (71, .getfield 11, 3), (74, .iload_n 2, 1), (75, .aaload, 1), (76, .invokevirtual 59, 3), (79, .iinc 2 1, 3), (82, .goto (-24), 3), (85, .aload_n 1, 1), (86, .getfield 18, 3), (89, .iconst 0, 1), (90, .aload_n 0, 1), (91, .getfield 18, 3), (94, .iconst 0, 1), (95, .iconst 3, 1)]
set_option maxRecDepth 100000 in
theorem ev_d_95_2 : ∀ q ∈ ev_c_95_2, decode prog_7_method_3_code q.1 = .ok (q.2.1, q.2.2) := fd_rows (by decide +kernel)
def ev_c_95_3 : List (Nat × Instr × Nat) := [(96, .invokestatic 63, 3), (99, .aload_n 1, 1), (100, .getfield 22, 3), (103, .iconst 0, 1), (104, .aload_n 0, 1), (105, .getfield 22, 3), (108, .iconst 0, 1), (109, .bipush 18, 2), (111, .invokestatic 63, 3), (114, .aload_n 1, 1), (115, .getfield 25, 3), (118, .iconst 0, 1), (119, .aload_n 0, 1), (120, .getfield 25, 3), (123, .iconst 0, 1), (124, .bipush 8, 2), (126, .invokestatic 63, 3)]
set_option maxRecDepth 100000 in
theorem ev_d_95_3 : ∀ q ∈ ev_c_95_3, decode prog_7_method_3_code q.1 = .ok (q.2.1, q.2.2) := fd_rows (by decide +kernel)
def ev_c_95_4 : List (Nat × Instr × Nat) := [(129, .aload_n 1, 1), (130, .getfield 28, 3), (133, .iconst 0, 1), (134, .aload_n 0, 1), (135, .getfield 28, 3), (138, .iconst 0, 1), (139, .iconst 4, 1), (140, .invokestatic 63, 3), (143, .return_, 1)]
set_option maxRecDepth 100000 in
theorem ev_d_95_4 : ∀ q ∈ ev_c_95_4, decode prog_7_method_3_code q.1 = .ok (q.2.1, q.2.2) := fd_rows (by decide +kernel)
def ev_c_95 : List (Nat × List (Nat × Instr × Nat)) := [(0, ev_c_95_0), (1, ev_c_95_1), (2, ev_c_95_2), (3, ev_c_95_3), (4, ev_c_95_4)]
set_option maxRecDepth 100000 in
theorem ev_d_95 : ∀ q ∈ ev_c_95, ∀ z ∈ q.2, decode prog_7_method_3_code z.1 = .ok (z.2.1, z.2.2) := List.forall_mem_cons.mpr ⟨ev_d_95_0, List.forall_mem_cons.mpr ⟨ev_d_95_1, List.forall_mem_cons.mpr ⟨ev_d_95_2, List.forall_mem_cons.mpr ⟨ev_d_95_3, List.forall_mem_cons.mpr ⟨ev_d_95_4, fun _ h => absurd h List.not_mem_nil⟩⟩⟩⟩⟩
def ev_c_96_0 : List (Nat × Instr × Nat) := [(0, .aload_n 0, 1), (1, .getfield 50, 3), (4, .istore 5, 2), (6, .aload_n 0, 1), (7, .getfield 11, 3), (10, .iload 5, 2), (12, .aaload, 1), (13, .iload_n 1, 1), (14, .iload_n 2, 1), (15, .iload_n 3, 1), (16, .iload 4, 2), (18, .invokevirtual 69, 3), (21, .aload_n 0, 1), (22, .dup, 1), (23, .getfield 50, 3), (26, .iconst 1, 1), (27, .iadd, 1), (28, .putfield 50, 3), (31, .iload 5, 2)]
set_option maxRecDepth 100000 in
theorem ev_d_96_0 : ∀ q ∈ ev_c_96_0, decode prog_7_method_4_code q.1 = .ok (q.2.1, q.2.2) := fd_rows (by decide +kernel)
def ev_c_96_1 : List (Nat × Instr × Nat) := [(33, .ireturn, 1)]
set_option maxRecDepth 100000 in
theorem ev_d_96_1 : ∀ q ∈ ev_c_96_1, decode prog_7_method_4_code q.1 = .ok (q.2.1, q.2.2) := fd_rows (by decide +kernel)
def ev_c_96 : List (Nat × List (Nat × Instr × Nat)) := [(0, ev_c_96_0), (1, ev_c_96_1)]
set_option maxRecDepth 100000 in
theorem ev_d_96 : ∀ q ∈ ev_c_96, ∀ z ∈ q.2, decode prog_7_method_4_code z.1 = .ok (z.2.1, z.2.2) := List.forall_mem_cons.mpr ⟨ev_d_96_0, List.forall_mem_cons.mpr ⟨ev_d_96_1, fun _ h => absurd h List.not_mem_nil⟩⟩
def ev_c_97_0 : List (Nat × Instr × Nat) := [(0, .aload_n 0, 1), (1, .getfield 22, 3), (4, .iload_n 1, 1), (5, .bipush 6, 2), (7, .imul, 1), (8, .iload_n 2, 1), (9, .iadd, 1), (10, .iaload, 1), (11, .ireturn, 1)]
set_option maxRecDepth 100000 in
theorem ev_d_97_0 : ∀ q ∈ ev_c_97_0, decode prog_7_method_5_code q.1 = .ok (q.2.1, q.2.2) := fd_rows (by decide +kernel)
def ev_c_97 : List (Nat × List (Nat × Instr × Nat)) := [(0, ev_c_97_0)]
set_option maxRecDepth 100000 in
theorem ev_d_97 : ∀ q ∈ ev_c_97, ∀ z ∈ q.2, decode prog_7_method_5_code z.1 = .ok (z.2.1, z.2.2) := List.forall_mem_cons.mpr ⟨ev_d_97_0, fun _ h => absurd h List.not_mem_nil⟩
def ev_c_98_0 : List (Nat × Instr × Nat) := [(0, .aload_n 0, 1), (1, .getfield 11, 3), (4, .aload_n 0, 1), (5, .getfield 22, 3), (8, .iload_n 1, 1), (9, .bipush 6, 2), (11, .imul, 1), (12, .iload_n 2, 1), (13, .iadd, 1), (14, .iaload, 1), (15, .aaload, 1), (16, .areturn, 1)]
set_option maxRecDepth 100000 in
theorem ev_d_98_0 : ∀ q ∈ ev_c_98_0, decode prog_7_method_6_code q.1 = .ok (q.2.1, q.2.2) := fd_rows (by decide +kernel)
def ev_c_98 : List (Nat × List (Nat × Instr × Nat)) := [(0, ev_c_98_0)]
set_option maxRecDepth 100000 in
theorem ev_d_98 : ∀ q ∈ ev_c_98, ∀ z ∈ q.2, decode prog_7_method_6_code z.1 = .ok (z.2.1, z.2.2) := List.forall_mem_cons.mpr ⟨ev_d_98_0, fun _ h => absurd h List.not_mem_nil⟩
def ev_c_99_0 : List (Nat × Instr × Nat) := [(0, .aload_n 0, 1), (1, .getfield 28, 3), (4, .iload_n 1, 1), (5, .iaload, 1), (6, .iconst (-1), 1), (7, .if_icmp .eq 7, 3), (10, .iconst 1, 1), (11, .goto 4, 3), (14, .iconst 0, 1), (15, .ireturn, 1)]
set_option maxRecDepth 100000 in
theorem ev_d_99_0 : ∀ q ∈ ev_c_99_0, decode prog_7_method_7_code q.1 = .ok (q.2.1, q.2.2) := fd_rows (by decide +kernel)
def ev_c_99 : List (Nat × List (Nat × Instr × Nat)) := [(0, ev_c_99_0)]
set_option maxRecDepth 100000 in
theorem ev_d_99 : ∀ q ∈ ev_c_99, ∀ z ∈ q.2, decode prog_7_method_7_code z.1 = .ok (z.2.1, z.2.2) := List.forall_mem_cons.mpr ⟨ev_d_99_0, fun _ h => absurd h List.not_mem_nil⟩
def ev_c_100_0 : List (Nat × Instr × Nat) := [(0, .iconst 0, 1), (1, .istore_n 2, 1), (2, .iconst 0, 1), (3, .istore_n 3, 1), (4, .iload_n 3, 1), (5, .aload_n 0, 1), (6, .getfield 50, 3), (9, .if_icmp .ge 25, 3), (12, .aload_n 0, 1), (13, .getfield 11, 3), (16, .iload_n 3, 1), (17, .aaload, 1), (18, .getfield 73, 3), (21, .iload_n 1, 1), (22, .if_icmp .ne 6, 3), (25, .iinc 2 1, 3), (28, .iinc 3 1, 3), (31, .goto (-27), 3)]
set_option maxRecDepth 100000 in
theorem ev_d_100_0 : ∀ q ∈ ev_c_100_0, decode prog_7_method_8_code q.1 = .ok (q.2.1, q.2.2) := fd_rows (by decide +kernel)
def ev_c_100_1 : List (Nat × Instr × Nat) := [(34, .iload_n 2, 1), (35, .ireturn, 1)]
set_option maxRecDepth 100000 in
theorem ev_d_100_1 : ∀ q ∈ ev_c_100_1, decode prog_7_method_8_code q.1 = .ok (q.2.1, q.2.2) := fd_rows (by decide +kernel)
def ev_c_100 : List (Nat × List (Nat × Instr × Nat)) := [(0, ev_c_100_0), (1, ev_c_100_1)]
set_option maxRecDepth 100000 in
theorem ev_d_100 : ∀ q ∈ ev_c_100, ∀ z ∈ q.2, decode prog_7_method_8_code z.1 = .ok (z.2.1, z.2.2) := List.forall_mem_cons.mpr ⟨ev_d_100_0, List.forall_mem_cons.mpr ⟨ev_d_100_1, fun _ h => absurd h List.not_mem_nil⟩⟩
def ev_c_101_0 : List (Nat × Instr × Nat) := [(0, .iconst 0, 1), (1, .istore_n 1, 1), (2, .iconst 0, 1), (3, .istore_n 2, 1), (4, .iload_n 2, 1), (5, .aload_n 0, 1), (6, .getfield 50, 3), (9, .if_icmp .ge 24, 3), (12, .aload_n 0, 1), (13, .getfield 11, 3), (16, .iload_n 2, 1), (17, .aaload, 1), (18, .invokevirtual 76, 3), (21, .ifCond .eq 6, 3), (24, .iinc 1 1, 3), (27, .iinc 2 1, 3), (30, .goto (-26), 3)]
set_option maxRecDepth 100000 in
theorem ev_d_101_0 : ∀ q ∈ ev_c_101_0, decode prog_7_method_9_code q.1 = .ok (q.2.1, q.2.2) := fd_rows (by decide +kernel)
def ev_c_101_1 : List (Nat × Instr × Nat) := [(33, .iload_n 1, 1), (34, .ireturn, 1)]
set_option maxRecDepth 100000 in
theorem ev_d_101_1 : ∀ q ∈ ev_c_101_1, decode prog_7_method_9_code q.1 = .ok (q.2.1, q.2.2) := fd_rows (by decide +kernel)
def ev_c_101 : List (Nat × List (Nat × Instr × Nat)) := [(0, ev_c_101_0), (1, ev_c_101_1)]
set_option maxRecDepth 100000 in
theorem ev_d_101 : ∀ q ∈ ev_c_101, ∀ z ∈ q.2, decode prog_7_method_9_code z.1 = .ok (z.2.1, z.2.2) := List.forall_mem_cons.mpr ⟨ev_d_101_0, List.forall_mem_cons.mpr ⟨ev_d_101_1, fun _ h => absurd h List.not_mem_nil⟩⟩
def ev_c_102_0 : List (Nat × Instr × Nat) := [(0, .iconst 0, 1), (1, .istore_n 2, 1), (2, .iconst 0, 1), (3, .istore_n 3, 1), (4, .iload_n 3, 1), (5, .aload_n 0, 1), (6, .getfield 50, 3), (9, .if_icmp .ge 25, 3), (12, .aload_n 0, 1), (13, .getfield 11, 3), (16, .iload_n 3, 1), (17, .aaload, 1), (18, .getfield 80, 3), (21, .iload_n 1, 1), (22, .if_icmp .ne 6, 3), (25, .iinc 2 1, 3), (28, .iinc 3 1, 3), (31, .goto (-27), 3)]
set_option maxRecDepth 100000 in
theorem ev_d_102_0 : ∀ q ∈ ev_c_102_0, decode prog_7_method_10_code q.1 = .ok (q.2.1, q.2.2) := fd_rows (by decide +kernel)
def ev_c_102_1 : List (Nat × Instr × Nat) := [(34, .iload_n 2, 1), (35, .ireturn, 1)]
set_option maxRecDepth 100000 in
theorem ev_d_102_1 : ∀ q ∈ ev_c_102_1, decode prog_7_method_10_code q.1 = .ok (q.2.1, q.2.2) := fd_rows (by decide +kernel)
def ev_c_102 : List (Nat × List (Nat × Instr × Nat)) := [(0, ev_c_102_0), (1, ev_c_102_1)]
set_option maxRecDepth 100000 in
theorem ev_d_102 : ∀ q ∈ ev_c_102, ∀ z ∈ q.2, decode prog_7_method_10_code z.1 = .ok (z.2.1, z.2.2) := List.forall_mem_cons.mpr ⟨ev_d_102_0, List.forall_mem_cons.mpr ⟨ev_d_102_1, fun _ h => absurd h List.not_mem_nil⟩⟩
def ev_c_103_0 : List (Nat × Instr × Nat) := [(0, .iconst 0, 1), (1, .istore_n 2, 1), (2, .iconst 0, 1), (3, .istore_n 3, 1), (4, .iload_n 3, 1), (5, .aload_n 0, 1), (6, .getfield 50, 3), (9, .if_icmp .ge 37, 3), (12, .aload_n 0, 1), (13, .getfield 11, 3), (16, .iload_n 3, 1), (17, .aaload, 1), (18, .getfield 80, 3), (21, .iload_n 1, 1), (22, .if_icmp .ne 18, 3), (25, .aload_n 0, 1), (26, .getfield 11, 3), (29, .iload_n 3, 1), (30, .aaload, 1), (31, .invokevirtual 76, 3)]
set_option maxRecDepth 100000 in
theorem ev_d_103_0 : ∀ q ∈ ev_c_103_0, decode prog_7_method_11_code q.1 = .ok (q.2.1, q.2.2) := fd_rows (by decide +kernel)
def ev_c_103_1 : List (Nat × Instr × Nat) := [(34, .ifCond .eq 6, 3), (37, .iinc 2 1, 3), (40, .iinc 3 1, 3), (43, .goto (-39), 3), (46, .iload_n 2, 1), (47, .ireturn, 1)]
set_option maxRecDepth 100000 in
theorem ev_d_103_1 : ∀ q ∈ ev_c_103_1, decode prog_7_method_11_code q.1 = .ok (q.2.1, q.2.2) := fd_rows (by decide +kernel)
def ev_c_103 : List (Nat × List (Nat × Instr × Nat)) := [(0, ev_c_103_0), (1, ev_c_103_1)]
set_option maxRecDepth 100000 in
theorem ev_d_103 : ∀ q ∈ ev_c_103, ∀ z ∈ q.2, decode prog_7_method_11_code z.1 = .ok (z.2.1, z.2.2) := List.forall_mem_cons.mpr ⟨ev_d_103_0, List.forall_mem_cons.mpr ⟨ev_d_103_1, fun _ h => absurd h List.not_mem_nil⟩⟩
def ev_c_104_0 : List (Nat × Instr × Nat) := [(0, .iconst 0, 1), (1, .istore_n 2, 1), (2, .iload_n 2, 1), (3, .aload_n 0, 1), (4, .getfield 50, 3), (7, .if_icmp .ge 36, 3), (10, .aload_n 0, 1), (11, .getfield 11, 3), (14, .iload_n 2, 1), (15, .aaload, 1), (16, .getfield 80, 3), (19, .iload_n 1, 1), (20, .if_icmp .ne 17, 3), (23, .aload_n 0, 1), (24, .getfield 11, 3), (27, .iload_n 2, 1), (28, .aaload, 1), (29, .invokevirtual 76, 3)]
set_option maxRecDepth 100000 in
theorem ev_d_104_0 : ∀ q ∈ ev_c_104_0, decode prog_7_method_12_code q.1 = .ok (q.2.1, q.2.2) := fd_rows (by decide +kernel)
def ev_c_104_1 : List (Nat × Instr × Nat) := [(32, .ifCond .ne 5, 3), (35, .iload_n 2, 1), (36, .ireturn, 1), (37, .iinc 2 1, 3), (40, .goto (-38), 3), (43, .iconst (-1), 1), (44, .ireturn, 1)]
set_option maxRecDepth 100000 in
theorem ev_d_104_1 : ∀ q ∈ ev_c_104_1, decode prog_7_method_12_code q.1 = .ok (q.2.1, q.2.2) := fd_rows (by decide +kernel)
def ev_c_104 : List (Nat × List (Nat × Instr × Nat)) := [(0, ev_c_104_0), (1, ev_c_104_1)]
set_option maxRecDepth 100000 in
theorem ev_d_104 : ∀ q ∈ ev_c_104, ∀ z ∈ q.2, decode prog_7_method_12_code z.1 = .ok (z.2.1, z.2.2) := List.forall_mem_cons.mpr ⟨ev_d_104_0, List.forall_mem_cons.mpr ⟨ev_d_104_1, fun _ h => absurd h List.not_mem_nil⟩⟩
def ev_c_105_0 : List (Nat × Instr × Nat) := [(0, .iconst 0, 1), (1, .istore_n 2, 1), (2, .iconst 0, 1), (3, .istore_n 3, 1), (4, .iload_n 3, 1), (5, .aload_n 0, 1), (6, .getfield 50, 3), (9, .if_icmp .ge 25, 3), (12, .iload_n 2, 1), (13, .aload_n 0, 1), (14, .getfield 11, 3), (17, .iload_n 3, 1), (18, .aaload, 1), (19, .getfield 83, 3), (22, .iload_n 1, 1), (23, .ishr, 1), (24, .iconst 1, 1), (25, .iand, 1), (26, .iadd, 1), (27, .istore_n 2, 1), (28, .iinc 3 1, 3), (31, .goto (-27), 3)]
set_option maxRecDepth 100000 in
theorem ev_d_105_0 : ∀ q ∈ ev_c_105_0, decode prog_7_method_13_code q.1 = .ok (q.2.1, q.2.2) := fd_rows (by decide +kernel)
def ev_c_105_1 : List (Nat × Instr × Nat) := [(34, .iload_n 2, 1), (35, .ireturn, 1)]
set_option maxRecDepth 100000 in
theorem ev_d_105_1 : ∀ q ∈ ev_c_105_1, decode prog_7_method_13_code q.1 = .ok (q.2.1, q.2.2) := fd_rows (by decide +kernel)
def ev_c_105 : List (Nat × List (Nat × Instr × Nat)) := [(0, ev_c_105_0), (1, ev_c_105_1)]
set_option maxRecDepth 100000 in
theorem ev_d_105 : ∀ q ∈ ev_c_105, ∀ z ∈ q.2, decode prog_7_method_13_code z.1 = .ok (z.2.1, z.2.2) := List.forall_mem_cons.mpr ⟨ev_d_105_0, List.forall_mem_cons.mpr ⟨ev_d_105_1, fun _ h => absurd h List.not_mem_nil⟩⟩
def ev_c_106_0 : List (Nat × Instr × Nat) := [(0, .iconst 0, 1), (1, .istore_n 2, 1), (2, .iconst 0, 1), (3, .istore_n 3, 1), (4, .iload_n 3, 1), (5, .aload_n 0, 1), (6, .getfield 50, 3), (9, .if_icmp .ge 25, 3), (12, .iload_n 2, 1), (13, .aload_n 0, 1), (14, .getfield 11, 3), (17, .iload_n 3, 1), (18, .aaload, 1), (19, .getfield 86, 3), (22, .iload_n 1, 1), (23, .ishr, 1), (24, .iconst 1, 1), (25, .iand, 1), (26, .iadd, 1), (27, .istore_n 2, 1), (28, .iinc 3 1, 3), (31, .goto (-27), 3)]
set_option maxRecDepth 100000 in
theorem ev_d_106_0 : ∀ q ∈ ev_c_106_0, decode prog_7_method_14_code q.1 = .ok (q.2.1, q.2.2) := fd_rows (by decide +kernel)
def ev_c_106_1 : List (Nat × Instr × Nat) := [(34, .iload_n 2, 1), (35, .ireturn, 1)]
set_option maxRecDepth 100000 in
theorem ev_d_106_1 : ∀ q ∈ ev_c_106_1, decode prog_7_method_14_code q.1 = .ok (q.2.1, q.2.2) := fd_rows (by decide +kernel)
def ev_c_106 : List (Nat × List (Nat × Instr × Nat)) := [(0, ev_c_106_0), (1, ev_c_106_1)]
set_option maxRecDepth 100000 in
theorem ev_d_106 : ∀ q ∈ ev_c_106, ∀ z ∈ q.2, decode prog_7_method_14_code z.1 = .ok (z.2.1, z.2.2) := List.forall_mem_cons.mpr ⟨ev_d_106_0, List.forall_mem_cons.mpr ⟨ev_d_106_1, fun _ h => absurd h List.not_mem_nil⟩⟩
def ev_c_107_0 : List (Nat × Instr × Nat) := [(0, .iconst 0, 1), (1, .istore_n 1, 1), (2, .iconst 0, 1), (3, .istore_n 2, 1), (4, .iload_n 2, 1), (5, .aload_n 0, 1), (6, .getfield 50, 3), (9, .if_icmp .ge 21, 3), (12, .iload_n 1, 1), (13, .aload_n 0, 1), (14, .getfield 11, 3), (17, .iload_n 2, 1), (18, .aaload, 1), (19, .getfield 89, 3), (22, .iadd, 1), (23, .istore_n 1, 1), (24, .iinc 2 1, 3), (27, .goto (-23), 3), (30, .iload_n 1, 1), (31, .ireturn, 1)]
set_option maxRecDepth 100000 in
theorem ev_d_107_0 : ∀ q ∈ ev_c_107_0, decode prog_7_method_15_code q.1 = .ok (q.2.1, q.2.2) := fd_rows (by decide +kernel)
def ev_c_107 : List (Nat × List (Nat × Instr × Nat)) := [(0, ev_c_107_0)]
set_option maxRecDepth 100000 in
theorem ev_d_107 : ∀ q ∈ ev_c_107, ∀ z ∈ q.2, decode prog_7_method_15_code z.1 = .ok (z.2.1, z.2.2) := List.forall_mem_cons.mpr ⟨ev_d_107_0, fun _ h => absurd h List.not_mem_nil⟩
def ev_c_108_0 : List (Nat × Instr × Nat) := [(0, .iconst (-1), 1), (1, .istore_n 1, 1), (2, .iconst (-1), 1), (3, .istore_n 2, 1), (4, .iconst 0, 1), (5, .istore_n 3, 1), (6, .iload_n 3, 1), (7, .aload_n 0, 1), (8, .getfield 50, 3), (11, .if_icmp .ge 47, 3), (14, .aload_n 0, 1), (15, .getfield 11, 3), (18, .iload_n 3, 1), (19, .aaload, 1), (20, .getfield 73, 3), (23, .iconst 2, 1), (24, .if_icmp .ne 28, 3), (27, .aload_n 0, 1), (28, .getfield 11, 3), (31, .iload_n 3, 1)]
set_option maxRecDepth 100000 in
theorem ev_d_108_0 : ∀ q ∈ ev_c_108_0, decode prog_7_method_16_code q.1 = .ok (q.2.1, q.2.2) := fd_rows (by decide +kernel)
def ev_c_108_1 : List (Nat × Instr × Nat) := [(32, .aaload, 1), (33, .getfield 92, 3), (36, .iload_n 2, 1), (37, .if_icmp .le 15, 3), (40, .iload_n 3, 1), (41, .istore_n 1, 1), (42, .aload_n 0, 1), (43, .getfield 11, 3), (46, .iload_n 3, 1), (47, .aaload, 1), (48, .getfield 92, 3), (51, .istore_n 2, 1), (52, .iinc 3 1, 3), (55, .goto (-49), 3), (58, .iload_n 1, 1), (59, .ireturn, 1)]
set_option maxRecDepth 100000 in
theorem ev_d_108_1 : ∀ q ∈ ev_c_108_1, decode prog_7_method_16_code q.1 = .ok (q.2.1, q.2.2) := fd_rows (by decide +kernel)
def ev_c_108 : List (Nat × List (Nat × Instr × Nat)) := [(0, ev_c_108_0), (1, ev_c_108_1)]
set_option maxRecDepth 100000 in
theorem ev_d_108 : ∀ q ∈ ev_c_108, ∀ z ∈ q.2, decode prog_7_method_16_code z.1 = .ok (z.2.1, z.2.2) := List.forall_mem_cons.mpr ⟨ev_d_108_0, List.forall_mem_cons.mpr ⟨ev_d_108_1, fun _ h => absurd h List.not_mem_nil⟩⟩
def ev_c_109_0 : List (Nat × Instr × Nat) := [(0, .aload_n 0, 1), (1, .getfield 22, 3), (4, .iload_n 2, 1), (5, .bipush 6, 2), (7, .imul, 1), (8, .aload_n 0, 1), (9, .getfield 18, 3), (12, .iload_n 2, 1), (13, .iaload, 1), (14, .iadd, 1), (15, .iload_n 1, 1), (16, .iastore, 1), (17, .aload_n 0, 1), (18, .getfield 18, 3), (21, .iload_n 2, 1), (22, .dup2, 1), (23, .iaload, 1), (24, .iconst 1, 1), (25, .iadd, 1), (26, .iastore, 1), (27, .aload_n 0, 1), (28, .getfield 11, 3), (31, .iload_n 1, 1)]
set_option maxRecDepth 100000 in
theorem ev_d_109_0 : ∀ q ∈ ev_c_109_0, decode prog_7_method_17_code q.1 = .ok (q.2.1, q.2.2) := fd_rows (by decide +kernel)
def ev_c_109_1 : List (Nat × Instr × Nat) := [(32, .aaload, 1), (33, .iconst 1, 1), (34, .iload_n 2, 1), (35, .invokevirtual 95, 3), (38, .aload_n 0, 1), (39, .getfield 18, 3), (42, .iload_n 2, 1), (43, .iaload, 1), (44, .ireturn, 1)]
set_option maxRecDepth 100000 in
theorem ev_d_109_1 : ∀ q ∈ ev_c_109_1, decode prog_7_method_17_code q.1 = .ok (q.2.1, q.2.2) := fd_rows (by decide +kernel)
def ev_c_109 : List (Nat × List (Nat × Instr × Nat)) := [(0, ev_c_109_0), (1, ev_c_109_1)]
set_option maxRecDepth 100000 in
theorem ev_d_109 : ∀ q ∈ ev_c_109, ∀ z ∈ q.2, decode prog_7_method_17_code z.1 = .ok (z.2.1, z.2.2) := List.forall_mem_cons.mpr ⟨ev_d_109_0, List.forall_mem_cons.mpr ⟨ev_d_109_1, fun _ h => absurd h List.not_mem_nil⟩⟩
def ev_c_110_0 : List (Nat × Instr × Nat) := [(0, .aload_n 0, 1), (1, .getfield 25, 3), (4, .iload_n 2, 1), (5, .iload_n 1, 1), (6, .iastore, 1), (7, .aload_n 0, 1), (8, .getfield 11, 3), (11, .iload_n 1, 1), (12, .aaload, 1), (13, .iconst 2, 1), (14, .iload_n 2, 1), (15, .invokevirtual 95, 3), (18, .return_, 1)]
set_option maxRecDepth 100000 in
theorem ev_d_110_0 : ∀ q ∈ ev_c_110_0, decode prog_7_method_18_code q.1 = .ok (q.2.1, q.2.2) := fd_rows (by decide +kernel)
def ev_c_110 : List (Nat × List (Nat × Instr × Nat)) := [(0, ev_c_110_0)]
set_option maxRecDepth 100000 in
theorem ev_d_110 : ∀ q ∈ ev_c_110, ∀ z ∈ q.2, decode prog_7_method_18_code z.1 = .ok (z.2.1, z.2.2) := List.forall_mem_cons.mpr ⟨ev_d_110_0, fun _ h => absurd h List.not_mem_nil⟩
def ev_c_111_0 : List (Nat × Instr × Nat) := [(0, .aload_n 0, 1), (1, .getfield 11, 3), (4, .iload_n 1, 1), (5, .aaload, 1), (6, .astore_n 2, 1), (7, .aload_n 2, 1), (8, .getfield 73, 3), (11, .iconst 1, 1), (12, .if_icmp .ne 15, 3), (15, .aload_n 0, 1), (16, .iload_n 1, 1), (17, .aload_n 2, 1), (18, .getfield 99, 3), (21, .invokevirtual 102, 3), (24, .goto 21, 3), (27, .aload_n 2, 1), (28, .getfield 73, 3), (31, .iconst 2, 1)]
set_option maxRecDepth 100000 in
theorem ev_d_111_0 : ∀ q ∈ ev_c_111_0, decode prog_7_method_19_code q.1 = .ok (q.2.1, q.2.2) := fd_rows (by decide +kernel)
def ev_c_111_1 : List (Nat × Instr × Nat) := [(32, .if_icmp .ne 13, 3), (35, .aload_n 0, 1), (36, .getfield 25, 3), (39, .aload_n 2, 1), (40, .getfield 99, 3), (43, .iconst (-1), 1), (44, .iastore, 1), (45, .aload_n 2, 1), (46, .iconst 0, 1), (47, .iconst (-1), 1), (48, .invokevirtual 95, 3), (51, .return_, 1)]
set_option maxRecDepth 100000 in
theorem ev_d_111_1 : ∀ q ∈ ev_c_111_1, decode prog_7_method_19_code q.1 = .ok (q.2.1, q.2.2) := fd_rows (by decide +kernel)
def ev_c_111 : List (Nat × List (Nat × Instr × Nat)) := [(0, ev_c_111_0), (1, ev_c_111_1)]
set_option maxRecDepth 100000 in
theorem ev_d_111 : ∀ q ∈ ev_c_111, ∀ z ∈ q.2, decode prog_7_method_19_code z.1 = .ok (z.2.1, z.2.2) := List.forall_mem_cons.mpr ⟨ev_d_111_0, List.forall_mem_cons.mpr ⟨ev_d_111_1, fun _ h => absurd h List.not_mem_nil⟩⟩
def ev_c_112_0 : List (Nat × Instr × Nat) := [(0, .iconst 0, 1), (1, .istore_n 3, 1), (2, .iconst 0, 1), (3, .istore 4, 2), (5, .iload 4, 2), (7, .aload_n 0, 1), (8, .getfield 18, 3), (11, .iload_n 2, 1), (12, .iaload, 1), (13, .if_icmp .ge 45, 3), (16, .aload_n 0, 1), (17, .getfield 22, 3), (20, .iload_n 2, 1), (21, .bipush 6, 2), (23, .imul, 1), (24, .iload 4, 2), (26, .iadd, 1), (27, .iaload, 1), (28, .istore 5, 2), (30, .iload 5, 2)]
set_option maxRecDepth 100000 in
theorem ev_d_112_0 : ∀ q ∈ ev_c_112_0, decode prog_7_method_20_code q.1 = .ok (q.2.1, q.2.2) := fd_rows (by decide +kernel)
def ev_c_112_1 : List (Nat × Instr × Nat) := [(32, .iload_n 1, 1), (33, .if_icmp .eq 19, 3), (36, .aload_n 0, 1), (37, .getfield 22, 3), (40, .iload_n 2, 1), (41, .bipush 6, 2), (43, .imul, 1), (44, .iload_n 3, 1), (45, .iadd, 1), (46, .iload 5, 2), (48, .iastore, 1), (49, .iinc 3 1, 3), (52, .iinc 4 1, 3), (55, .goto (-50), 3), (58, .aload_n 0, 1), (59, .getfield 18, 3), (62, .iload_n 2, 1), (63, .iload_n 3, 1)]
set_option maxRecDepth 100000 in
theorem ev_d_112_1 : ∀ q ∈ ev_c_112_1, decode prog_7_method_20_code q.1 = .ok (q.2.1, q.2.2) := fd_rows (by decide +kernel)
def ev_c_112_2 : List (Nat × Instr × Nat) := [(64, .iastore, 1), (65, .return_, 1)]
set_option maxRecDepth 100000 in
theorem ev_d_112_2 : ∀ q ∈ ev_c_112_2, decode prog_7_method_20_code q.1 = .ok (q.2.1, q.2.2) := fd_rows (by decide +kernel)
def ev_c_112 : List (Nat × List (Nat × Instr × Nat)) := [(0, ev_c_112_0), (1, ev_c_112_1), (2, ev_c_112_2)]
set_option maxRecDepth 100000 in
theorem ev_d_112 : ∀ q ∈ ev_c_112, ∀ z ∈ q.2, decode prog_7_method_20_code z.1 = .ok (z.2.1, z.2.2) := List.forall_mem_cons.mpr ⟨ev_d_112_0, List.forall_mem_cons.mpr ⟨ev_d_112_1, List.forall_mem_cons.mpr ⟨ev_d_112_2, fun _ h => absurd h List.not_mem_nil⟩⟩⟩
def ev_c_113_0 : List (Nat × Instr × Nat) := [(0, .aload_n 0, 1), (1, .getfield 18, 3), (4, .iload_n 1, 1), (5, .iaload, 1), (6, .istore_n 2, 1), (7, .iconst 0, 1), (8, .istore_n 3, 1), (9, .iload_n 3, 1), (10, .iload_n 2, 1), (11, .if_icmp .ge 20, 3), (14, .aload_n 0, 1), (15, .iload_n 1, 1), (16, .iload_n 3, 1), (17, .invokevirtual 105, 3), (20, .iconst 0, 1), (21, .iconst (-1), 1), (22, .invokevirtual 95, 3), (25, .iinc 3 1, 3), (28, .goto (-19), 3), (31, .aload_n 0, 1)]
set_option maxRecDepth 100000 in
theorem ev_d_113_0 : ∀ q ∈ ev_c_113_0, decode prog_7_method_21_code q.1 = .ok (q.2.1, q.2.2) := fd_rows (by decide +kernel)
def ev_c_113_1 : List (Nat × Instr × Nat) := [(32, .getfield 18, 3), (35, .iload_n 1, 1), (36, .iconst 0, 1), (37, .iastore, 1), (38, .iload_n 2, 1), (39, .ireturn, 1)]
set_option maxRecDepth 100000 in
theorem ev_d_113_1 : ∀ q ∈ ev_c_113_1, decode prog_7_method_21_code q.1 = .ok (q.2.1, q.2.2) := fd_rows (by decide +kernel)
def ev_c_113 : List (Nat × List (Nat × Instr × Nat)) := [(0, ev_c_113_0), (1, ev_c_113_1)]
set_option maxRecDepth 100000 in
theorem ev_d_113 : ∀ q ∈ ev_c_113, ∀ z ∈ q.2, decode prog_7_method_21_code z.1 = .ok (z.2.1, z.2.2) := List.forall_mem_cons.mpr ⟨ev_d_113_0, List.forall_mem_cons.mpr ⟨ev_d_113_1, fun _ h => absurd h List.not_mem_nil⟩⟩
def ev_c_114_0 : List (Nat × Instr × Nat) := [(0, .bipush 7, 2), (2, .istore_n 1, 1), (3, .iload_n 1, 1), (4, .ifCond .lt 21, 3), (7, .aload_n 0, 1), (8, .getfield 25, 3), (11, .iload_n 1, 1), (12, .iaload, 1), (13, .iconst (-1), 1), (14, .if_icmp .eq 5, 3), (17, .iload_n 1, 1), (18, .ireturn, 1), (19, .iinc 1 (-1), 3), (22, .goto (-19), 3), (25, .iconst (-1), 1), (26, .ireturn, 1)]
set_option maxRecDepth 100000 in
theorem ev_d_114_0 : ∀ q ∈ ev_c_114_0, decode prog_7_method_22_code q.1 = .ok (q.2.1, q.2.2) := fd_rows (by decide +kernel)
def ev_c_114 : List (Nat × List (Nat × Instr × Nat)) := [(0, ev_c_114_0)]
set_option maxRecDepth 100000 in
theorem ev_d_114 : ∀ q ∈ ev_c_114, ∀ z ∈ q.2, decode prog_7_method_22_code z.1 = .ok (z.2.1, z.2.2) := List.forall_mem_cons.mpr ⟨ev_d_114_0, fun _ h => absurd h List.not_mem_nil⟩
def ev_c_115_0 : List (Nat × Instr × Nat) := [(0, .aload_n 0, 1), (1, .getfield 47, 3), (4, .istore_n 2, 1), (5, .iconst 0, 1), (6, .istore_n 3, 1), (7, .iload_n 3, 1), (8, .iload_n 1, 1), (9, .if_icmp .ge 44, 3), (12, .aload_n 0, 1), (13, .iconst 1, 1), (14, .aload_n 0, 1), (15, .getfield 35, 3), (18, .iconst 3, 1), (19, .idiv, 1), (20, .iadd, 1), (21, .invokevirtual 109, 3), (24, .aload_n 0, 1), (25, .getfield 35, 3), (28, .bipush 7, 2), (30, .if_icmp .lt 7, 3)]
set_option maxRecDepth 100000 in
theorem ev_d_115_0 : ∀ q ∈ ev_c_115_0, decode prog_7_method_23_code q.1 = .ok (q.2.1, q.2.2) := fd_rows (by decide +kernel)
def ev_c_115_1 : List (Nat × Instr × Nat) := [(33, .aload_n 0, 1), (34, .invokevirtual 113, 3), (37, .aload_n 0, 1), (38, .dup, 1), (39, .getfield 31, 3), (42, .iconst 1, 1), (43, .iadd, 1), (44, .putfield 31, 3), (47, .iinc 3 1, 3), (50, .goto (-43), 3), (53, .aload_n 0, 1), (54, .getfield 47, 3), (57, .iload_n 2, 1), (58, .isub, 1), (59, .ireturn, 1)]
set_option maxRecDepth 100000 in
theorem ev_d_115_1 : ∀ q ∈ ev_c_115_1, decode prog_7_method_23_code q.1 = .ok (q.2.1, q.2.2) := fd_rows (by decide +kernel)
def ev_c_115 : List (Nat × List (Nat × Instr × Nat)) := [(0, ev_c_115_0), (1, ev_c_115_1)]
set_option maxRecDepth 100000 in
theorem ev_d_115 : ∀ q ∈ ev_c_115, ∀ z ∈ q.2, decode prog_7_method_23_code z.1 = .ok (z.2.1, z.2.2) := List.forall_mem_cons.mpr ⟨ev_d_115_0, List.forall_mem_cons.mpr ⟨ev_d_115_1, fun _ h => absurd h List.not_mem_nil⟩⟩
def ev_c_116_0 : List (Nat × Instr × Nat) := [(0, .iconst 0, 1), (1, .istore_n 2, 1), (2, .iload_n 2, 1), (3, .aload_n 0, 1), (4, .getfield 50, 3), (7, .if_icmp .ge 46, 3), (10, .aload_n 0, 1), (11, .getfield 11, 3), (14, .iload_n 2, 1), (15, .aaload, 1), (16, .getfield 73, 3), (19, .iconst 2, 1), (20, .if_icmp .ne 27, 3), (23, .aload_n 0, 1), (24, .getfield 11, 3), (27, .iload_n 2, 1), (28, .aaload, 1), (29, .iconst 0, 1), (30, .aload_n 0, 1), (31, .getfield 11, 3)]
set_option maxRecDepth 100000 in
theorem ev_d_116_0 : ∀ q ∈ ev_c_116_0, decode prog_7_method_24_code q.1 = .ok (q.2.1, q.2.2) := fd_rows (by decide +kernel)
def ev_c_116_1 : List (Nat × Instr × Nat) := [(34, .iload_n 2, 1), (35, .aaload, 1), (36, .getfield 92, 3), (39, .iload_n 1, 1), (40, .isub, 1), (41, .invokestatic 116, 3), (44, .putfield 92, 3), (47, .iinc 2 1, 3), (50, .goto (-48), 3), (53, .return_, 1)]
set_option maxRecDepth 100000 in
theorem ev_d_116_1 : ∀ q ∈ ev_c_116_1, decode prog_7_method_24_code q.1 = .ok (q.2.1, q.2.2) := fd_rows (by decide +kernel)
def ev_c_116 : List (Nat × List (Nat × Instr × Nat)) := [(0, ev_c_116_0), (1, ev_c_116_1)]
set_option maxRecDepth 100000 in
theorem ev_d_116 : ∀ q ∈ ev_c_116, ∀ z ∈ q.2, decode prog_7_method_24_code z.1 = .ok (z.2.1, z.2.2) := List.forall_mem_cons.mpr ⟨ev_d_116_0, List.forall_mem_cons.mpr ⟨ev_d_116_1, fun _ h => absurd h List.not_mem_nil⟩⟩
def ev_c_117_0 : List (Nat × Instr × Nat) := [(0, .aload_n 0, 1), (1, .invokevirtual 122, 3), (4, .istore_n 1, 1), (5, .iload_n 1, 1), (6, .iconst (-1), 1), (7, .if_icmp .ne 4, 3), (10, .return_, 1), (11, .aload_n 0, 1), (12, .getfield 11, 3), (15, .aload_n 0, 1), (16, .getfield 25, 3), (19, .iload_n 1, 1), (20, .iaload, 1), (21, .aaload, 1), (22, .astore_n 2, 1), (23, .aload_n 0, 1), (24, .getfield 25, 3), (27, .iload_n 1, 1), (28, .iconst (-1), 1), (29, .iastore, 1), (30, .aload_n 2, 1), (31, .iconst 0, 1)]
set_option maxRecDepth 100000 in
theorem ev_d_117_0 : ∀ q ∈ ev_c_117_0, decode prog_7_method_25_code q.1 = .ok (q.2.1, q.2.2) := fd_rows (by decide +kernel)
def ev_c_117_1 : List (Nat × Instr × Nat) := [(32, .iconst (-1), 1), (33, .invokevirtual 95, 3), (36, .aload_n 2, 1), (37, .invokevirtual 126, 3), (40, .aload_n 0, 1), (41, .dup, 1), (42, .getfield 47, 3), (45, .iconst 1, 1), (46, .iadd, 1), (47, .putfield 47, 3), (50, .return_, 1)]
set_option maxRecDepth 100000 in
theorem ev_d_117_1 : ∀ q ∈ ev_c_117_1, decode prog_7_method_25_code q.1 = .ok (q.2.1, q.2.2) := fd_rows (by decide +kernel)
def ev_c_117 : List (Nat × List (Nat × Instr × Nat)) := [(0, ev_c_117_0), (1, ev_c_117_1)]
set_option maxRecDepth 100000 in
theorem ev_d_117 : ∀ q ∈ ev_c_117, ∀ z ∈ q.2, decode prog_7_method_25_code z.1 = .ok (z.2.1, z.2.2) := List.forall_mem_cons.mpr ⟨ev_d_117_0, List.forall_mem_cons.mpr ⟨ev_d_117_1, fun _ h => absurd h List.not_mem_nil⟩⟩
def ev_c_118_0 : List (Nat × Instr × Nat) := [(0, .aload_n 0, 1), (1, .getfield 11, 3), (4, .iload_n 1, 1), (5, .aaload, 1), (6, .getfield 73, 3), (9, .iconst 2, 1), (10, .if_icmp .eq 5, 3), (13, .iconst (-1), 1), (14, .ireturn, 1), (15, .iload_n 2, 1), (16, .bipush 7, 2), (18, .if_icmp .lt 19, 3), (21, .aload_n 0, 1), (22, .aload_n 0, 1), (23, .getfield 11, 3), (26, .iload_n 1, 1), (27, .aaload, 1), (28, .getfield 99, 3), (31, .invokevirtual 129, 3)]
set_option maxRecDepth 100000 in
theorem ev_d_118_0 : ∀ q ∈ ev_c_118_0, decode prog_7_method_26_code q.1 = .ok (q.2.1, q.2.2) := fd_rows (by decide +kernel)
def ev_c_118_1 : List (Nat × Instr × Nat) := [(34, .goto 5, 3), (37, .bipush 99, 2), (39, .istore_n 3, 1), (40, .iconst 0, 1), (41, .istore 4, 2), (43, .aload_n 0, 1), (44, .getfield 11, 3), (47, .iload_n 1, 1), (48, .aaload, 1), (49, .getfield 92, 3), (52, .istore 5, 2), (54, .iload 5, 2), (56, .ifCond .le 25, 3), (59, .iload 4, 2), (61, .iload_n 3, 1), (62, .if_icmp .gt 19, 3)]
set_option maxRecDepth 100000 in
theorem ev_d_118_1 : ∀ q ∈ ev_c_118_1, decode prog_7_method_26_code q.1 = .ok (q.2.1, q.2.2) := fd_rows (by decide +kernel)
def ev_c_118_2 : List (Nat × Instr × Nat) := [(65, .iinc 4 1, 3), (68, .iload 5, 2), (70, .iconst 1, 1), (71, .iload_n 2, 1), (72, .iconst 3, 1), (73, .idiv, 1), (74, .iadd, 1), (75, .isub, 1), (76, .istore 5, 2), (78, .goto (-24), 3), (81, .iload 4, 2), (83, .iload_n 3, 1), (84, .if_icmp .gt 8, 3), (87, .iload 4, 2), (89, .goto 4, 3), (92, .iconst (-1), 1), (93, .ireturn, 1)]
set_option maxRecDepth 100000 in
theorem ev_d_118_2 : ∀ q ∈ ev_c_118_2, decode prog_7_method_26_code q.1 = .ok (q.2.1, q.2.2) := fd_rows (by decide +kernel)
def ev_c_118 : List (Nat × List (Nat × Instr × Nat)) := [(0, ev_c_118_0), (1, ev_c_118_1), (2, ev_c_118_2)]
set_option maxRecDepth 100000 in
theorem ev_d_118 : ∀ q ∈ ev_c_118, ∀ z ∈ q.2, decode prog_7_method_26_code z.1 = .ok (z.2.1, z.2.2) := List.forall_mem_cons.mpr ⟨ev_d_118_0, List.forall_mem_cons.mpr ⟨ev_d_118_1, List.forall_mem_cons.mpr ⟨ev_d_118_2, fun _ h => absurd h List.not_mem_nil⟩⟩⟩
def ev_c_119_0 : List (Nat × Instr × Nat) := [(0, .iconst 1, 1), (1, .istore_n 2, 1), (2, .iload_n 1, 1), (3, .iconst 1, 1), (4, .iadd, 1), (5, .istore_n 3, 1), (6, .iload_n 3, 1), (7, .bipush 8, 2), (9, .if_icmp .ge 22, 3), (12, .aload_n 0, 1), (13, .getfield 25, 3), (16, .iload_n 3, 1), (17, .iaload, 1), (18, .iconst (-1), 1), (19, .if_icmp .eq 6, 3), (22, .iinc 2 1, 3), (25, .iinc 3 1, 3), (28, .goto (-22), 3), (31, .iload_n 2, 1)]
set_option maxRecDepth 100000 in
theorem ev_d_119_0 : ∀ q ∈ ev_c_119_0, decode prog_7_method_27_code q.1 = .ok (q.2.1, q.2.2) := fd_rows (by decide +kernel)
def ev_c_119_1 : List (Nat × Instr × Nat) := [(32, .ireturn, 1)]
set_option maxRecDepth 100000 in
theorem ev_d_119_1 : ∀ q ∈ ev_c_119_1, decode prog_7_method_27_code q.1 = .ok (q.2.1, q.2.2) := fd_rows (by decide +kernel)
def ev_c_119 : List (Nat × List (Nat × Instr × Nat)) := [(0, ev_c_119_0), (1, ev_c_119_1)]
set_option maxRecDepth 100000 in
theorem ev_d_119 : ∀ q ∈ ev_c_119, ∀ z ∈ q.2, decode prog_7_method_27_code z.1 = .ok (z.2.1, z.2.2) := List.forall_mem_cons.mpr ⟨ev_d_119_0, List.forall_mem_cons.mpr ⟨ev_d_119_1, fun _ h => absurd h List.not_mem_nil⟩⟩
def ev_c_120_0 : List (Nat × Instr × Nat) := [(0, .aload_n 0, 1), (1, .invokespecial 3, 3), (4, .aload_n 0, 1), (5, .bipush 100, 2), (7, .newarray .int, 2), (9, .putfield 9, 3), (12, .return_, 1)]
set_option maxRecDepth 100000 in
theorem ev_d_120_0 : ∀ q ∈ ev_c_120_0, decode prog_8_method_1_code q.1 = .ok (q.2.1, q.2.2) := by decide +kernel
def ev_c_120 : List (Nat × List (Nat × Instr × Nat)) := [(0, ev_c_120_0)]
set_option maxRecDepth 100000 in
theorem ev_d_120 : ∀ q ∈ ev_c_120, ∀ z ∈ q.2, decode prog_8_method_1_code z.1 = .ok (z.2.1, z.2.2) := List.forall_mem_cons.mpr ⟨ev_d_120_0, fun _ h => absurd h List.not_mem_nil⟩
def ev_c_121_0 : List (Nat × Instr × Nat) := [(0, .aload_n 0, 1), (1, .getfield 15, 3), (4, .bipush 100, 2), (6, .if_icmp .ge 23, 3), (9, .aload_n 0, 1), (10, .getfield 9, 3), (13, .aload_n 0, 1), (14, .getfield 15, 3), (17, .iload_n 1, 1), (18, .iastore, 1), (19, .aload_n 0, 1), (20, .dup, 1), (21, .getfield 15, 3), (24, .iconst 1, 1), (25, .iadd, 1), (26, .putfield 15, 3), (29, .return_, 1)]
set_option maxRecDepth 100000 in
theorem ev_d_121_0 : ∀ q ∈ ev_c_121_0, decode prog_8_method_2_code q.1 = .ok (q.2.1, q.2.2) := fd_rows (by decide +kernel)
def ev_c_121 : List (Nat × List (Nat × Instr × Nat)) := [(0, ev_c_121_0)]
set_option maxRecDepth 100000 in
theorem ev_d_121 : ∀ q ∈ ev_c_121, ∀ z ∈ q.2, decode prog_8_method_2_code z.1 = .ok (z.2.1, z.2.2) := List.forall_mem_cons.mpr ⟨ev_d_121_0, fun _ h => absurd h List.not_mem_nil⟩
def ev_c_122_0 : List (Nat × Instr × Nat) := [(0, .iload_n 1, 1), (1, .bipush 10, 2), (3, .if_icmp .lt 14, 3), (6, .aload_n 0, 1), (7, .bipush 48, 2), (9, .iload_n 1, 1), (10, .bipush 10, 2), (12, .idiv, 1), (13, .iadd, 1), (14, .invokevirtual 19, 3), (17, .aload_n 0, 1), (18, .bipush 48, 2), (20, .iload_n 1, 1), (21, .bipush 10, 2), (23, .irem, 1), (24, .iadd, 1), (25, .invokevirtual 19, 3), (28, .return_, 1)]
set_option maxRecDepth 100000 in
theorem ev_d_122_0 : ∀ q ∈ ev_c_122_0, decode prog_8_method_3_code q.1 = .ok (q.2.1, q.2.2) := fd_rows (by decide +kernel)
def ev_c_122 : List (Nat × List (Nat × Instr × Nat)) := [(0, ev_c_122_0)]
set_option maxRecDepth 100000 in
theorem ev_d_122 : ∀ q ∈ ev_c_122, ∀ z ∈ q.2, decode prog_8_method_3_code z.1 = .ok (z.2.1, z.2.2) := List.forall_mem_cons.mpr ⟨ev_d_122_0, fun _ h => absurd h List.not_mem_nil⟩
def ev_c_123_0 : List (Nat × Instr × Nat) := [(0, .aload_n 0, 1), (1, .getfield 15, 3), (4, .ifCond .le 8, 3), (7, .aload_n 0, 1), (8, .iload_n 1, 1), (9, .invokevirtual 19, 3), (12, .return_, 1)]
set_option maxRecDepth 100000 in
theorem ev_d_123_0 : ∀ q ∈ ev_c_123_0, decode prog_8_method_4_code q.1 = .ok (q.2.1, q.2.2) := fd_rows (by decide +kernel)
def ev_c_123 : List (Nat × List (Nat × Instr × Nat)) := [(0, ev_c_123_0)]
set_option maxRecDepth 100000 in
theorem ev_d_123 : ∀ q ∈ ev_c_123, ∀ z ∈ q.2, decode prog_8_method_4_code z.1 = .ok (z.2.1, z.2.2) := List.forall_mem_cons.mpr ⟨ev_d_123_0, fun _ h => absurd h List.not_mem_nil⟩
def ev_c_124_0 : List (Nat × Instr × Nat) := [(0, .aload_n 0, 1), (1, .getfield 15, 3), (4, .ifCond .ne 9, 3), (7, .aload_n 0, 1), (8, .bipush 45, 2), (10, .invokevirtual 19, 3), (13, .return_, 1)]
set_option maxRecDepth 100000 in
theorem ev_d_124_0 : ∀ q ∈ ev_c_124_0, decode prog_8_method_5_code q.1 = .ok (q.2.1, q.2.2) := fd_rows (by decide +kernel)
def ev_c_124 : List (Nat × List (Nat × Instr × Nat)) := [(0, ev_c_124_0)]
set_option maxRecDepth 100000 in
theorem ev_d_124 : ∀ q ∈ ev_c_124, ∀ z ∈ q.2, decode prog_8_method_5_code z.1 = .ok (z.2.1, z.2.2) := List.forall_mem_cons.mpr ⟨ev_d_124_0, fun _ h => absurd h List.not_mem_nil⟩
def ev_c_125_0 : List (Nat × Instr × Nat) := [(0, .iload_n 0, 1), (1, .tableswitch 36 0 2 #[27, 30, 33], 27), (28, .bipush 98, 2), (30, .ireturn, 1), (31, .bipush 116, 2)]
set_option maxRecDepth 100000 in
theorem ev_d_125_0 : ∀ q ∈ ev_c_125_0, decode prog_8_method_6_code q.1 = .ok (q.2.1, q.2.2) := by decide +kernel
def ev_c_125_1 : List (Nat × Instr × Nat) := [(33, .ireturn, 1), (34, .bipush 108, 2), (36, .ireturn, 1), (37, .bipush 103, 2), (39, .ireturn, 1)]
set_option maxRecDepth 100000 in
theorem ev_d_125_1 : ∀ q ∈ ev_c_125_1, decode prog_8_method_6_code q.1 = .ok (q.2.1, q.2.2) := fd_rows (by decide +kernel)
def ev_c_125 : List (Nat × List (Nat × Instr × Nat)) := [(0, ev_c_125_0), (1, ev_c_125_1)]
set_option maxRecDepth 100000 in
theorem ev_d_125 : ∀ q ∈ ev_c_125, ∀ z ∈ q.2, decode prog_8_method_6_code z.1 = .ok (z.2.1, z.2.2) := List.forall_mem_cons.mpr ⟨ev_d_125_0, List.forall_mem_cons.mpr ⟨ev_d_125_1, fun _ h => absurd h List.not_mem_nil⟩⟩
def ev_c_126_0 : List (Nat × Instr × Nat) := [(0, .aload_n 0, 1), (1, .iconst 0, 1), (2, .putfield 15, 3), (5, .aload_n 0, 1), (6, .aload_n 1, 1), (7, .getfield 23, 3), (10, .invokestatic 28, 3), (13, .invokevirtual 19, 3), (16, .aload_n 0, 1), (17, .aload_n 1, 1), (18, .getfield 32, 3), (21, .invokevirtual 35, 3), (24, .aload_n 0, 1), (25, .aload_n 1, 1), (26, .getfield 38, 3), (29, .invokevirtual 35, 3)]
set_option maxRecDepth 100000 in
theorem ev_d_126_0 : ∀ q ∈ ev_c_126_0, decode prog_8_method_7_code q.1 = .ok (q.2.1, q.2.2) := fd_rows (by decide +kernel)
def ev_c_126_1 : List (Nat × Instr × Nat) := [(32, .aload_n 0, 1), (33, .aload_n 1, 1), (34, .getfield 41, 3), (37, .invokevirtual 35, 3), (40, .iconst 0, 1), (41, .istore_n 2, 1), (42, .iload_n 2, 1), (43, .bipush 6, 2), (45, .if_icmp .ge 31, 3), (48, .aload_n 1, 1), (49, .getfield 44, 3), (52, .iload_n 2, 1), (53, .ishr, 1), (54, .iconst 1, 1), (55, .iand, 1), (56, .ifCond .eq 14, 3), (59, .aload_n 0, 1), (60, .bipush 43, 2), (62, .invokevirtual 19, 3)]
set_option maxRecDepth 100000 in
theorem ev_d_126_1 : ∀ q ∈ ev_c_126_1, decode prog_8_method_7_code q.1 = .ok (q.2.1, q.2.2) := fd_rows (by decide +kernel)
def ev_c_126_2 : List (Nat × Instr × Nat) := [(65, .aload_n 0, 1), (66, .iload_n 2, 1), (67, .invokevirtual 35, 3), (70, .iinc 2 1, 3), (73, .goto (-31), 3), (76, .return_, 1)]
set_option maxRecDepth 100000 in
theorem ev_d_126_2 : ∀ q ∈ ev_c_126_2, decode prog_8_method_7_code q.1 = .ok (q.2.1, q.2.2) := fd_rows (by decide +kernel)
def ev_c_126 : List (Nat × List (Nat × Instr × Nat)) := [(0, ev_c_126_0), (1, ev_c_126_1), (2, ev_c_126_2)]
set_option maxRecDepth 100000 in
theorem ev_d_126 : ∀ q ∈ ev_c_126, ∀ z ∈ q.2, decode prog_8_method_7_code z.1 = .ok (z.2.1, z.2.2) := List.forall_mem_cons.mpr ⟨ev_d_126_0, List.forall_mem_cons.mpr ⟨ev_d_126_1, List.forall_mem_cons.mpr ⟨ev_d_126_2, fun _ h => absurd h List.not_mem_nil⟩⟩⟩
