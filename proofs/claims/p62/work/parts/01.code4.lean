/-! code, by wip/gen/gen.py -/
def ev_c_274_0 : List (Nat × Instr × Nat) := [(0, .aload_n 0, 1), (1, .iload_n 1, 1), (2, .iconst 5, 1), (3, .iconst 0, 1), (4, .aload_n 0, 1), (5, .iload_n 1, 1), (6, .iconst 5, 1), (7, .invokevirtual 227, 3), (10, .iconst 1, 1), (11, .isub, 1), (12, .iload_n 2, 1), (13, .isub, 1), (14, .aload_n 0, 1), (15, .iload_n 1, 1), (16, .iconst 4, 1), (17, .invokevirtual 227, 3), (20, .ifCond .le 7, 3), (23, .iconst 1, 1), (24, .goto 4, 3), (27, .iconst 0, 1), (28, .invokestatic 245, 3), (31, .isub, 1)]
set_option maxRecDepth 100000 in
theorem ev_d_274_0 : ∀ q ∈ ev_c_274_0, decode prog_10_method_74_code q.1 = .ok (q.2.1, q.2.2) := fd_rows (by decide +kernel)
def ev_c_274_1 : List (Nat × Instr × Nat) := [(32, .invokestatic 275, 3), (35, .invokevirtual 233, 3), (38, .aload_n 0, 1), (39, .iload_n 1, 1), (40, .iconst 4, 1), (41, .iconst 0, 1), (42, .aload_n 0, 1), (43, .iload_n 1, 1), (44, .iconst 4, 1), (45, .invokevirtual 227, 3), (48, .iload_n 2, 1), (49, .isub, 1), (50, .invokestatic 275, 3), (53, .invokevirtual 233, 3), (56, .return_, 1)]
set_option maxRecDepth 100000 in
theorem ev_d_274_1 : ∀ q ∈ ev_c_274_1, decode prog_10_method_74_code q.1 = .ok (q.2.1, q.2.2) := fd_rows (by decide +kernel)
def ev_c_274 : List (Nat × List (Nat × Instr × Nat)) := [(0, ev_c_274_0), (1, ev_c_274_1)]
set_option maxRecDepth 100000 in
theorem ev_d_274 : ∀ q ∈ ev_c_274, ∀ z ∈ q.2, decode prog_10_method_74_code z.1 = .ok (z.2.1, z.2.2) := List.forall_mem_cons.mpr ⟨ev_d_274_0, List.forall_mem_cons.mpr ⟨ev_d_274_1, fun _ h => absurd h List.not_mem_nil⟩⟩
def ev_c_275_0 : List (Nat × Instr × Nat) := [(0, .iconst 0, 1), (1, .istore_n 2, 1), (2, .iconst 0, 1), (3, .istore_n 3, 1), (4, .iload_n 3, 1), (5, .aload_n 0, 1), (6, .getfield 9, 3), (9, .bipush 10, 2), (11, .iaload, 1), (12, .if_icmp .ge 30, 3), (15, .iload_n 2, 1), (16, .aload_n 0, 1), (17, .iload_n 3, 1), (18, .iconst 0, 1), (19, .invokevirtual 227, 3), (22, .iload_n 1, 1), (23, .if_icmp .ne 7, 3), (26, .iconst 1, 1), (27, .goto 4, 3), (30, .iconst 0, 1), (31, .invokestatic 245, 3)]
set_option maxRecDepth 100000 in
theorem ev_d_275_0 : ∀ q ∈ ev_c_275_0, decode prog_10_method_75_code q.1 = .ok (q.2.1, q.2.2) := fd_rows (by decide +kernel)
def ev_c_275_1 : List (Nat × Instr × Nat) := [(34, .iadd, 1), (35, .istore_n 2, 1), (36, .iinc 3 1, 3), (39, .goto (-35), 3), (42, .iload_n 2, 1), (43, .ireturn, 1)]
set_option maxRecDepth 100000 in
theorem ev_d_275_1 : ∀ q ∈ ev_c_275_1, decode prog_10_method_75_code q.1 = .ok (q.2.1, q.2.2) := fd_rows (by decide +kernel)
def ev_c_275 : List (Nat × List (Nat × Instr × Nat)) := [(0, ev_c_275_0), (1, ev_c_275_1)]
set_option maxRecDepth 100000 in
theorem ev_d_275 : ∀ q ∈ ev_c_275, ∀ z ∈ q.2, decode prog_10_method_75_code z.1 = .ok (z.2.1, z.2.2) := List.forall_mem_cons.mpr ⟨ev_d_275_0, List.forall_mem_cons.mpr ⟨ev_d_275_1, fun _ h => absurd h List.not_mem_nil⟩⟩
def ev_c_276_0 : List (Nat × Instr × Nat) := [(0, .iconst 0, 1), (1, .iload_n 2, 1), (2, .aload_n 0, 1), (3, .iload_n 1, 1), (4, .iconst 0, 1), (5, .invokevirtual 302, 3), (8, .isub, 1), (9, .invokestatic 275, 3), (12, .ireturn, 1)]
set_option maxRecDepth 100000 in
theorem ev_d_276_0 : ∀ q ∈ ev_c_276_0, decode prog_10_method_76_code q.1 = .ok (q.2.1, q.2.2) := fd_rows (by decide +kernel)
def ev_c_276 : List (Nat × List (Nat × Instr × Nat)) := [(0, ev_c_276_0)]
set_option maxRecDepth 100000 in
theorem ev_d_276 : ∀ q ∈ ev_c_276, ∀ z ∈ q.2, decode prog_10_method_76_code z.1 = .ok (z.2.1, z.2.2) := List.forall_mem_cons.mpr ⟨ev_d_276_0, fun _ h => absurd h List.not_mem_nil⟩
def ev_c_277_0 : List (Nat × Instr × Nat) := [(0, .aload_n 0, 1), (1, .iload_n 1, 1), (2, .invokevirtual 305, 3), (5, .iconst 0, 1), (6, .aload_n 0, 1), (7, .iload_n 1, 1), (8, .iconst 1, 1), (9, .invokevirtual 302, 3), (12, .aload_n 0, 1), (13, .iload_n 1, 1), (14, .iconst 2, 1), (15, .invokevirtual 302, 3), (18, .aload_n 0, 1), (19, .iload_n 1, 1), (20, .iload_n 2, 1), (21, .invokevirtual 308, 3), (24, .imul, 1), (25, .isub, 1), (26, .invokestatic 275, 3), (29, .imul, 1), (30, .ireturn, 1)]
set_option maxRecDepth 100000 in
theorem ev_d_277_0 : ∀ q ∈ ev_c_277_0, decode prog_10_method_77_code q.1 = .ok (q.2.1, q.2.2) := fd_rows (by decide +kernel)
def ev_c_277 : List (Nat × List (Nat × Instr × Nat)) := [(0, ev_c_277_0)]
set_option maxRecDepth 100000 in
theorem ev_d_277 : ∀ q ∈ ev_c_277, ∀ z ∈ q.2, decode prog_10_method_77_code z.1 = .ok (z.2.1, z.2.2) := List.forall_mem_cons.mpr ⟨ev_d_277_0, fun _ h => absurd h List.not_mem_nil⟩
def ev_c_278_0 : List (Nat × Instr × Nat) := [(0, .aload_n 0, 1), (1, .iload_n 1, 1), (2, .iconst 3, 1), (3, .invokevirtual 302, 3), (6, .iconst 1, 1), (7, .if_icmp .ne 7, 3), (10, .iconst 1, 1), (11, .goto 4, 3), (14, .iconst 0, 1), (15, .ireturn, 1)]
set_option maxRecDepth 100000 in
theorem ev_d_278_0 : ∀ q ∈ ev_c_278_0, decode prog_10_method_78_code q.1 = .ok (q.2.1, q.2.2) := fd_rows (by decide +kernel)
def ev_c_278 : List (Nat × List (Nat × Instr × Nat)) := [(0, ev_c_278_0)]
set_option maxRecDepth 100000 in
theorem ev_d_278 : ∀ q ∈ ev_c_278, ∀ z ∈ q.2, decode prog_10_method_78_code z.1 = .ok (z.2.1, z.2.2) := List.forall_mem_cons.mpr ⟨ev_d_278_0, fun _ h => absurd h List.not_mem_nil⟩
def ev_c_279_0 : List (Nat × Instr × Nat) := [(0, .iconst 0, 1), (1, .istore_n 2, 1), (2, .iload_n 2, 1), (3, .aload_n 0, 1), (4, .getfield 9, 3), (7, .bipush 10, 2), (9, .iaload, 1), (10, .if_icmp .ge 29, 3), (13, .aload_n 0, 1), (14, .iload_n 2, 1), (15, .iconst 0, 1), (16, .invokevirtual 227, 3), (19, .iload_n 1, 1), (20, .if_icmp .ne 13, 3), (23, .aload_n 0, 1), (24, .iload_n 2, 1), (25, .invokevirtual 311, 3), (28, .ifCond .eq 5, 3), (31, .iload_n 2, 1)]
set_option maxRecDepth 100000 in
theorem ev_d_279_0 : ∀ q ∈ ev_c_279_0, decode prog_10_method_79_code q.1 = .ok (q.2.1, q.2.2) := fd_rows (by decide +kernel)
def ev_c_279_1 : List (Nat × Instr × Nat) := [(32, .ireturn, 1), (33, .iinc 2 1, 3), (36, .goto (-34), 3), (39, .iconst (-1), 1), (40, .ireturn, 1)]
set_option maxRecDepth 100000 in
theorem ev_d_279_1 : ∀ q ∈ ev_c_279_1, decode prog_10_method_79_code q.1 = .ok (q.2.1, q.2.2) := fd_rows (by decide +kernel)
def ev_c_279 : List (Nat × List (Nat × Instr × Nat)) := [(0, ev_c_279_0), (1, ev_c_279_1)]
set_option maxRecDepth 100000 in
theorem ev_d_279 : ∀ q ∈ ev_c_279, ∀ z ∈ q.2, decode prog_10_method_79_code z.1 = .ok (z.2.1, z.2.2) := List.forall_mem_cons.mpr ⟨ev_d_279_0, List.forall_mem_cons.mpr ⟨ev_d_279_1, fun _ h => absurd h List.not_mem_nil⟩⟩
def ev_c_280_0 : List (Nat × Instr × Nat) := [(0, .iconst 0, 1), (1, .istore_n 2, 1), (2, .iconst 0, 1), (3, .istore_n 3, 1), (4, .iload_n 3, 1), (5, .aload_n 0, 1), (6, .getfield 9, 3), (9, .bipush 10, 2), (11, .iaload, 1), (12, .if_icmp .ge 29, 3), (15, .iload_n 2, 1), (16, .aload_n 0, 1), (17, .iload_n 3, 1), (18, .invokevirtual 230, 3), (21, .iload_n 1, 1), (22, .if_icmp .ne 7, 3), (25, .iconst 1, 1), (26, .goto 4, 3), (29, .iconst 0, 1), (30, .invokestatic 245, 3)]
set_option maxRecDepth 100000 in
theorem ev_d_280_0 : ∀ q ∈ ev_c_280_0, decode prog_10_method_80_code q.1 = .ok (q.2.1, q.2.2) := fd_rows (by decide +kernel)
def ev_c_280_1 : List (Nat × Instr × Nat) := [(33, .iadd, 1), (34, .istore_n 2, 1), (35, .iinc 3 1, 3), (38, .goto (-34), 3), (41, .iload_n 2, 1), (42, .ireturn, 1)]
set_option maxRecDepth 100000 in
theorem ev_d_280_1 : ∀ q ∈ ev_c_280_1, decode prog_10_method_80_code q.1 = .ok (q.2.1, q.2.2) := fd_rows (by decide +kernel)
def ev_c_280 : List (Nat × List (Nat × Instr × Nat)) := [(0, ev_c_280_0), (1, ev_c_280_1)]
set_option maxRecDepth 100000 in
theorem ev_d_280 : ∀ q ∈ ev_c_280, ∀ z ∈ q.2, decode prog_10_method_80_code z.1 = .ok (z.2.1, z.2.2) := List.forall_mem_cons.mpr ⟨ev_d_280_0, List.forall_mem_cons.mpr ⟨ev_d_280_1, fun _ h => absurd h List.not_mem_nil⟩⟩
def ev_c_281_0 : List (Nat × Instr × Nat) := [(0, .iconst 0, 1), (1, .istore_n 1, 1), (2, .iconst 0, 1), (3, .istore_n 2, 1), (4, .iload_n 2, 1), (5, .aload_n 0, 1), (6, .getfield 9, 3), (9, .bipush 10, 2), (11, .iaload, 1), (12, .if_icmp .ge 28, 3), (15, .iload_n 1, 1), (16, .aload_n 0, 1), (17, .iload_n 2, 1), (18, .invokevirtual 311, 3), (21, .ifCond .ne 7, 3), (24, .iconst 1, 1), (25, .goto 4, 3), (28, .iconst 0, 1), (29, .invokestatic 245, 3)]
set_option maxRecDepth 100000 in
theorem ev_d_281_0 : ∀ q ∈ ev_c_281_0, decode prog_10_method_81_code q.1 = .ok (q.2.1, q.2.2) := fd_rows (by decide +kernel)
def ev_c_281_1 : List (Nat × Instr × Nat) := [(32, .iadd, 1), (33, .istore_n 1, 1), (34, .iinc 2 1, 3), (37, .goto (-33), 3), (40, .iload_n 1, 1), (41, .ireturn, 1)]
set_option maxRecDepth 100000 in
theorem ev_d_281_1 : ∀ q ∈ ev_c_281_1, decode prog_10_method_81_code q.1 = .ok (q.2.1, q.2.2) := fd_rows (by decide +kernel)
def ev_c_281 : List (Nat × List (Nat × Instr × Nat)) := [(0, ev_c_281_0), (1, ev_c_281_1)]
set_option maxRecDepth 100000 in
theorem ev_d_281 : ∀ q ∈ ev_c_281, ∀ z ∈ q.2, decode prog_10_method_81_code z.1 = .ok (z.2.1, z.2.2) := List.forall_mem_cons.mpr ⟨ev_d_281_0, List.forall_mem_cons.mpr ⟨ev_d_281_1, fun _ h => absurd h List.not_mem_nil⟩⟩
def ev_c_282_0 : List (Nat × Instr × Nat) := [(0, .aload_n 0, 1), (1, .aload_n 0, 1), (2, .getfield 47, 3), (5, .iload_n 1, 1), (6, .iconst 0, 1), (7, .bipush 15, 2), (9, .invokestatic 68, 3), (12, .invokevirtual 314, 3), (15, .ifCond .ne 5, 3), (18, .iconst 0, 1), (19, .ireturn, 1), (20, .iload_n 1, 1), (21, .tableswitch 166 0 15 #[79, 87, 95, 103, 111, 119, 126, 166, 166, 166, 166, 133, 140, 147, 154, 161], 79)]
set_option maxRecDepth 100000 in
theorem ev_d_282_0 : ∀ q ∈ ev_c_282_0, decode prog_10_method_82_code q.1 = .ok (q.2.1, q.2.2) := by decide +kernel
def ev_c_282_3 : List (Nat × Instr × Nat) := [(100, .aload_n 0, 1), (101, .getfield 9, 3), (104, .bipush 6, 2), (106, .iaload, 1), (107, .ireturn, 1), (108, .aload_n 0, 1), (109, .getfield 9, 3), (112, .bipush 7, 2), (114, .iaload, 1), (115, .ireturn, 1), (116, .aload_n 0, 1), (117, .getfield 9, 3), (120, .bipush 8, 2), (122, .iaload, 1), (123, .ireturn, 1), (124, .aload_n 0, 1), (125, .getfield 9, 3)]
set_option maxRecDepth 100000 in
theorem ev_d_282_3 : ∀ q ∈ ev_c_282_3, decode prog_10_method_82_code q.1 = .ok (q.2.1, q.2.2) := fd_rows (by decide +kernel)
def ev_c_282_4 : List (Nat × Instr × Nat) := [(128, .bipush 9, 2), (130, .iaload, 1), (131, .ireturn, 1), (132, .aload_n 0, 1), (133, .getfield 9, 3), (136, .bipush 10, 2), (138, .iaload, 1), (139, .ireturn, 1), (140, .aload_n 0, 1), (141, .getfield 9, 3), (144, .iconst 0, 1), (145, .iaload, 1), (146, .ireturn, 1), (147, .aload_n 0, 1), (148, .getfield 9, 3), (151, .iconst 1, 1), (152, .iaload, 1), (153, .ireturn, 1), (154, .aload_n 0, 1), (155, .getfield 9, 3), (158, .iconst 2, 1), (159, .iaload, 1)]
set_option maxRecDepth 100000 in
theorem ev_d_282_4 : ∀ q ∈ ev_c_282_4, decode prog_10_method_82_code q.1 = .ok (q.2.1, q.2.2) := fd_rows (by decide +kernel)
def ev_c_282_5 : List (Nat × Instr × Nat) := [(160, .ireturn, 1), (161, .aload_n 0, 1), (162, .getfield 9, 3), (165, .iconst 3, 1), (166, .iaload, 1), (167, .ireturn, 1), (168, .aload_n 0, 1), (169, .getfield 9, 3), (172, .iconst 4, 1), (173, .iaload, 1), (174, .ireturn, 1), (175, .aload_n 0, 1), (176, .getfield 9, 3), (179, .iconst 5, 1), (180, .iaload, 1), (181, .ireturn, 1), (182, .aload_n 0, 1), (183, .invokevirtual 318, 3), (186, .ireturn, 1), (187, .aload_n 0, 1), (188, .iload_n 1, 1), (189, .bipush 7, 2), (191, .isub, 1)]
set_option maxRecDepth 100000 in
theorem ev_d_282_5 : ∀ q ∈ ev_c_282_5, decode prog_10_method_82_code q.1 = .ok (q.2.1, q.2.2) := fd_rows (by decide +kernel)
def ev_c_282_6 : List (Nat × Instr × Nat) := [(192, .invokevirtual 321, 3), (195, .ireturn, 1)]
set_option maxRecDepth 100000 in
theorem ev_d_282_6 : ∀ q ∈ ev_c_282_6, decode prog_10_method_82_code q.1 = .ok (q.2.1, q.2.2) := fd_rows (by decide +kernel)
def ev_c_282 : List (Nat × List (Nat × Instr × Nat)) := [(0, ev_c_282_0), (3, ev_c_282_3), (4, ev_c_282_4), (5, ev_c_282_5), (6, ev_c_282_6)]
set_option maxRecDepth 100000 in
theorem ev_d_282 : ∀ q ∈ ev_c_282, ∀ z ∈ q.2, decode prog_10_method_82_code z.1 = .ok (z.2.1, z.2.2) := List.forall_mem_cons.mpr ⟨ev_d_282_0, List.forall_mem_cons.mpr ⟨ev_d_282_3, List.forall_mem_cons.mpr ⟨ev_d_282_4, List.forall_mem_cons.mpr ⟨ev_d_282_5, List.forall_mem_cons.mpr ⟨ev_d_282_6, fun _ h => absurd h List.not_mem_nil⟩⟩⟩⟩⟩
def ev_c_283_0 : List (Nat × Instr × Nat) := [(0, .aload_n 0, 1), (1, .getfield 47, 3), (4, .ifCond .eq 24, 3), (7, .iload_n 1, 1), (8, .iconst 0, 1), (9, .aload_n 0, 1), (10, .getfield 9, 3), (13, .bipush 6, 2), (15, .iaload, 1), (16, .iconst 1, 1), (17, .isub, 1), (18, .invokestatic 68, 3), (21, .ifCond .eq 7, 3), (24, .iconst 1, 1), (25, .goto 4, 3), (28, .iconst 0, 1), (29, .ireturn, 1)]
set_option maxRecDepth 100000 in
theorem ev_d_283_0 : ∀ q ∈ ev_c_283_0, decode prog_10_method_83_code q.1 = .ok (q.2.1, q.2.2) := fd_rows (by decide +kernel)
def ev_c_283 : List (Nat × List (Nat × Instr × Nat)) := [(0, ev_c_283_0)]
set_option maxRecDepth 100000 in
theorem ev_d_283 : ∀ q ∈ ev_c_283, ∀ z ∈ q.2, decode prog_10_method_83_code z.1 = .ok (z.2.1, z.2.2) := List.forall_mem_cons.mpr ⟨ev_d_283_0, fun _ h => absurd h List.not_mem_nil⟩
def ev_c_284_0 : List (Nat × Instr × Nat) := [(0, .aload_n 0, 1), (1, .getfield 47, 3), (4, .ifCond .eq 24, 3), (7, .iload_n 1, 1), (8, .iconst 0, 1), (9, .aload_n 0, 1), (10, .getfield 9, 3), (13, .bipush 7, 2), (15, .iaload, 1), (16, .iconst 1, 1), (17, .isub, 1), (18, .invokestatic 68, 3), (21, .ifCond .eq 7, 3), (24, .iconst 1, 1), (25, .goto 4, 3), (28, .iconst 0, 1), (29, .ireturn, 1)]
set_option maxRecDepth 100000 in
theorem ev_d_284_0 : ∀ q ∈ ev_c_284_0, decode prog_10_method_84_code q.1 = .ok (q.2.1, q.2.2) := fd_rows (by decide +kernel)
def ev_c_284 : List (Nat × List (Nat × Instr × Nat)) := [(0, ev_c_284_0)]
set_option maxRecDepth 100000 in
theorem ev_d_284 : ∀ q ∈ ev_c_284, ∀ z ∈ q.2, decode prog_10_method_84_code z.1 = .ok (z.2.1, z.2.2) := List.forall_mem_cons.mpr ⟨ev_d_284_0, fun _ h => absurd h List.not_mem_nil⟩
def ev_c_285_0 : List (Nat × Instr × Nat) := [(0, .aload_n 0, 1), (1, .getfield 47, 3), (4, .ifCond .eq 24, 3), (7, .iload_n 1, 1), (8, .iconst 0, 1), (9, .aload_n 0, 1), (10, .getfield 9, 3), (13, .bipush 10, 2), (15, .iaload, 1), (16, .iconst 1, 1), (17, .isub, 1), (18, .invokestatic 68, 3), (21, .ifCond .eq 7, 3), (24, .iconst 1, 1), (25, .goto 4, 3), (28, .iconst 0, 1), (29, .ireturn, 1)]
set_option maxRecDepth 100000 in
theorem ev_d_285_0 : ∀ q ∈ ev_c_285_0, decode prog_10_method_85_code q.1 = .ok (q.2.1, q.2.2) := fd_rows (by decide +kernel)
def ev_c_285 : List (Nat × List (Nat × Instr × Nat)) := [(0, ev_c_285_0)]
set_option maxRecDepth 100000 in
theorem ev_d_285 : ∀ q ∈ ev_c_285, ∀ z ∈ q.2, decode prog_10_method_85_code z.1 = .ok (z.2.1, z.2.2) := List.forall_mem_cons.mpr ⟨ev_d_285_0, fun _ h => absurd h List.not_mem_nil⟩
def ev_c_286_0 : List (Nat × Instr × Nat) := [(0, .aload_n 0, 1), (1, .getfield 47, 3), (4, .ifCond .eq 24, 3), (7, .iload_n 1, 1), (8, .iconst 0, 1), (9, .aload_n 0, 1), (10, .getfield 9, 3), (13, .bipush 8, 2), (15, .iaload, 1), (16, .iconst 1, 1), (17, .isub, 1), (18, .invokestatic 68, 3), (21, .ifCond .eq 7, 3), (24, .iconst 1, 1), (25, .goto 4, 3), (28, .iconst 0, 1), (29, .ireturn, 1)]
set_option maxRecDepth 100000 in
theorem ev_d_286_0 : ∀ q ∈ ev_c_286_0, decode prog_10_method_86_code q.1 = .ok (q.2.1, q.2.2) := fd_rows (by decide +kernel)
def ev_c_286 : List (Nat × List (Nat × Instr × Nat)) := [(0, ev_c_286_0)]
set_option maxRecDepth 100000 in
theorem ev_d_286 : ∀ q ∈ ev_c_286, ∀ z ∈ q.2, decode prog_10_method_86_code z.1 = .ok (z.2.1, z.2.2) := List.forall_mem_cons.mpr ⟨ev_d_286_0, fun _ h => absurd h List.not_mem_nil⟩
def ev_c_287_0 : List (Nat × Instr × Nat) := [(0, .iload_n 0, 1), (1, .iconst 0, 1), (2, .iconst 3, 1), (3, .invokestatic 68, 3), (6, .ireturn, 1)]
set_option maxRecDepth 100000 in
theorem ev_d_287_0 : ∀ q ∈ ev_c_287_0, decode prog_10_method_87_code q.1 = .ok (q.2.1, q.2.2) := fd_rows (by decide +kernel)
def ev_c_287 : List (Nat × List (Nat × Instr × Nat)) := [(0, ev_c_287_0)]
set_option maxRecDepth 100000 in
theorem ev_d_287 : ∀ q ∈ ev_c_287, ∀ z ∈ q.2, decode prog_10_method_87_code z.1 = .ok (z.2.1, z.2.2) := List.forall_mem_cons.mpr ⟨ev_d_287_0, fun _ h => absurd h List.not_mem_nil⟩
def ev_c_288_0 : List (Nat × Instr × Nat) := [(0, .aload_n 0, 1), (1, .aload_n 0, 1), (2, .getfield 47, 3), (5, .aload_n 0, 1), (6, .iload_n 1, 1), (7, .invokevirtual 324, 3), (10, .invokevirtual 314, 3), (13, .ireturn, 1)]
set_option maxRecDepth 100000 in
theorem ev_d_288_0 : ∀ q ∈ ev_c_288_0, decode prog_10_method_88_code q.1 = .ok (q.2.1, q.2.2) := fd_rows (by decide +kernel)
def ev_c_288 : List (Nat × List (Nat × Instr × Nat)) := [(0, ev_c_288_0)]
set_option maxRecDepth 100000 in
theorem ev_d_288 : ∀ q ∈ ev_c_288, ∀ z ∈ q.2, decode prog_10_method_88_code z.1 = .ok (z.2.1, z.2.2) := List.forall_mem_cons.mpr ⟨ev_d_288_0, fun _ h => absurd h List.not_mem_nil⟩
def ev_c_289_0 : List (Nat × Instr × Nat) := [(0, .aload_n 0, 1), (1, .aload_n 0, 1), (2, .getfield 47, 3), (5, .aload_n 0, 1), (6, .iload_n 1, 1), (7, .invokevirtual 327, 3), (10, .invokevirtual 314, 3), (13, .ireturn, 1)]
set_option maxRecDepth 100000 in
theorem ev_d_289_0 : ∀ q ∈ ev_c_289_0, decode prog_10_method_89_code q.1 = .ok (q.2.1, q.2.2) := fd_rows (by decide +kernel)
def ev_c_289 : List (Nat × List (Nat × Instr × Nat)) := [(0, ev_c_289_0)]
set_option maxRecDepth 100000 in
theorem ev_d_289 : ∀ q ∈ ev_c_289, ∀ z ∈ q.2, decode prog_10_method_89_code z.1 = .ok (z.2.1, z.2.2) := List.forall_mem_cons.mpr ⟨ev_d_289_0, fun _ h => absurd h List.not_mem_nil⟩
def ev_c_290_0 : List (Nat × Instr × Nat) := [(0, .aload_n 0, 1), (1, .aload_n 0, 1), (2, .getfield 47, 3), (5, .aload_n 0, 1), (6, .iload_n 1, 1), (7, .invokevirtual 327, 3), (10, .iload_n 2, 1), (11, .invokestatic 330, 3), (14, .invokevirtual 43, 3), (17, .ireturn, 1)]
set_option maxRecDepth 100000 in
theorem ev_d_290_0 : ∀ q ∈ ev_c_290_0, decode prog_10_method_90_code q.1 = .ok (q.2.1, q.2.2) := fd_rows (by decide +kernel)
def ev_c_290 : List (Nat × List (Nat × Instr × Nat)) := [(0, ev_c_290_0)]
set_option maxRecDepth 100000 in
theorem ev_d_290 : ∀ q ∈ ev_c_290, ∀ z ∈ q.2, decode prog_10_method_90_code z.1 = .ok (z.2.1, z.2.2) := List.forall_mem_cons.mpr ⟨ev_d_290_0, fun _ h => absurd h List.not_mem_nil⟩
def ev_c_291_0 : List (Nat × Instr × Nat) := [(0, .iconst 0, 1), (1, .istore_n 3, 1), (2, .iconst 0, 1), (3, .istore 4, 2), (5, .iload 4, 2), (7, .aload_n 0, 1), (8, .getfield 9, 3), (11, .bipush 10, 2), (13, .iaload, 1), (14, .if_icmp .ge 26, 3), (17, .iload_n 3, 1), (18, .aload_n 0, 1), (19, .iload 4, 2), (21, .iload_n 2, 1), (22, .invokevirtual 227, 3), (25, .iload_n 1, 1), (26, .invokestatic 125, 3), (29, .invokestatic 245, 3)]
set_option maxRecDepth 100000 in
theorem ev_d_291_0 : ∀ q ∈ ev_c_291_0, decode prog_10_method_91_code q.1 = .ok (q.2.1, q.2.2) := fd_rows (by decide +kernel)
def ev_c_291_1 : List (Nat × Instr × Nat) := [(32, .iadd, 1), (33, .istore_n 3, 1), (34, .iinc 4 1, 3), (37, .goto (-32), 3), (40, .iload_n 3, 1), (41, .ireturn, 1)]
set_option maxRecDepth 100000 in
theorem ev_d_291_1 : ∀ q ∈ ev_c_291_1, decode prog_10_method_91_code q.1 = .ok (q.2.1, q.2.2) := fd_rows (by decide +kernel)
def ev_c_291 : List (Nat × List (Nat × Instr × Nat)) := [(0, ev_c_291_0), (1, ev_c_291_1)]
set_option maxRecDepth 100000 in
theorem ev_d_291 : ∀ q ∈ ev_c_291, ∀ z ∈ q.2, decode prog_10_method_91_code z.1 = .ok (z.2.1, z.2.2) := List.forall_mem_cons.mpr ⟨ev_d_291_0, List.forall_mem_cons.mpr ⟨ev_d_291_1, fun _ h => absurd h List.not_mem_nil⟩⟩
def ev_c_292_0 : List (Nat × Instr × Nat) := [(0, .aload_n 0, 1), (1, .aload_n 0, 1), (2, .getfield 47, 3), (5, .aload_n 0, 1), (6, .iload_n 1, 1), (7, .invokevirtual 333, 3), (10, .iload_n 2, 1), (11, .iconst 0, 1), (12, .iconst 2, 1), (13, .invokestatic 68, 3), (16, .invokevirtual 43, 3), (19, .ifCond .ne 5, 3), (22, .iconst 0, 1), (23, .ireturn, 1), (24, .iload_n 2, 1), (25, .ifCond .ne 13, 3), (28, .aload_n 0, 1), (29, .getfield 9, 3)]
set_option maxRecDepth 100000 in
theorem ev_d_292_0 : ∀ q ∈ ev_c_292_0, decode prog_10_method_92_code q.1 = .ok (q.2.1, q.2.2) := fd_rows (by decide +kernel)
def ev_c_292_1 : List (Nat × Instr × Nat) := [(32, .bipush 12, 2), (34, .iload_n 1, 1), (35, .iadd, 1), (36, .iaload, 1), (37, .ireturn, 1), (38, .aload_n 0, 1), (39, .iload_n 1, 1), (40, .iload_n 2, 1), (41, .iconst 1, 1), (42, .if_icmp .ne 7, 3), (45, .iconst 1, 1), (46, .goto 5, 3), (49, .bipush 6, 2), (51, .invokevirtual 336, 3), (54, .ireturn, 1)]
set_option maxRecDepth 100000 in
theorem ev_d_292_1 : ∀ q ∈ ev_c_292_1, decode prog_10_method_92_code q.1 = .ok (q.2.1, q.2.2) := fd_rows (by decide +kernel)
def ev_c_292 : List (Nat × List (Nat × Instr × Nat)) := [(0, ev_c_292_0), (1, ev_c_292_1)]
set_option maxRecDepth 100000 in
theorem ev_d_292 : ∀ q ∈ ev_c_292, ∀ z ∈ q.2, decode prog_10_method_92_code z.1 = .ok (z.2.1, z.2.2) := List.forall_mem_cons.mpr ⟨ev_d_292_0, List.forall_mem_cons.mpr ⟨ev_d_292_1, fun _ h => absurd h List.not_mem_nil⟩⟩
def ev_c_293_0 : List (Nat × Instr × Nat) := [(0, .iconst 0, 1), (1, .istore_n 2, 1), (2, .iconst 0, 1), (3, .istore_n 3, 1), (4, .iload_n 3, 1), (5, .aload_n 0, 1), (6, .getfield 9, 3), (9, .bipush 10, 2), (11, .iaload, 1), (12, .if_icmp .ge 38, 3), (15, .iload_n 2, 1), (16, .aload_n 0, 1), (17, .iload_n 3, 1), (18, .iconst 0, 1), (19, .invokevirtual 227, 3), (22, .iload_n 1, 1), (23, .if_icmp .ne 15, 3), (26, .aload_n 0, 1), (27, .iload_n 3, 1), (28, .invokevirtual 311, 3), (31, .ifCond .ne 7, 3)]
set_option maxRecDepth 100000 in
theorem ev_d_293_0 : ∀ q ∈ ev_c_293_0, decode prog_10_method_93_code q.1 = .ok (q.2.1, q.2.2) := fd_rows (by decide +kernel)
def ev_c_293_1 : List (Nat × Instr × Nat) := [(34, .iconst 1, 1), (35, .goto 4, 3), (38, .iconst 0, 1), (39, .invokestatic 245, 3), (42, .iadd, 1), (43, .istore_n 2, 1), (44, .iinc 3 1, 3), (47, .goto (-43), 3), (50, .iload_n 2, 1), (51, .ireturn, 1)]
set_option maxRecDepth 100000 in
theorem ev_d_293_1 : ∀ q ∈ ev_c_293_1, decode prog_10_method_93_code q.1 = .ok (q.2.1, q.2.2) := fd_rows (by decide +kernel)
def ev_c_293 : List (Nat × List (Nat × Instr × Nat)) := [(0, ev_c_293_0), (1, ev_c_293_1)]
set_option maxRecDepth 100000 in
theorem ev_d_293 : ∀ q ∈ ev_c_293, ∀ z ∈ q.2, decode prog_10_method_93_code z.1 = .ok (z.2.1, z.2.2) := List.forall_mem_cons.mpr ⟨ev_d_293_0, List.forall_mem_cons.mpr ⟨ev_d_293_1, fun _ h => absurd h List.not_mem_nil⟩⟩
def ev_c_294_0 : List (Nat × Instr × Nat) := [(0, .aload_n 0, 1), (1, .aload_n 0, 1), (2, .getfield 47, 3), (5, .aload_n 0, 1), (6, .iload_n 1, 1), (7, .invokevirtual 339, 3), (10, .iload_n 2, 1), (11, .iconst 0, 1), (12, .bipush 6, 2), (14, .invokestatic 68, 3), (17, .invokevirtual 43, 3), (20, .ifCond .ne 5, 3), (23, .iconst 0, 1), (24, .ireturn, 1), (25, .iload_n 2, 1), (26, .tableswitch 78 3 6 #[30, 36, 42, 49], 30)]
set_option maxRecDepth 100000 in
theorem ev_d_294_0 : ∀ q ∈ ev_c_294_0, decode prog_10_method_94_code q.1 = .ok (q.2.1, q.2.2) := by decide +kernel
def ev_c_294_1 : List (Nat × Instr × Nat) := [(56, .aload_n 0, 1), (57, .iload_n 1, 1), (58, .invokevirtual 305, 3), (61, .ireturn, 1), (62, .aload_n 0, 1), (63, .iload_n 1, 1)]
set_option maxRecDepth 100000 in
theorem ev_d_294_1 : ∀ q ∈ ev_c_294_1, decode prog_10_method_94_code q.1 = .ok (q.2.1, q.2.2) := fd_rows (by decide +kernel)
def ev_c_294_2 : List (Nat × Instr × Nat) := [(64, .invokevirtual 342, 3), (67, .ireturn, 1), (68, .aload_n 0, 1), (69, .iload_n 1, 1), (70, .iconst 3, 1), (71, .invokevirtual 302, 3), (74, .ireturn, 1), (75, .aload_n 0, 1), (76, .iload_n 1, 1), (77, .invokevirtual 345, 3), (80, .ifCond .eq 12, 3), (83, .aload_n 0, 1), (84, .iload_n 1, 1), (85, .iconst 4, 1), (86, .invokevirtual 302, 3), (89, .goto 14, 3), (92, .aload_n 0, 1), (93, .iload_n 1, 1), (94, .aload_n 0, 1), (95, .getfield 9, 3)]
set_option maxRecDepth 100000 in
theorem ev_d_294_2 : ∀ q ∈ ev_c_294_2, decode prog_10_method_94_code q.1 = .ok (q.2.1, q.2.2) := fd_rows (by decide +kernel)
def ev_c_294_3 : List (Nat × Instr × Nat) := [(98, .iconst 0, 1), (99, .iaload, 1), (100, .invokevirtual 308, 3), (103, .ireturn, 1), (104, .aload_n 0, 1), (105, .iload_n 1, 1), (106, .iload_n 2, 1), (107, .invokevirtual 302, 3), (110, .ireturn, 1)]
set_option maxRecDepth 100000 in
theorem ev_d_294_3 : ∀ q ∈ ev_c_294_3, decode prog_10_method_94_code q.1 = .ok (q.2.1, q.2.2) := fd_rows (by decide +kernel)
def ev_c_294 : List (Nat × List (Nat × Instr × Nat)) := [(0, ev_c_294_0), (1, ev_c_294_1), (2, ev_c_294_2), (3, ev_c_294_3)]
set_option maxRecDepth 100000 in
theorem ev_d_294 : ∀ q ∈ ev_c_294, ∀ z ∈ q.2, decode prog_10_method_94_code z.1 = .ok (z.2.1, z.2.2) := List.forall_mem_cons.mpr ⟨ev_d_294_0, List.forall_mem_cons.mpr ⟨ev_d_294_1, List.forall_mem_cons.mpr ⟨ev_d_294_2, List.forall_mem_cons.mpr ⟨ev_d_294_3, fun _ h => absurd h List.not_mem_nil⟩⟩⟩⟩
def ev_c_295_0 : List (Nat × Instr × Nat) := [(0, .aload_n 0, 1), (1, .aload_n 0, 1), (2, .getfield 47, 3), (5, .aload_n 0, 1), (6, .iload_n 1, 1), (7, .invokevirtual 324, 3), (10, .iload_n 2, 1), (11, .iconst 0, 1), (12, .bipush 9, 2), (14, .invokestatic 68, 3), (17, .invokevirtual 43, 3), (20, .ifCond .eq 12, 3), (23, .aload_n 0, 1), (24, .iload_n 1, 1), (25, .iload_n 2, 1), (26, .invokevirtual 227, 3), (29, .goto 4, 3)]
set_option maxRecDepth 100000 in
theorem ev_d_295_0 : ∀ q ∈ ev_c_295_0, decode prog_10_method_95_code q.1 = .ok (q.2.1, q.2.2) := fd_rows (by decide +kernel)
def ev_c_295_1 : List (Nat × Instr × Nat) := [(32, .iconst 0, 1), (33, .ireturn, 1)]
set_option maxRecDepth 100000 in
theorem ev_d_295_1 : ∀ q ∈ ev_c_295_1, decode prog_10_method_95_code q.1 = .ok (q.2.1, q.2.2) := fd_rows (by decide +kernel)
def ev_c_295 : List (Nat × List (Nat × Instr × Nat)) := [(0, ev_c_295_0), (1, ev_c_295_1)]
set_option maxRecDepth 100000 in
theorem ev_d_295 : ∀ q ∈ ev_c_295, ∀ z ∈ q.2, decode prog_10_method_95_code z.1 = .ok (z.2.1, z.2.2) := List.forall_mem_cons.mpr ⟨ev_d_295_0, List.forall_mem_cons.mpr ⟨ev_d_295_1, fun _ h => absurd h List.not_mem_nil⟩⟩
def ev_c_296_0 : List (Nat × Instr × Nat) := [(0, .iconst 0, 1), (1, .istore_n 3, 1), (2, .iconst 0, 1), (3, .istore 4, 2), (5, .iload 4, 2), (7, .aload_n 0, 1), (8, .getfield 9, 3), (11, .bipush 10, 2), (13, .iaload, 1), (14, .if_icmp .ge 50, 3), (17, .aload_n 0, 1), (18, .iload 4, 2), (20, .iload_n 1, 1), (21, .invokevirtual 242, 3), (24, .ifCond .ne 6, 3), (27, .goto 31, 3), (30, .iload_n 2, 1), (31, .iconst 3, 1)]
set_option maxRecDepth 100000 in
theorem ev_d_296_0 : ∀ q ∈ ev_c_296_0, decode prog_10_method_96_code q.1 = .ok (q.2.1, q.2.2) := fd_rows (by decide +kernel)
def ev_c_296_1 : List (Nat × Instr × Nat) := [(32, .if_icmp .ne 16, 3), (35, .iload_n 3, 1), (36, .aload_n 0, 1), (37, .iload 4, 2), (39, .iconst 3, 1), (40, .invokevirtual 227, 3), (43, .iadd, 1), (44, .istore_n 3, 1), (45, .goto 13, 3), (48, .iload_n 3, 1), (49, .aload_n 0, 1), (50, .iload 4, 2), (52, .iconst 1, 1), (53, .invokevirtual 227, 3), (56, .ior, 1), (57, .istore_n 3, 1), (58, .iinc 4 1, 3), (61, .goto (-56), 3)]
set_option maxRecDepth 100000 in
theorem ev_d_296_1 : ∀ q ∈ ev_c_296_1, decode prog_10_method_96_code q.1 = .ok (q.2.1, q.2.2) := fd_rows (by decide +kernel)
def ev_c_296_2 : List (Nat × Instr × Nat) := [(64, .iload_n 3, 1), (65, .ireturn, 1)]
set_option maxRecDepth 100000 in
theorem ev_d_296_2 : ∀ q ∈ ev_c_296_2, decode prog_10_method_96_code q.1 = .ok (q.2.1, q.2.2) := fd_rows (by decide +kernel)
def ev_c_296 : List (Nat × List (Nat × Instr × Nat)) := [(0, ev_c_296_0), (1, ev_c_296_1), (2, ev_c_296_2)]
set_option maxRecDepth 100000 in
theorem ev_d_296 : ∀ q ∈ ev_c_296, ∀ z ∈ q.2, decode prog_10_method_96_code z.1 = .ok (z.2.1, z.2.2) := List.forall_mem_cons.mpr ⟨ev_d_296_0, List.forall_mem_cons.mpr ⟨ev_d_296_1, List.forall_mem_cons.mpr ⟨ev_d_296_2, fun _ h => absurd h List.not_mem_nil⟩⟩⟩
def ev_c_297_0 : List (Nat × Instr × Nat) := [(0, .aload_n 0, 1), (1, .aload_n 0, 1), (2, .getfield 47, 3), (5, .aload_n 0, 1), (6, .iload_n 1, 1), (7, .invokevirtual 327, 3), (10, .iload_n 2, 1), (11, .iconst 0, 1), (12, .iconst 4, 1), (13, .invokestatic 68, 3), (16, .invokevirtual 43, 3), (19, .ifCond .ne 5, 3), (22, .iconst 0, 1), (23, .ireturn, 1), (24, .iload_n 2, 1), (25, .tableswitch 49 0 2 #[27, 37, 43], 27)]
set_option maxRecDepth 100000 in
theorem ev_d_297_0 : ∀ q ∈ ev_c_297_0, decode prog_10_method_97_code q.1 = .ok (q.2.1, q.2.2) := by decide +kernel
def ev_c_297_1 : List (Nat × Instr × Nat) := [(52, .aload_n 0, 1), (53, .getfield 9, 3), (56, .bipush 38, 2), (58, .iload_n 1, 1), (59, .iadd, 1), (60, .iaload, 1), (61, .ireturn, 1), (62, .aload_n 0, 1), (63, .iload_n 1, 1)]
set_option maxRecDepth 100000 in
theorem ev_d_297_1 : ∀ q ∈ ev_c_297_1, decode prog_10_method_97_code q.1 = .ok (q.2.1, q.2.2) := fd_rows (by decide +kernel)
def ev_c_297_2 : List (Nat × Instr × Nat) := [(64, .invokevirtual 252, 3), (67, .ireturn, 1), (68, .aload_n 0, 1), (69, .iload_n 1, 1), (70, .invokevirtual 260, 3), (73, .ireturn, 1), (74, .aload_n 0, 1), (75, .iload_n 1, 1), (76, .iload_n 2, 1), (77, .invokevirtual 348, 3), (80, .ireturn, 1)]
set_option maxRecDepth 100000 in
theorem ev_d_297_2 : ∀ q ∈ ev_c_297_2, decode prog_10_method_97_code q.1 = .ok (q.2.1, q.2.2) := fd_rows (by decide +kernel)
def ev_c_297 : List (Nat × List (Nat × Instr × Nat)) := [(0, ev_c_297_0), (1, ev_c_297_1), (2, ev_c_297_2)]
set_option maxRecDepth 100000 in
theorem ev_d_297 : ∀ q ∈ ev_c_297, ∀ z ∈ q.2, decode prog_10_method_97_code z.1 = .ok (z.2.1, z.2.2) := List.forall_mem_cons.mpr ⟨ev_d_297_0, List.forall_mem_cons.mpr ⟨ev_d_297_1, List.forall_mem_cons.mpr ⟨ev_d_297_2, fun _ h => absurd h List.not_mem_nil⟩⟩⟩
def ev_c_298_0 : List (Nat × Instr × Nat) := [(0, .iconst 0, 1), (1, .istore_n 2, 1), (2, .iconst 0, 1), (3, .istore_n 3, 1), (4, .iload_n 3, 1), (5, .aload_n 0, 1), (6, .getfield 9, 3), (9, .bipush 10, 2), (11, .iaload, 1), (12, .if_icmp .ge 52, 3), (15, .iload_n 2, 1), (16, .aload_n 0, 1), (17, .iload_n 3, 1), (18, .aload_n 0, 1), (19, .iload_n 1, 1), (20, .bipush 9, 2), (22, .invokevirtual 227, 3), (25, .invokevirtual 242, 3), (28, .ifCond .eq 24, 3), (31, .aload_n 0, 1)]
set_option maxRecDepth 100000 in
theorem ev_d_298_0 : ∀ q ∈ ev_c_298_0, decode prog_10_method_98_code q.1 = .ok (q.2.1, q.2.2) := fd_rows (by decide +kernel)
def ev_c_298_1 : List (Nat × Instr × Nat) := [(32, .iload_n 3, 1), (33, .bipush 10, 2), (35, .invokevirtual 227, 3), (38, .aload_n 0, 1), (39, .iload_n 1, 1), (40, .bipush 10, 2), (42, .invokevirtual 227, 3), (45, .if_icmp .ge 7, 3), (48, .iconst 1, 1), (49, .goto 4, 3), (52, .iconst 0, 1), (53, .invokestatic 245, 3), (56, .iadd, 1), (57, .istore_n 2, 1), (58, .iinc 3 1, 3), (61, .goto (-57), 3)]
set_option maxRecDepth 100000 in
theorem ev_d_298_1 : ∀ q ∈ ev_c_298_1, decode prog_10_method_98_code q.1 = .ok (q.2.1, q.2.2) := fd_rows (by decide +kernel)
def ev_c_298_2 : List (Nat × Instr × Nat) := [(64, .iload_n 2, 1), (65, .ireturn, 1)]
set_option maxRecDepth 100000 in
theorem ev_d_298_2 : ∀ q ∈ ev_c_298_2, decode prog_10_method_98_code q.1 = .ok (q.2.1, q.2.2) := fd_rows (by decide +kernel)
def ev_c_298 : List (Nat × List (Nat × Instr × Nat)) := [(0, ev_c_298_0), (1, ev_c_298_1), (2, ev_c_298_2)]
set_option maxRecDepth 100000 in
theorem ev_d_298 : ∀ q ∈ ev_c_298, ∀ z ∈ q.2, decode prog_10_method_98_code z.1 = .ok (z.2.1, z.2.2) := List.forall_mem_cons.mpr ⟨ev_d_298_0, List.forall_mem_cons.mpr ⟨ev_d_298_1, List.forall_mem_cons.mpr ⟨ev_d_298_2, fun _ h => absurd h List.not_mem_nil⟩⟩⟩
def ev_c_299_0 : List (Nat × Instr × Nat) := [(0, .iconst 0, 1), (1, .istore_n 3, 1), (2, .iload_n 3, 1), (3, .aload_n 0, 1), (4, .getfield 9, 3), (7, .bipush 10, 2), (9, .iaload, 1), (10, .if_icmp .ge 29, 3), (13, .aload_n 0, 1), (14, .iload_n 3, 1), (15, .iload_n 1, 1), (16, .invokevirtual 242, 3), (19, .ifCond .eq 14, 3), (22, .aload_n 0, 1), (23, .iload_n 3, 1), (24, .invokevirtual 351, 3), (27, .iload_n 2, 1), (28, .if_icmp .ne 5, 3), (31, .iload_n 3, 1)]
set_option maxRecDepth 100000 in
theorem ev_d_299_0 : ∀ q ∈ ev_c_299_0, decode prog_10_method_99_code q.1 = .ok (q.2.1, q.2.2) := fd_rows (by decide +kernel)
def ev_c_299_1 : List (Nat × Instr × Nat) := [(32, .ireturn, 1), (33, .iinc 3 1, 3), (36, .goto (-34), 3), (39, .iconst (-1), 1), (40, .ireturn, 1)]
set_option maxRecDepth 100000 in
theorem ev_d_299_1 : ∀ q ∈ ev_c_299_1, decode prog_10_method_99_code q.1 = .ok (q.2.1, q.2.2) := fd_rows (by decide +kernel)
def ev_c_299 : List (Nat × List (Nat × Instr × Nat)) := [(0, ev_c_299_0), (1, ev_c_299_1)]
set_option maxRecDepth 100000 in
theorem ev_d_299 : ∀ q ∈ ev_c_299, ∀ z ∈ q.2, decode prog_10_method_99_code z.1 = .ok (z.2.1, z.2.2) := List.forall_mem_cons.mpr ⟨ev_d_299_0, List.forall_mem_cons.mpr ⟨ev_d_299_1, fun _ h => absurd h List.not_mem_nil⟩⟩
def ev_c_300_0 : List (Nat × Instr × Nat) := [(0, .aload_n 0, 1), (1, .iload_n 1, 1), (2, .invokevirtual 354, 3), (5, .ifCond .eq 12, 3), (8, .aload_n 0, 1), (9, .iload_n 1, 1), (10, .iload_n 2, 1), (11, .invokevirtual 357, 3), (14, .goto 4, 3), (17, .iconst 0, 1), (18, .ireturn, 1)]
set_option maxRecDepth 100000 in
theorem ev_d_300_0 : ∀ q ∈ ev_c_300_0, decode prog_10_method_100_code q.1 = .ok (q.2.1, q.2.2) := fd_rows (by decide +kernel)
def ev_c_300 : List (Nat × List (Nat × Instr × Nat)) := [(0, ev_c_300_0)]
set_option maxRecDepth 100000 in
theorem ev_d_300 : ∀ q ∈ ev_c_300, ∀ z ∈ q.2, decode prog_10_method_100_code z.1 = .ok (z.2.1, z.2.2) := List.forall_mem_cons.mpr ⟨ev_d_300_0, fun _ h => absurd h List.not_mem_nil⟩
def ev_c_301_0 : List (Nat × Instr × Nat) := [(0, .aload_n 0, 1), (1, .aload_n 0, 1), (2, .getfield 47, 3), (5, .aload_n 0, 1), (6, .getfield 47, 3), (9, .ifCond .eq 24, 3), (12, .iload_n 1, 1), (13, .iconst 0, 1), (14, .aload_n 0, 1), (15, .getfield 9, 3), (18, .bipush 9, 2), (20, .iaload, 1), (21, .iconst 1, 1), (22, .isub, 1), (23, .invokestatic 68, 3), (26, .ifCond .eq 7, 3), (29, .iconst 1, 1), (30, .goto 4, 3)]
set_option maxRecDepth 100000 in
theorem ev_d_301_0 : ∀ q ∈ ev_c_301_0, decode prog_10_method_101_code q.1 = .ok (q.2.1, q.2.2) := fd_rows (by decide +kernel)
def ev_c_301_1 : List (Nat × Instr × Nat) := [(33, .iconst 0, 1), (34, .invokevirtual 314, 3), (37, .ifCond .eq 11, 3), (40, .aload_n 0, 1), (41, .iload_n 1, 1), (42, .invokevirtual 287, 3), (45, .goto 4, 3), (48, .iconst 0, 1), (49, .ireturn, 1)]
set_option maxRecDepth 100000 in
theorem ev_d_301_1 : ∀ q ∈ ev_c_301_1, decode prog_10_method_101_code q.1 = .ok (q.2.1, q.2.2) := fd_rows (by decide +kernel)
def ev_c_301 : List (Nat × List (Nat × Instr × Nat)) := [(0, ev_c_301_0), (1, ev_c_301_1)]
set_option maxRecDepth 100000 in
theorem ev_d_301 : ∀ q ∈ ev_c_301, ∀ z ∈ q.2, decode prog_10_method_101_code z.1 = .ok (z.2.1, z.2.2) := List.forall_mem_cons.mpr ⟨ev_d_301_0, List.forall_mem_cons.mpr ⟨ev_d_301_1, fun _ h => absurd h List.not_mem_nil⟩⟩
def ev_c_302_0 : List (Nat × Instr × Nat) := [(0, .aload_n 0, 1), (1, .invokevirtual 360, 3), (4, .ifCond .eq 19, 3), (7, .aload_n 0, 1), (8, .getfield 9, 3), (11, .bipush 9, 2), (13, .iaload, 1), (14, .aload_n 0, 1), (15, .iconst 2, 1), (16, .invokevirtual 321, 3), (19, .isub, 1), (20, .goto 4, 3), (23, .iconst 0, 1), (24, .ireturn, 1)]
set_option maxRecDepth 100000 in
theorem ev_d_302_0 : ∀ q ∈ ev_c_302_0, decode prog_10_method_102_code q.1 = .ok (q.2.1, q.2.2) := fd_rows (by decide +kernel)
def ev_c_302 : List (Nat × List (Nat × Instr × Nat)) := [(0, ev_c_302_0)]
set_option maxRecDepth 100000 in
theorem ev_d_302 : ∀ q ∈ ev_c_302, ∀ z ∈ q.2, decode prog_10_method_102_code z.1 = .ok (z.2.1, z.2.2) := List.forall_mem_cons.mpr ⟨ev_d_302_0, fun _ h => absurd h List.not_mem_nil⟩
def ev_c_303_0 : List (Nat × Instr × Nat) := [(0, .aload_n 0, 1), (1, .invokevirtual 360, 3), (4, .ifCond .ne 5, 3), (7, .iconst 0, 1), (8, .ireturn, 1), (9, .iconst (-1), 1), (10, .istore_n 1, 1), (11, .iconst 0, 1), (12, .istore_n 2, 1), (13, .iload_n 2, 1), (14, .aload_n 0, 1), (15, .getfield 9, 3), (18, .bipush 10, 2), (20, .iaload, 1), (21, .if_icmp .ge 40, 3), (24, .aload_n 0, 1), (25, .iload_n 2, 1), (26, .invokevirtual 230, 3), (29, .iconst 2, 1), (30, .if_icmp .ne 25, 3)]
set_option maxRecDepth 100000 in
theorem ev_d_303_0 : ∀ q ∈ ev_c_303_0, decode prog_10_method_103_code q.1 = .ok (q.2.1, q.2.2) := fd_rows (by decide +kernel)
def ev_c_303_1 : List (Nat × Instr × Nat) := [(33, .iload_n 1, 1), (34, .iconst (-1), 1), (35, .if_icmp .eq 18, 3), (38, .aload_n 0, 1), (39, .iload_n 2, 1), (40, .iconst 4, 1), (41, .invokevirtual 227, 3), (44, .aload_n 0, 1), (45, .iload_n 1, 1), (46, .iconst 4, 1), (47, .invokevirtual 227, 3), (50, .if_icmp .le 5, 3), (53, .iload_n 2, 1), (54, .istore_n 1, 1), (55, .iinc 2 1, 3), (58, .goto (-45), 3), (61, .iload_n 1, 1), (62, .ireturn, 1)]
set_option maxRecDepth 100000 in
theorem ev_d_303_1 : ∀ q ∈ ev_c_303_1, decode prog_10_method_103_code q.1 = .ok (q.2.1, q.2.2) := fd_rows (by decide +kernel)
def ev_c_303 : List (Nat × List (Nat × Instr × Nat)) := [(0, ev_c_303_0), (1, ev_c_303_1)]
set_option maxRecDepth 100000 in
theorem ev_d_303 : ∀ q ∈ ev_c_303, ∀ z ∈ q.2, decode prog_10_method_103_code z.1 = .ok (z.2.1, z.2.2) := List.forall_mem_cons.mpr ⟨ev_d_303_0, List.forall_mem_cons.mpr ⟨ev_d_303_1, fun _ h => absurd h List.not_mem_nil⟩⟩
def ev_c_304_0 : List (Nat × Instr × Nat) := [(0, .aload_n 0, 1), (1, .invokevirtual 360, 3), (4, .ifCond .ne 5, 3), (7, .iconst 0, 1), (8, .ireturn, 1), (9, .iconst 0, 1), (10, .istore_n 1, 1), (11, .iconst 0, 1), (12, .istore_n 2, 1), (13, .iconst 0, 1), (14, .istore_n 3, 1), (15, .iload_n 3, 1), (16, .aload_n 0, 1), (17, .getfield 9, 3), (20, .bipush 10, 2), (22, .iaload, 1), (23, .if_icmp .ge 64, 3), (26, .iload_n 1, 1), (27, .aload_n 0, 1), (28, .iload_n 3, 1), (29, .invokevirtual 230, 3)]
set_option maxRecDepth 100000 in
theorem ev_d_304_0 : ∀ q ∈ ev_c_304_0, decode prog_10_method_104_code q.1 = .ok (q.2.1, q.2.2) := fd_rows (by decide +kernel)
def ev_c_304_1 : List (Nat × Instr × Nat) := [(32, .iconst 3, 1), (33, .if_icmp .ne 17, 3), (36, .aload_n 0, 1), (37, .aload_n 0, 1), (38, .iload_n 3, 1), (39, .iconst 0, 1), (40, .invokevirtual 227, 3), (43, .iconst 1, 1), (44, .invokevirtual 302, 3), (47, .goto 4, 3), (50, .iconst 0, 1), (51, .iadd, 1), (52, .istore_n 1, 1), (53, .iload_n 2, 1), (54, .aload_n 0, 1), (55, .iload_n 3, 1), (56, .bipush 6, 2), (58, .invokevirtual 227, 3), (61, .aload_n 0, 1), (62, .iload_n 3, 1), (63, .iconst 1, 1)]
set_option maxRecDepth 100000 in
theorem ev_d_304_1 : ∀ q ∈ ev_c_304_1, decode prog_10_method_104_code q.1 = .ok (q.2.1, q.2.2) := fd_rows (by decide +kernel)
def ev_c_304_2 : List (Nat × Instr × Nat) := [(64, .invokevirtual 227, 3), (67, .iand, 1), (68, .ifCond .eq 7, 3), (71, .iconst 1, 1), (72, .goto 4, 3), (75, .iconst 0, 1), (76, .invokestatic 245, 3), (79, .iadd, 1), (80, .istore_n 2, 1), (81, .iinc 3 1, 3), (84, .goto (-69), 3), (87, .aload_n 0, 1), (88, .iconst 0, 1), (89, .invokevirtual 321, 3), (92, .aload_n 0, 1), (93, .iconst 1, 1), (94, .invokevirtual 321, 3)]
set_option maxRecDepth 100000 in
theorem ev_d_304_2 : ∀ q ∈ ev_c_304_2, decode prog_10_method_104_code q.1 = .ok (q.2.1, q.2.2) := fd_rows (by decide +kernel)
def ev_c_304_3 : List (Nat × Instr × Nat) := [(97, .iadd, 1), (98, .aload_n 0, 1), (99, .iconst 2, 1), (100, .invokevirtual 321, 3), (103, .iadd, 1), (104, .aload_n 0, 1), (105, .iconst 3, 1), (106, .invokevirtual 321, 3), (109, .iadd, 1), (110, .istore_n 3, 1), (111, .iload_n 2, 1), (112, .aload_n 0, 1), (113, .getfield 9, 3), (116, .bipush 10, 2), (118, .iaload, 1), (119, .iload_n 3, 1), (120, .isub, 1), (121, .invokestatic 364, 3), (124, .iadd, 1), (125, .aload_n 0, 1), (126, .getfield 9, 3)]
set_option maxRecDepth 100000 in
theorem ev_d_304_3 : ∀ q ∈ ev_c_304_3, decode prog_10_method_104_code q.1 = .ok (q.2.1, q.2.2) := fd_rows (by decide +kernel)
def ev_c_304_4 : List (Nat × Instr × Nat) := [(129, .iconst 2, 1), (130, .iaload, 1), (131, .aload_n 0, 1), (132, .getfield 9, 3), (135, .iconst 3, 1), (136, .iaload, 1), (137, .iadd, 1), (138, .iload_n 1, 1), (139, .isub, 1), (140, .invokestatic 364, 3), (143, .iadd, 1), (144, .ireturn, 1)]
set_option maxRecDepth 100000 in
theorem ev_d_304_4 : ∀ q ∈ ev_c_304_4, decode prog_10_method_104_code q.1 = .ok (q.2.1, q.2.2) := fd_rows (by decide +kernel)
def ev_c_304 : List (Nat × List (Nat × Instr × Nat)) := [(0, ev_c_304_0), (1, ev_c_304_1), (2, ev_c_304_2), (3, ev_c_304_3), (4, ev_c_304_4)]
set_option maxRecDepth 100000 in
theorem ev_d_304 : ∀ q ∈ ev_c_304, ∀ z ∈ q.2, decode prog_10_method_104_code z.1 = .ok (z.2.1, z.2.2) := List.forall_mem_cons.mpr ⟨ev_d_304_0, List.forall_mem_cons.mpr ⟨ev_d_304_1, List.forall_mem_cons.mpr ⟨ev_d_304_2, List.forall_mem_cons.mpr ⟨ev_d_304_3, List.forall_mem_cons.mpr ⟨ev_d_304_4, fun _ h => absurd h List.not_mem_nil⟩⟩⟩⟩⟩
def ev_c_305_0 : List (Nat × Instr × Nat) := [(0, .aload_n 0, 1), (1, .iload_n 1, 1), (2, .invokevirtual 367, 3), (5, .ifCond .eq 11, 3), (8, .aload_n 0, 1), (9, .iload_n 1, 1), (10, .invokevirtual 311, 3), (13, .goto 4, 3), (16, .iconst 0, 1), (17, .ireturn, 1)]
set_option maxRecDepth 100000 in
theorem ev_d_305_0 : ∀ q ∈ ev_c_305_0, decode prog_10_method_105_code q.1 = .ok (q.2.1, q.2.2) := fd_rows (by decide +kernel)
def ev_c_305 : List (Nat × List (Nat × Instr × Nat)) := [(0, ev_c_305_0)]
set_option maxRecDepth 100000 in
theorem ev_d_305 : ∀ q ∈ ev_c_305, ∀ z ∈ q.2, decode prog_10_method_105_code z.1 = .ok (z.2.1, z.2.2) := List.forall_mem_cons.mpr ⟨ev_d_305_0, fun _ h => absurd h List.not_mem_nil⟩
def ev_c_306_0 : List (Nat × Instr × Nat) := [(0, .aload_n 0, 1), (1, .iload_n 1, 1), (2, .invokevirtual 367, 3), (5, .ifCond .ne 5, 3), (8, .iconst 0, 1), (9, .ireturn, 1), (10, .iconst 0, 1), (11, .istore_n 2, 1), (12, .iconst 1, 1), (13, .istore_n 3, 1), (14, .iload_n 3, 1), (15, .bipush 7, 2), (17, .if_icmp .gt 23, 3), (20, .iload_n 2, 1), (21, .aload_n 0, 1), (22, .iload_n 3, 1), (23, .iload_n 1, 1), (24, .invokevirtual 239, 3), (27, .invokestatic 245, 3), (30, .iload_n 3, 1), (31, .ishl, 1)]
set_option maxRecDepth 100000 in
theorem ev_d_306_0 : ∀ q ∈ ev_c_306_0, decode prog_10_method_106_code q.1 = .ok (q.2.1, q.2.2) := fd_rows (by decide +kernel)
def ev_c_306_1 : List (Nat × Instr × Nat) := [(32, .ior, 1), (33, .istore_n 2, 1), (34, .iinc 3 1, 3), (37, .goto (-23), 3), (40, .iload_n 2, 1), (41, .ireturn, 1)]
set_option maxRecDepth 100000 in
theorem ev_d_306_1 : ∀ q ∈ ev_c_306_1, decode prog_10_method_106_code q.1 = .ok (q.2.1, q.2.2) := fd_rows (by decide +kernel)
def ev_c_306 : List (Nat × List (Nat × Instr × Nat)) := [(0, ev_c_306_0), (1, ev_c_306_1)]
set_option maxRecDepth 100000 in
theorem ev_d_306 : ∀ q ∈ ev_c_306, ∀ z ∈ q.2, decode prog_10_method_106_code z.1 = .ok (z.2.1, z.2.2) := List.forall_mem_cons.mpr ⟨ev_d_306_0, List.forall_mem_cons.mpr ⟨ev_d_306_1, fun _ h => absurd h List.not_mem_nil⟩⟩
def ev_c_307_0 : List (Nat × Instr × Nat) := [(0, .aload_n 0, 1), (1, .aload_n 0, 1), (2, .getfield 47, 3), (5, .aload_n 0, 1), (6, .iload_n 1, 1), (7, .invokevirtual 339, 3), (10, .invokevirtual 314, 3), (13, .ifCond .eq 11, 3), (16, .aload_n 0, 1), (17, .iload_n 1, 1), (18, .invokevirtual 370, 3), (21, .goto 4, 3), (24, .iconst 0, 1), (25, .ireturn, 1)]
set_option maxRecDepth 100000 in
theorem ev_d_307_0 : ∀ q ∈ ev_c_307_0, decode prog_10_method_107_code q.1 = .ok (q.2.1, q.2.2) := fd_rows (by decide +kernel)
def ev_c_307 : List (Nat × List (Nat × Instr × Nat)) := [(0, ev_c_307_0)]
set_option maxRecDepth 100000 in
theorem ev_d_307 : ∀ q ∈ ev_c_307, ∀ z ∈ q.2, decode prog_10_method_107_code z.1 = .ok (z.2.1, z.2.2) := List.forall_mem_cons.mpr ⟨ev_d_307_0, fun _ h => absurd h List.not_mem_nil⟩
def ev_c_308_0 : List (Nat × Instr × Nat) := [(0, .aload_n 0, 1), (1, .aload_n 0, 1), (2, .getfield 47, 3), (5, .aload_n 0, 1), (6, .iload_n 1, 1), (7, .invokevirtual 324, 3), (10, .ifCond .eq 15, 3), (13, .aload_n 0, 1), (14, .iload_n 2, 1), (15, .invokevirtual 327, 3), (18, .ifCond .eq 7, 3), (21, .iconst 1, 1), (22, .goto 4, 3), (25, .iconst 0, 1), (26, .invokevirtual 314, 3), (29, .ifCond .eq 12, 3)]
set_option maxRecDepth 100000 in
theorem ev_d_308_0 : ∀ q ∈ ev_c_308_0, decode prog_10_method_108_code q.1 = .ok (q.2.1, q.2.2) := fd_rows (by decide +kernel)
def ev_c_308_1 : List (Nat × Instr × Nat) := [(32, .aload_n 0, 1), (33, .iload_n 1, 1), (34, .iload_n 2, 1), (35, .invokevirtual 137, 3), (38, .goto 4, 3), (41, .iconst 0, 1), (42, .ireturn, 1)]
set_option maxRecDepth 100000 in
theorem ev_d_308_1 : ∀ q ∈ ev_c_308_1, decode prog_10_method_108_code q.1 = .ok (q.2.1, q.2.2) := fd_rows (by decide +kernel)
def ev_c_308 : List (Nat × List (Nat × Instr × Nat)) := [(0, ev_c_308_0), (1, ev_c_308_1)]
set_option maxRecDepth 100000 in
theorem ev_d_308 : ∀ q ∈ ev_c_308, ∀ z ∈ q.2, decode prog_10_method_108_code z.1 = .ok (z.2.1, z.2.2) := List.forall_mem_cons.mpr ⟨ev_d_308_0, List.forall_mem_cons.mpr ⟨ev_d_308_1, fun _ h => absurd h List.not_mem_nil⟩⟩
def ev_c_309_0 : List (Nat × Instr × Nat) := [(0, .aload_n 0, 1), (1, .iload_n 1, 1), (2, .iload_n 2, 1), (3, .invokevirtual 373, 3), (6, .ifCond .eq 12, 3), (9, .aload_n 0, 1), (10, .iload_n 1, 1), (11, .iload_n 2, 1), (12, .invokevirtual 143, 3), (15, .goto 4, 3), (18, .iconst 0, 1), (19, .ireturn, 1)]
set_option maxRecDepth 100000 in
theorem ev_d_309_0 : ∀ q ∈ ev_c_309_0, decode prog_10_method_109_code q.1 = .ok (q.2.1, q.2.2) := fd_rows (by decide +kernel)
def ev_c_309 : List (Nat × List (Nat × Instr × Nat)) := [(0, ev_c_309_0)]
set_option maxRecDepth 100000 in
theorem ev_d_309 : ∀ q ∈ ev_c_309, ∀ z ∈ q.2, decode prog_10_method_109_code z.1 = .ok (z.2.1, z.2.2) := List.forall_mem_cons.mpr ⟨ev_d_309_0, fun _ h => absurd h List.not_mem_nil⟩
def ev_c_310_0 : List (Nat × Instr × Nat) := [(0, .aload_n 0, 1), (1, .aload_n 0, 1), (2, .getfield 47, 3), (5, .aload_n 0, 1), (6, .iload_n 1, 1), (7, .invokevirtual 324, 3), (10, .iload_n 2, 1), (11, .invokestatic 330, 3), (14, .invokevirtual 43, 3), (17, .ifCond .eq 12, 3), (20, .aload_n 0, 1), (21, .iload_n 1, 1), (22, .iload_n 2, 1), (23, .invokevirtual 376, 3), (26, .goto 4, 3), (29, .iconst 0, 1), (30, .ireturn, 1)]
set_option maxRecDepth 100000 in
theorem ev_d_310_0 : ∀ q ∈ ev_c_310_0, decode prog_10_method_110_code q.1 = .ok (q.2.1, q.2.2) := fd_rows (by decide +kernel)
def ev_c_310 : List (Nat × List (Nat × Instr × Nat)) := [(0, ev_c_310_0)]
set_option maxRecDepth 100000 in
theorem ev_d_310 : ∀ q ∈ ev_c_310, ∀ z ∈ q.2, decode prog_10_method_110_code z.1 = .ok (z.2.1, z.2.2) := List.forall_mem_cons.mpr ⟨ev_d_310_0, fun _ h => absurd h List.not_mem_nil⟩
def ev_c_311_0 : List (Nat × Instr × Nat) := [(0, .aload_n 0, 1), (1, .iload_n 1, 1), (2, .invokevirtual 249, 3), (5, .ifCond .ne 5, 3), (8, .iconst 1, 1), (9, .ireturn, 1), (10, .aload_n 0, 1), (11, .iload_n 1, 1), (12, .bipush 6, 2), (14, .invokevirtual 227, 3), (17, .ifCond .ne 5, 3), (20, .iconst 2, 1), (21, .ireturn, 1), (22, .aload_n 0, 1), (23, .iload_n 1, 1), (24, .bipush 7, 2), (26, .invokevirtual 227, 3), (29, .iconst 2, 1), (30, .if_icmp .ne 7, 3)]
set_option maxRecDepth 100000 in
theorem ev_d_311_0 : ∀ q ∈ ev_c_311_0, decode prog_10_method_111_code q.1 = .ok (q.2.1, q.2.2) := fd_rows (by decide +kernel)
def ev_c_311_1 : List (Nat × Instr × Nat) := [(33, .iconst 3, 1), (34, .goto 4, 3), (37, .iconst 0, 1), (38, .ireturn, 1)]
set_option maxRecDepth 100000 in
theorem ev_d_311_1 : ∀ q ∈ ev_c_311_1, decode prog_10_method_111_code q.1 = .ok (q.2.1, q.2.2) := fd_rows (by decide +kernel)
def ev_c_311 : List (Nat × List (Nat × Instr × Nat)) := [(0, ev_c_311_0), (1, ev_c_311_1)]
set_option maxRecDepth 100000 in
theorem ev_d_311 : ∀ q ∈ ev_c_311, ∀ z ∈ q.2, decode prog_10_method_111_code z.1 = .ok (z.2.1, z.2.2) := List.forall_mem_cons.mpr ⟨ev_d_311_0, List.forall_mem_cons.mpr ⟨ev_d_311_1, fun _ h => absurd h List.not_mem_nil⟩⟩
def ev_c_312_0 : List (Nat × Instr × Nat) := [(0, .aload_n 0, 1), (1, .iload_n 1, 1), (2, .invokevirtual 367, 3), (5, .ifCond .eq 11, 3), (8, .aload_n 0, 1), (9, .iload_n 1, 1), (10, .invokevirtual 379, 3), (13, .goto 4, 3), (16, .iconst 0, 1), (17, .ireturn, 1)]
set_option maxRecDepth 100000 in
theorem ev_d_312_0 : ∀ q ∈ ev_c_312_0, decode prog_10_method_112_code q.1 = .ok (q.2.1, q.2.2) := fd_rows (by decide +kernel)
def ev_c_312 : List (Nat × List (Nat × Instr × Nat)) := [(0, ev_c_312_0)]
set_option maxRecDepth 100000 in
theorem ev_d_312 : ∀ q ∈ ev_c_312, ∀ z ∈ q.2, decode prog_10_method_112_code z.1 = .ok (z.2.1, z.2.2) := List.forall_mem_cons.mpr ⟨ev_d_312_0, fun _ h => absurd h List.not_mem_nil⟩
def ev_c_313_0 : List (Nat × Instr × Nat) := [(0, .aload_n 0, 1), (1, .iload_n 1, 1), (2, .iload_n 2, 1), (3, .invokevirtual 373, 3), (6, .ifCond .eq 12, 3), (9, .aload_n 0, 1), (10, .iload_n 1, 1), (11, .iload_n 2, 1), (12, .invokevirtual 269, 3), (15, .goto 4, 3), (18, .iconst 0, 1), (19, .ireturn, 1)]
set_option maxRecDepth 100000 in
theorem ev_d_313_0 : ∀ q ∈ ev_c_313_0, decode prog_10_method_113_code q.1 = .ok (q.2.1, q.2.2) := fd_rows (by decide +kernel)
def ev_c_313 : List (Nat × List (Nat × Instr × Nat)) := [(0, ev_c_313_0)]
set_option maxRecDepth 100000 in
theorem ev_d_313 : ∀ q ∈ ev_c_313, ∀ z ∈ q.2, decode prog_10_method_113_code z.1 = .ok (z.2.1, z.2.2) := List.forall_mem_cons.mpr ⟨ev_d_313_0, fun _ h => absurd h List.not_mem_nil⟩
def ev_c_314_0 : List (Nat × Instr × Nat) := [(0, .aload_n 0, 1), (1, .iload_n 1, 1), (2, .iload_n 2, 1), (3, .invokevirtual 373, 3), (6, .ifCond .eq 12, 3), (9, .aload_n 0, 1), (10, .iload_n 1, 1), (11, .iload_n 2, 1), (12, .invokevirtual 281, 3), (15, .goto 4, 3), (18, .iconst 0, 1), (19, .ireturn, 1)]
set_option maxRecDepth 100000 in
theorem ev_d_314_0 : ∀ q ∈ ev_c_314_0, decode prog_10_method_114_code q.1 = .ok (q.2.1, q.2.2) := fd_rows (by decide +kernel)
def ev_c_314 : List (Nat × List (Nat × Instr × Nat)) := [(0, ev_c_314_0)]
set_option maxRecDepth 100000 in
theorem ev_d_314 : ∀ q ∈ ev_c_314, ∀ z ∈ q.2, decode prog_10_method_114_code z.1 = .ok (z.2.1, z.2.2) := List.forall_mem_cons.mpr ⟨ev_d_314_0, fun _ h => absurd h List.not_mem_nil⟩
def ev_c_315_0 : List (Nat × Instr × Nat) := [(0, .aload_n 0, 1), (1, .iload_n 1, 1), (2, .iload_n 2, 1), (3, .invokevirtual 373, 3), (6, .ifCond .eq 12, 3), (9, .aload_n 0, 1), (10, .iload_n 1, 1), (11, .iload_n 2, 1), (12, .invokevirtual 382, 3), (15, .goto 4, 3), (18, .iconst 0, 1), (19, .ireturn, 1)]
set_option maxRecDepth 100000 in
theorem ev_d_315_0 : ∀ q ∈ ev_c_315_0, decode prog_10_method_115_code q.1 = .ok (q.2.1, q.2.2) := fd_rows (by decide +kernel)
def ev_c_315 : List (Nat × List (Nat × Instr × Nat)) := [(0, ev_c_315_0)]
set_option maxRecDepth 100000 in
theorem ev_d_315 : ∀ q ∈ ev_c_315, ∀ z ∈ q.2, decode prog_10_method_115_code z.1 = .ok (z.2.1, z.2.2) := List.forall_mem_cons.mpr ⟨ev_d_315_0, fun _ h => absurd h List.not_mem_nil⟩
def ev_c_316_0 : List (Nat × Instr × Nat) := [(0, .aload_n 0, 1), (1, .iload_n 1, 1), (2, .iload_n 2, 1), (3, .invokevirtual 281, 3), (6, .aload_n 0, 1), (7, .iload_n 1, 1), (8, .iload_n 3, 1), (9, .invokevirtual 281, 3), (12, .isub, 1), (13, .istore 4, 2), (15, .iload 4, 2), (17, .ifCond .lt 23, 3), (20, .iload 4, 2), (22, .ifCond .ne 22, 3), (25, .aload_n 0, 1), (26, .iload_n 1, 1), (27, .iload_n 2, 1), (28, .invokevirtual 382, 3), (31, .aload_n 0, 1)]
set_option maxRecDepth 100000 in
theorem ev_d_316_0 : ∀ q ∈ ev_c_316_0, decode prog_10_method_116_code q.1 = .ok (q.2.1, q.2.2) := fd_rows (by decide +kernel)
def ev_c_316_1 : List (Nat × Instr × Nat) := [(32, .iload_n 1, 1), (33, .iload_n 3, 1), (34, .invokevirtual 382, 3), (37, .if_icmp .ge 7, 3), (40, .iconst 1, 1), (41, .goto 4, 3), (44, .iconst 0, 1), (45, .ireturn, 1)]
set_option maxRecDepth 100000 in
theorem ev_d_316_1 : ∀ q ∈ ev_c_316_1, decode prog_10_method_116_code q.1 = .ok (q.2.1, q.2.2) := fd_rows (by decide +kernel)
def ev_c_316 : List (Nat × List (Nat × Instr × Nat)) := [(0, ev_c_316_0), (1, ev_c_316_1)]
set_option maxRecDepth 100000 in
theorem ev_d_316 : ∀ q ∈ ev_c_316, ∀ z ∈ q.2, decode prog_10_method_116_code z.1 = .ok (z.2.1, z.2.2) := List.forall_mem_cons.mpr ⟨ev_d_316_0, List.forall_mem_cons.mpr ⟨ev_d_316_1, fun _ h => absurd h List.not_mem_nil⟩⟩
def ev_c_317_0 : List (Nat × Instr × Nat) := [(0, .aload_n 0, 1), (1, .iload_n 1, 1), (2, .invokevirtual 354, 3), (5, .ifCond .ne 5, 3), (8, .iconst 0, 1), (9, .ireturn, 1), (10, .aload_n 0, 1), (11, .iload_n 1, 1), (12, .invokevirtual 252, 3), (15, .ifCond .ne 5, 3), (18, .iconst (-1), 1), (19, .ireturn, 1), (20, .iconst 0, 1), (21, .istore_n 2, 1), (22, .iconst 1, 1), (23, .istore_n 3, 1), (24, .iload_n 3, 1), (25, .aload_n 0, 1), (26, .iload_n 1, 1), (27, .invokevirtual 260, 3), (30, .if_icmp .gt 21, 3)]
set_option maxRecDepth 100000 in
theorem ev_d_317_0 : ∀ q ∈ ev_c_317_0, decode prog_10_method_117_code q.1 = .ok (q.2.1, q.2.2) := fd_rows (by decide +kernel)
def ev_c_317_1 : List (Nat × Instr × Nat) := [(33, .aload_n 0, 1), (34, .iload_n 1, 1), (35, .iload_n 3, 1), (36, .iload_n 2, 1), (37, .invokevirtual 385, 3), (40, .ifCond .eq 5, 3), (43, .iload_n 3, 1), (44, .istore_n 2, 1), (45, .iinc 3 1, 3), (48, .goto (-24), 3), (51, .iload_n 2, 1), (52, .ireturn, 1)]
set_option maxRecDepth 100000 in
theorem ev_d_317_1 : ∀ q ∈ ev_c_317_1, decode prog_10_method_117_code q.1 = .ok (q.2.1, q.2.2) := fd_rows (by decide +kernel)
def ev_c_317 : List (Nat × List (Nat × Instr × Nat)) := [(0, ev_c_317_0), (1, ev_c_317_1)]
set_option maxRecDepth 100000 in
theorem ev_d_317 : ∀ q ∈ ev_c_317, ∀ z ∈ q.2, decode prog_10_method_117_code z.1 = .ok (z.2.1, z.2.2) := List.forall_mem_cons.mpr ⟨ev_d_317_0, List.forall_mem_cons.mpr ⟨ev_d_317_1, fun _ h => absurd h List.not_mem_nil⟩⟩
def ev_c_318_0 : List (Nat × Instr × Nat) := [(0, .aload_n 0, 1), (1, .iload_n 1, 1), (2, .iload_n 2, 1), (3, .invokevirtual 137, 3), (6, .ifCond .eq 5, 3), (9, .iconst 0, 1), (10, .ireturn, 1), (11, .aload_n 0, 1), (12, .invokevirtual 215, 3), (15, .aload_n 0, 1), (16, .iload_n 1, 1), (17, .iload_n 2, 1), (18, .invokevirtual 140, 3), (21, .aload_n 0, 1), (22, .aload_n 0, 1), (23, .iload_n 2, 1), (24, .iload_n 3, 1), (25, .invokevirtual 143, 3), (28, .aload_n 0, 1), (29, .iload_n 2, 1), (30, .iload_n 3, 1), (31, .invokevirtual 281, 3)]
set_option maxRecDepth 100000 in
theorem ev_d_318_0 : ∀ q ∈ ev_c_318_0, decode prog_10_method_118_code q.1 = .ok (q.2.1, q.2.2) := fd_rows (by decide +kernel)
def ev_c_318_1 : List (Nat × Instr × Nat) := [(34, .iadd, 1), (35, .invokevirtual 221, 3), (38, .ifCond .ne 7, 3), (41, .iconst 1, 1), (42, .goto 4, 3), (45, .iconst 0, 1), (46, .ireturn, 1)]
set_option maxRecDepth 100000 in
theorem ev_d_318_1 : ∀ q ∈ ev_c_318_1, decode prog_10_method_118_code q.1 = .ok (q.2.1, q.2.2) := fd_rows (by decide +kernel)
def ev_c_318 : List (Nat × List (Nat × Instr × Nat)) := [(0, ev_c_318_0), (1, ev_c_318_1)]
set_option maxRecDepth 100000 in
theorem ev_d_318 : ∀ q ∈ ev_c_318, ∀ z ∈ q.2, decode prog_10_method_118_code z.1 = .ok (z.2.1, z.2.2) := List.forall_mem_cons.mpr ⟨ev_d_318_0, List.forall_mem_cons.mpr ⟨ev_d_318_1, fun _ h => absurd h List.not_mem_nil⟩⟩
def ev_c_319_0 : List (Nat × Instr × Nat) := [(0, .aload_n 0, 1), (1, .iload_n 1, 1), (2, .iload_n 2, 1), (3, .invokevirtual 373, 3), (6, .ifCond .ne 5, 3), (9, .iconst 0, 1), (10, .ireturn, 1), (11, .iconst 0, 1), (12, .istore_n 3, 1), (13, .iload_n 3, 1), (14, .aload_n 0, 1), (15, .getfield 9, 3), (18, .bipush 10, 2), (20, .iaload, 1), (21, .if_icmp .ge 21, 3), (24, .aload_n 0, 1), (25, .iload_n 3, 1), (26, .iload_n 1, 1), (27, .iload_n 2, 1), (28, .invokevirtual 388, 3), (31, .ifCond .eq 5, 3)]
set_option maxRecDepth 100000 in
theorem ev_d_319_0 : ∀ q ∈ ev_c_319_0, decode prog_10_method_119_code q.1 = .ok (q.2.1, q.2.2) := fd_rows (by decide +kernel)
def ev_c_319_1 : List (Nat × Instr × Nat) := [(34, .iload_n 3, 1), (35, .ireturn, 1), (36, .iinc 3 1, 3), (39, .goto (-26), 3), (42, .iconst (-1), 1), (43, .ireturn, 1)]
set_option maxRecDepth 100000 in
theorem ev_d_319_1 : ∀ q ∈ ev_c_319_1, decode prog_10_method_119_code q.1 = .ok (q.2.1, q.2.2) := fd_rows (by decide +kernel)
def ev_c_319 : List (Nat × List (Nat × Instr × Nat)) := [(0, ev_c_319_0), (1, ev_c_319_1)]
set_option maxRecDepth 100000 in
theorem ev_d_319 : ∀ q ∈ ev_c_319, ∀ z ∈ q.2, decode prog_10_method_119_code z.1 = .ok (z.2.1, z.2.2) := List.forall_mem_cons.mpr ⟨ev_d_319_0, List.forall_mem_cons.mpr ⟨ev_d_319_1, fun _ h => absurd h List.not_mem_nil⟩⟩
def ev_c_320_0 : List (Nat × Instr × Nat) := [(0, .iload_n 1, 1), (1, .iload_n 2, 1), (2, .if_icmp .ne 5, 3), (5, .iconst 0, 1), (6, .ireturn, 1), (7, .aload_n 0, 1), (8, .iload_n 2, 1), (9, .aload_n 0, 1), (10, .iload_n 1, 1), (11, .iload_n 3, 1), (12, .invokevirtual 266, 3), (15, .invokevirtual 272, 3), (18, .ifCond .eq 7, 3), (21, .iconst 1, 1), (22, .goto 4, 3), (25, .iconst 0, 1), (26, .invokestatic 245, 3), (29, .iconst 2, 1), (30, .aload_n 0, 1), (31, .iload_n 1, 1)]
set_option maxRecDepth 100000 in
theorem ev_d_320_0 : ∀ q ∈ ev_c_320_0, decode prog_10_method_120_code q.1 = .ok (q.2.1, q.2.2) := fd_rows (by decide +kernel)
def ev_c_320_1 : List (Nat × Instr × Nat) := [(32, .aload_n 0, 1), (33, .iload_n 2, 1), (34, .iload_n 3, 1), (35, .invokevirtual 266, 3), (38, .invokevirtual 272, 3), (41, .ifCond .eq 7, 3), (44, .iconst 1, 1), (45, .goto 4, 3), (48, .iconst 0, 1), (49, .invokestatic 245, 3), (52, .imul, 1), (53, .iadd, 1), (54, .ireturn, 1)]
set_option maxRecDepth 100000 in
theorem ev_d_320_1 : ∀ q ∈ ev_c_320_1, decode prog_10_method_120_code q.1 = .ok (q.2.1, q.2.2) := fd_rows (by decide +kernel)
def ev_c_320 : List (Nat × List (Nat × Instr × Nat)) := [(0, ev_c_320_0), (1, ev_c_320_1)]
set_option maxRecDepth 100000 in
theorem ev_d_320 : ∀ q ∈ ev_c_320, ∀ z ∈ q.2, decode prog_10_method_120_code z.1 = .ok (z.2.1, z.2.2) := List.forall_mem_cons.mpr ⟨ev_d_320_0, List.forall_mem_cons.mpr ⟨ev_d_320_1, fun _ h => absurd h List.not_mem_nil⟩⟩
def ev_c_321_0 : List (Nat × Instr × Nat) := [(0, .aload_n 0, 1), (1, .aload_n 0, 1), (2, .getfield 47, 3), (5, .aload_n 0, 1), (6, .iload_n 1, 1), (7, .invokevirtual 324, 3), (10, .ifCond .eq 15, 3), (13, .aload_n 0, 1), (14, .iload_n 2, 1), (15, .invokevirtual 324, 3), (18, .ifCond .eq 7, 3), (21, .iconst 1, 1), (22, .goto 4, 3), (25, .iconst 0, 1), (26, .iload_n 3, 1), (27, .invokestatic 330, 3), (30, .invokevirtual 43, 3)]
set_option maxRecDepth 100000 in
theorem ev_d_321_0 : ∀ q ∈ ev_c_321_0, decode prog_10_method_121_code q.1 = .ok (q.2.1, q.2.2) := fd_rows (by decide +kernel)
def ev_c_321_1 : List (Nat × Instr × Nat) := [(33, .ifCond .eq 13, 3), (36, .aload_n 0, 1), (37, .iload_n 1, 1), (38, .iload_n 2, 1), (39, .iload_n 3, 1), (40, .invokevirtual 391, 3), (43, .goto 4, 3), (46, .iconst 0, 1), (47, .ireturn, 1)]
set_option maxRecDepth 100000 in
theorem ev_d_321_1 : ∀ q ∈ ev_c_321_1, decode prog_10_method_121_code q.1 = .ok (q.2.1, q.2.2) := fd_rows (by decide +kernel)
def ev_c_321 : List (Nat × List (Nat × Instr × Nat)) := [(0, ev_c_321_0), (1, ev_c_321_1)]
set_option maxRecDepth 100000 in
theorem ev_d_321 : ∀ q ∈ ev_c_321, ∀ z ∈ q.2, decode prog_10_method_121_code z.1 = .ok (z.2.1, z.2.2) := List.forall_mem_cons.mpr ⟨ev_d_321_0, List.forall_mem_cons.mpr ⟨ev_d_321_1, fun _ h => absurd h List.not_mem_nil⟩⟩
def ev_c_322_0 : List (Nat × Instr × Nat) := [(0, .iconst 0, 1), (1, .istore 4, 2), (3, .iload 4, 2), (5, .iload_n 1, 1), (6, .if_icmp .ge 33, 3), (9, .aload_n 0, 1), (10, .getfield 34, 3), (13, .iload 4, 2), (15, .iaload, 1), (16, .iload_n 2, 1), (17, .if_icmp .ne 16, 3), (20, .aload_n 0, 1), (21, .iload 4, 2), (23, .iload_n 1, 1), (24, .iload_n 3, 1), (25, .invokevirtual 391, 3), (28, .ifCond .eq 5, 3), (31, .iconst 0, 1)]
set_option maxRecDepth 100000 in
theorem ev_d_322_0 : ∀ q ∈ ev_c_322_0, decode prog_10_method_122_code q.1 = .ok (q.2.1, q.2.2) := fd_rows (by decide +kernel)
def ev_c_322_1 : List (Nat × Instr × Nat) := [(32, .ireturn, 1), (33, .iinc 4 1, 3), (36, .goto (-33), 3), (39, .iconst 1, 1), (40, .ireturn, 1)]
set_option maxRecDepth 100000 in
theorem ev_d_322_1 : ∀ q ∈ ev_c_322_1, decode prog_10_method_122_code q.1 = .ok (q.2.1, q.2.2) := fd_rows (by decide +kernel)
def ev_c_322 : List (Nat × List (Nat × Instr × Nat)) := [(0, ev_c_322_0), (1, ev_c_322_1)]
set_option maxRecDepth 100000 in
theorem ev_d_322 : ∀ q ∈ ev_c_322, ∀ z ∈ q.2, decode prog_10_method_122_code z.1 = .ok (z.2.1, z.2.2) := List.forall_mem_cons.mpr ⟨ev_d_322_0, List.forall_mem_cons.mpr ⟨ev_d_322_1, fun _ h => absurd h List.not_mem_nil⟩⟩
def ev_c_323_0 : List (Nat × Instr × Nat) := [(0, .aload_n 0, 1), (1, .aload_n 0, 1), (2, .getfield 47, 3), (5, .iload_n 1, 1), (6, .invokestatic 330, 3), (9, .invokevirtual 314, 3), (12, .ifCond .ne 5, 3), (15, .iconst 0, 1), (16, .ireturn, 1), (17, .iconst 0, 1), (18, .istore_n 2, 1), (19, .iconst 0, 1), (20, .istore_n 3, 1), (21, .iload_n 3, 1), (22, .aload_n 0, 1), (23, .getfield 9, 3), (26, .bipush 10, 2), (28, .iaload, 1), (29, .if_icmp .ge 89, 3)]
set_option maxRecDepth 100000 in
theorem ev_d_323_0 : ∀ q ∈ ev_c_323_0, decode prog_10_method_123_code q.1 = .ok (q.2.1, q.2.2) := fd_rows (by decide +kernel)
def ev_c_323_1 : List (Nat × Instr × Nat) := [(32, .aload_n 0, 1), (33, .getfield 34, 3), (36, .iload_n 3, 1), (37, .iconst (-1), 1), (38, .iastore, 1), (39, .aload_n 0, 1), (40, .iload_n 3, 1), (41, .invokevirtual 249, 3), (44, .ifCond .eq 68, 3), (47, .aload_n 0, 1), (48, .iload_n 3, 1), (49, .iconst 3, 1), (50, .invokevirtual 227, 3), (53, .ifCond .eq 59, 3), (56, .aload_n 0, 1), (57, .iload_n 3, 1), (58, .iconst 2, 1), (59, .invokevirtual 227, 3), (62, .iload_n 1, 1), (63, .if_icmp .ge 6, 3)]
set_option maxRecDepth 100000 in
theorem ev_d_323_1 : ∀ q ∈ ev_c_323_1, decode prog_10_method_123_code q.1 = .ok (q.2.1, q.2.2) := fd_rows (by decide +kernel)
def ev_c_323_2 : List (Nat × Instr × Nat) := [(66, .goto 46, 3), (69, .iconst 0, 1), (70, .istore 4, 2), (72, .iload 4, 2), (74, .iload_n 2, 1), (75, .if_icmp .ge 20, 3), (78, .aload_n 0, 1), (79, .iload_n 3, 1), (80, .iload 4, 2), (82, .iload_n 1, 1), (83, .invokevirtual 395, 3), (86, .ifCond .ne 9, 3), (89, .iinc 4 1, 3), (92, .goto (-20), 3), (95, .aload_n 0, 1)]
set_option maxRecDepth 100000 in
theorem ev_d_323_2 : ∀ q ∈ ev_c_323_2, decode prog_10_method_123_code q.1 = .ok (q.2.1, q.2.2) := fd_rows (by decide +kernel)
def ev_c_323_3 : List (Nat × Instr × Nat) := [(96, .getfield 34, 3), (99, .iload_n 3, 1), (100, .iload 4, 2), (102, .iastore, 1), (103, .iload_n 2, 1), (104, .iload 4, 2), (106, .iconst 1, 1), (107, .iadd, 1), (108, .invokestatic 275, 3), (111, .istore_n 2, 1), (112, .iinc 3 1, 3), (115, .goto (-94), 3), (118, .iload_n 2, 1), (119, .ireturn, 1)]
set_option maxRecDepth 100000 in
theorem ev_d_323_3 : ∀ q ∈ ev_c_323_3, decode prog_10_method_123_code q.1 = .ok (q.2.1, q.2.2) := fd_rows (by decide +kernel)
def ev_c_323 : List (Nat × List (Nat × Instr × Nat)) := [(0, ev_c_323_0), (1, ev_c_323_1), (2, ev_c_323_2), (3, ev_c_323_3)]
set_option maxRecDepth 100000 in
theorem ev_d_323 : ∀ q ∈ ev_c_323, ∀ z ∈ q.2, decode prog_10_method_123_code z.1 = .ok (z.2.1, z.2.2) := List.forall_mem_cons.mpr ⟨ev_d_323_0, List.forall_mem_cons.mpr ⟨ev_d_323_1, List.forall_mem_cons.mpr ⟨ev_d_323_2, List.forall_mem_cons.mpr ⟨ev_d_323_3, fun _ h => absurd h List.not_mem_nil⟩⟩⟩⟩
def ev_c_324_0 : List (Nat × Instr × Nat) := [(0, .iconst 0, 1), (1, .istore_n 3, 1), (2, .iconst 0, 1), (3, .istore 4, 2), (5, .iload 4, 2), (7, .aload_n 0, 1), (8, .getfield 9, 3), (11, .bipush 10, 2), (13, .iaload, 1), (14, .if_icmp .ge 40, 3), (17, .iload_n 3, 1), (18, .aload_n 0, 1), (19, .iload 4, 2), (21, .invokevirtual 249, 3), (24, .ifCond .eq 18, 3), (27, .aload_n 0, 1), (28, .iload_n 1, 1), (29, .iload 4, 2), (31, .iload_n 2, 1)]
set_option maxRecDepth 100000 in
theorem ev_d_324_0 : ∀ q ∈ ev_c_324_0, decode prog_10_method_124_code q.1 = .ok (q.2.1, q.2.2) := fd_rows (by decide +kernel)
def ev_c_324_1 : List (Nat × Instr × Nat) := [(32, .invokevirtual 391, 3), (35, .ifCond .eq 7, 3), (38, .iconst 1, 1), (39, .goto 4, 3), (42, .iconst 0, 1), (43, .invokestatic 245, 3), (46, .iadd, 1), (47, .istore_n 3, 1), (48, .iinc 4 1, 3), (51, .goto (-46), 3), (54, .iload_n 3, 1), (55, .ireturn, 1)]
set_option maxRecDepth 100000 in
theorem ev_d_324_1 : ∀ q ∈ ev_c_324_1, decode prog_10_method_124_code q.1 = .ok (q.2.1, q.2.2) := fd_rows (by decide +kernel)
def ev_c_324 : List (Nat × List (Nat × Instr × Nat)) := [(0, ev_c_324_0), (1, ev_c_324_1)]
set_option maxRecDepth 100000 in
theorem ev_d_324 : ∀ q ∈ ev_c_324, ∀ z ∈ q.2, decode prog_10_method_124_code z.1 = .ok (z.2.1, z.2.2) := List.forall_mem_cons.mpr ⟨ev_d_324_0, List.forall_mem_cons.mpr ⟨ev_d_324_1, fun _ h => absurd h List.not_mem_nil⟩⟩
def ev_c_325_0 : List (Nat × Instr × Nat) := [(0, .aload_n 0, 1), (1, .aload_n 0, 1), (2, .getfield 47, 3), (5, .iload_n 1, 1), (6, .invokestatic 330, 3), (9, .invokevirtual 314, 3), (12, .ifCond .ne 5, 3), (15, .iconst 0, 1), (16, .ireturn, 1), (17, .iconst (-1), 1), (18, .istore_n 2, 1), (19, .iconst 0, 1), (20, .istore_n 3, 1), (21, .iload_n 3, 1), (22, .aload_n 0, 1), (23, .getfield 9, 3), (26, .bipush 10, 2), (28, .iaload, 1), (29, .if_icmp .ge 39, 3)]
set_option maxRecDepth 100000 in
theorem ev_d_325_0 : ∀ q ∈ ev_c_325_0, decode prog_10_method_125_code q.1 = .ok (q.2.1, q.2.2) := fd_rows (by decide +kernel)
def ev_c_325_1 : List (Nat × Instr × Nat) := [(32, .aload_n 0, 1), (33, .iload_n 3, 1), (34, .invokevirtual 249, 3), (37, .ifCond .eq 25, 3), (40, .iload_n 2, 1), (41, .iconst (-1), 1), (42, .if_icmp .eq 18, 3), (45, .aload_n 0, 1), (46, .iload_n 3, 1), (47, .iload_n 1, 1), (48, .invokevirtual 398, 3), (51, .aload_n 0, 1), (52, .iload_n 2, 1), (53, .iload_n 1, 1), (54, .invokevirtual 398, 3), (57, .if_icmp .ge 5, 3), (60, .iload_n 3, 1), (61, .istore_n 2, 1), (62, .iinc 3 1, 3)]
set_option maxRecDepth 100000 in
theorem ev_d_325_1 : ∀ q ∈ ev_c_325_1, decode prog_10_method_125_code q.1 = .ok (q.2.1, q.2.2) := fd_rows (by decide +kernel)
def ev_c_325_2 : List (Nat × Instr × Nat) := [(65, .goto (-44), 3), (68, .iload_n 2, 1), (69, .ireturn, 1)]
set_option maxRecDepth 100000 in
theorem ev_d_325_2 : ∀ q ∈ ev_c_325_2, decode prog_10_method_125_code q.1 = .ok (q.2.1, q.2.2) := fd_rows (by decide +kernel)
def ev_c_325 : List (Nat × List (Nat × Instr × Nat)) := [(0, ev_c_325_0), (1, ev_c_325_1), (2, ev_c_325_2)]
set_option maxRecDepth 100000 in
theorem ev_d_325 : ∀ q ∈ ev_c_325, ∀ z ∈ q.2, decode prog_10_method_125_code z.1 = .ok (z.2.1, z.2.2) := List.forall_mem_cons.mpr ⟨ev_d_325_0, List.forall_mem_cons.mpr ⟨ev_d_325_1, List.forall_mem_cons.mpr ⟨ev_d_325_2, fun _ h => absurd h List.not_mem_nil⟩⟩⟩
def ev_c_326_0 : List (Nat × Instr × Nat) := [(0, .aload_n 0, 1), (1, .iload_n 1, 1), (2, .invokevirtual 367, 3), (5, .ifCond .ne 5, 3), (8, .iconst 0, 1), (9, .ireturn, 1), (10, .iconst 1, 1), (11, .iconst 2, 1), (12, .aload_n 0, 1), (13, .iload_n 1, 1), (14, .iconst 2, 1), (15, .invokevirtual 227, 3), (18, .imul, 1), (19, .iadd, 1), (20, .istore_n 2, 1), (21, .aload_n 0, 1), (22, .iload_n 1, 1), (23, .iconst 3, 1), (24, .invokevirtual 227, 3), (27, .iload_n 2, 1), (28, .iadd, 1), (29, .iconst 1, 1), (30, .isub, 1), (31, .iload_n 2, 1)]
set_option maxRecDepth 100000 in
theorem ev_d_326_0 : ∀ q ∈ ev_c_326_0, decode prog_10_method_126_code q.1 = .ok (q.2.1, q.2.2) := fd_rows (by decide +kernel)
def ev_c_326_1 : List (Nat × Instr × Nat) := [(32, .idiv, 1), (33, .ireturn, 1)]
set_option maxRecDepth 100000 in
theorem ev_d_326_1 : ∀ q ∈ ev_c_326_1, decode prog_10_method_126_code q.1 = .ok (q.2.1, q.2.2) := fd_rows (by decide +kernel)
def ev_c_326 : List (Nat × List (Nat × Instr × Nat)) := [(0, ev_c_326_0), (1, ev_c_326_1)]
set_option maxRecDepth 100000 in
theorem ev_d_326 : ∀ q ∈ ev_c_326, ∀ z ∈ q.2, decode prog_10_method_126_code z.1 = .ok (z.2.1, z.2.2) := List.forall_mem_cons.mpr ⟨ev_d_326_0, List.forall_mem_cons.mpr ⟨ev_d_326_1, fun _ h => absurd h List.not_mem_nil⟩⟩
def ev_c_327_0 : List (Nat × Instr × Nat) := [(0, .iconst 0, 1), (1, .istore_n 2, 1), (2, .iload_n 2, 1), (3, .bipush 99, 2), (5, .if_icmp .gt 70, 3), (8, .aload_n 0, 1), (9, .iload_n 1, 1), (10, .invokevirtual 230, 3), (13, .iconst 2, 1), (14, .if_icmp .ne 61, 3), (17, .aload_n 0, 1), (18, .iload_n 1, 1), (19, .iconst 4, 1), (20, .invokevirtual 227, 3), (23, .ifCond .ne 5, 3), (26, .iload_n 2, 1), (27, .ireturn, 1), (28, .aload_n 0, 1), (29, .invokevirtual 296, 3)]
set_option maxRecDepth 100000 in
theorem ev_d_327_0 : ∀ q ∈ ev_c_327_0, decode prog_10_method_127_code q.1 = .ok (q.2.1, q.2.2) := fd_rows (by decide +kernel)
def ev_c_327_1 : List (Nat × Instr × Nat) := [(32, .aload_n 0, 1), (33, .iload_n 1, 1), (34, .iconst 4, 1), (35, .invokevirtual 227, 3), (38, .ifCond .ne 17, 3), (41, .iload_n 2, 1), (42, .bipush 99, 2), (44, .if_icmp .ge 9, 3), (47, .iload_n 2, 1), (48, .iconst 1, 1), (49, .iadd, 1), (50, .goto 4, 3), (53, .iconst (-1), 1), (54, .ireturn, 1), (55, .aload_n 0, 1), (56, .invokevirtual 299, 3), (59, .aload_n 0, 1), (60, .getfield 9, 3), (63, .iconst 0, 1)]
set_option maxRecDepth 100000 in
theorem ev_d_327_1 : ∀ q ∈ ev_c_327_1, decode prog_10_method_127_code q.1 = .ok (q.2.1, q.2.2) := fd_rows (by decide +kernel)
def ev_c_327_2 : List (Nat × Instr × Nat) := [(64, .dup2, 1), (65, .iaload, 1), (66, .iconst 1, 1), (67, .iadd, 1), (68, .iastore, 1), (69, .iinc 2 1, 3), (72, .goto (-70), 3), (75, .iconst (-1), 1), (76, .ireturn, 1)]
set_option maxRecDepth 100000 in
theorem ev_d_327_2 : ∀ q ∈ ev_c_327_2, decode prog_10_method_127_code q.1 = .ok (q.2.1, q.2.2) := fd_rows (by decide +kernel)
def ev_c_327 : List (Nat × List (Nat × Instr × Nat)) := [(0, ev_c_327_0), (1, ev_c_327_1), (2, ev_c_327_2)]
set_option maxRecDepth 100000 in
theorem ev_d_327 : ∀ q ∈ ev_c_327, ∀ z ∈ q.2, decode prog_10_method_127_code z.1 = .ok (z.2.1, z.2.2) := List.forall_mem_cons.mpr ⟨ev_d_327_0, List.forall_mem_cons.mpr ⟨ev_d_327_1, List.forall_mem_cons.mpr ⟨ev_d_327_2, fun _ h => absurd h List.not_mem_nil⟩⟩⟩
def ev_c_328_0 : List (Nat × Instr × Nat) := [(0, .aload_n 0, 1), (1, .iload_n 1, 1), (2, .invokevirtual 367, 3), (5, .ifCond .ne 5, 3), (8, .iconst 0, 1), (9, .ireturn, 1), (10, .aload_n 0, 1), (11, .invokevirtual 215, 3), (14, .aload_n 0, 1), (15, .aload_n 0, 1), (16, .iload_n 1, 1), (17, .invokevirtual 401, 3), (20, .invokevirtual 221, 3), (23, .ireturn, 1)]
set_option maxRecDepth 100000 in
theorem ev_d_328_0 : ∀ q ∈ ev_c_328_0, decode prog_10_method_128_code q.1 = .ok (q.2.1, q.2.2) := fd_rows (by decide +kernel)
def ev_c_328 : List (Nat × List (Nat × Instr × Nat)) := [(0, ev_c_328_0)]
set_option maxRecDepth 100000 in
theorem ev_d_328 : ∀ q ∈ ev_c_328, ∀ z ∈ q.2, decode prog_10_method_128_code z.1 = .ok (z.2.1, z.2.2) := List.forall_mem_cons.mpr ⟨ev_d_328_0, fun _ h => absurd h List.not_mem_nil⟩
def ev_c_329_0 : List (Nat × Instr × Nat) := [(0, .iload_n 0, 1), (1, .iconst 0, 1), (2, .bipush 9, 2), (4, .invokestatic 68, 3), (7, .ireturn, 1)]
set_option maxRecDepth 100000 in
theorem ev_d_329_0 : ∀ q ∈ ev_c_329_0, decode prog_10_method_129_code q.1 = .ok (q.2.1, q.2.2) := fd_rows (by decide +kernel)
def ev_c_329 : List (Nat × List (Nat × Instr × Nat)) := [(0, ev_c_329_0)]
set_option maxRecDepth 100000 in
theorem ev_d_329 : ∀ q ∈ ev_c_329, ∀ z ∈ q.2, decode prog_10_method_129_code z.1 = .ok (z.2.1, z.2.2) := List.forall_mem_cons.mpr ⟨ev_d_329_0, fun _ h => absurd h List.not_mem_nil⟩
def ev_c_330_0 : List (Nat × Instr × Nat) := [(0, .aload_n 0, 1), (1, .aload_n 0, 1), (2, .getfield 47, 3), (5, .aload_n 0, 1), (6, .iload_n 1, 1), (7, .invokevirtual 324, 3), (10, .iload_n 2, 1), (11, .invokestatic 404, 3), (14, .invokevirtual 43, 3), (17, .ifCond .ne 5, 3), (20, .iconst 0, 1), (21, .ireturn, 1), (22, .aload_n 0, 1), (23, .invokevirtual 215, 3), (26, .aload_n 0, 1), (27, .getfield 9, 3), (30, .iconst 1, 1), (31, .iload_n 2, 1)]
set_option maxRecDepth 100000 in
theorem ev_d_330_0 : ∀ q ∈ ev_c_330_0, decode prog_10_method_130_code q.1 = .ok (q.2.1, q.2.2) := fd_rows (by decide +kernel)
def ev_c_330_1 : List (Nat × Instr × Nat) := [(32, .iastore, 1), (33, .aload_n 0, 1), (34, .aload_n 0, 1), (35, .iload_n 1, 1), (36, .invokevirtual 401, 3), (39, .invokevirtual 221, 3), (42, .ireturn, 1)]
set_option maxRecDepth 100000 in
theorem ev_d_330_1 : ∀ q ∈ ev_c_330_1, decode prog_10_method_130_code q.1 = .ok (q.2.1, q.2.2) := fd_rows (by decide +kernel)
def ev_c_330 : List (Nat × List (Nat × Instr × Nat)) := [(0, ev_c_330_0), (1, ev_c_330_1)]
set_option maxRecDepth 100000 in
theorem ev_d_330 : ∀ q ∈ ev_c_330, ∀ z ∈ q.2, decode prog_10_method_130_code z.1 = .ok (z.2.1, z.2.2) := List.forall_mem_cons.mpr ⟨ev_d_330_0, List.forall_mem_cons.mpr ⟨ev_d_330_1, fun _ h => absurd h List.not_mem_nil⟩⟩
def ev_c_331_0 : List (Nat × Instr × Nat) := [(0, .aload_n 0, 1), (1, .aload_n 0, 1), (2, .getfield 47, 3), (5, .iload_n 1, 1), (6, .iconst 0, 1), (7, .bipush 99, 2), (9, .invokestatic 68, 3), (12, .invokevirtual 314, 3), (15, .ifCond .ne 5, 3), (18, .iconst 0, 1), (19, .ireturn, 1), (20, .aload_n 0, 1), (21, .getfield 9, 3), (24, .iconst 5, 1), (25, .iaload, 1), (26, .istore_n 2, 1), (27, .aload_n 0, 1), (28, .invokevirtual 215, 3), (31, .iconst 0, 1)]
set_option maxRecDepth 100000 in
theorem ev_d_331_0 : ∀ q ∈ ev_c_331_0, decode prog_10_method_131_code q.1 = .ok (q.2.1, q.2.2) := fd_rows (by decide +kernel)
def ev_c_331_1 : List (Nat × Instr × Nat) := [(32, .istore_n 3, 1), (33, .iload_n 3, 1), (34, .iload_n 1, 1), (35, .if_icmp .ge 13, 3), (38, .aload_n 0, 1), (39, .invokevirtual 155, 3), (42, .iinc 3 1, 3), (45, .goto (-12), 3), (48, .aload_n 0, 1), (49, .aload_n 0, 1), (50, .getfield 9, 3), (53, .iconst 5, 1), (54, .iaload, 1), (55, .iload_n 2, 1), (56, .isub, 1), (57, .invokevirtual 221, 3), (60, .ireturn, 1)]
set_option maxRecDepth 100000 in
theorem ev_d_331_1 : ∀ q ∈ ev_c_331_1, decode prog_10_method_131_code q.1 = .ok (q.2.1, q.2.2) := fd_rows (by decide +kernel)
def ev_c_331 : List (Nat × List (Nat × Instr × Nat)) := [(0, ev_c_331_0), (1, ev_c_331_1)]
set_option maxRecDepth 100000 in
theorem ev_d_331 : ∀ q ∈ ev_c_331, ∀ z ∈ q.2, decode prog_10_method_131_code z.1 = .ok (z.2.1, z.2.2) := List.forall_mem_cons.mpr ⟨ev_d_331_0, List.forall_mem_cons.mpr ⟨ev_d_331_1, fun _ h => absurd h List.not_mem_nil⟩⟩
def ev_c_332_0 : List (Nat × Instr × Nat) := [(0, .aload_n 0, 1), (1, .iload_n 1, 1), (2, .invokevirtual 345, 3), (5, .ifCond .eq 7, 3), (8, .iconst 0, 1), (9, .goto 16, 3), (12, .aload_n 0, 1), (13, .iload_n 1, 1), (14, .aload_n 0, 1), (15, .getfield 9, 3), (18, .iconst 0, 1), (19, .iaload, 1), (20, .iload_n 2, 1), (21, .iadd, 1), (22, .invokevirtual 407, 3), (25, .ireturn, 1)]
set_option maxRecDepth 100000 in
theorem ev_d_332_0 : ∀ q ∈ ev_c_332_0, decode prog_10_method_132_code q.1 = .ok (q.2.1, q.2.2) := fd_rows (by decide +kernel)
def ev_c_332 : List (Nat × List (Nat × Instr × Nat)) := [(0, ev_c_332_0)]
set_option maxRecDepth 100000 in
theorem ev_d_332 : ∀ q ∈ ev_c_332, ∀ z ∈ q.2, decode prog_10_method_132_code z.1 = .ok (z.2.1, z.2.2) := List.forall_mem_cons.mpr ⟨ev_d_332_0, fun _ h => absurd h List.not_mem_nil⟩
def ev_c_333_0 : List (Nat × Instr × Nat) := [(0, .aload_n 0, 1), (1, .aload_n 0, 1), (2, .getfield 47, 3), (5, .aload_n 0, 1), (6, .iload_n 1, 1), (7, .invokevirtual 339, 3), (10, .iload_n 2, 1), (11, .iconst 0, 1), (12, .bipush 99, 2), (14, .invokestatic 68, 3), (17, .invokevirtual 43, 3), (20, .ifCond .eq 12, 3), (23, .aload_n 0, 1), (24, .iload_n 1, 1), (25, .iload_n 2, 1), (26, .invokevirtual 410, 3), (29, .goto 4, 3)]
set_option maxRecDepth 100000 in
theorem ev_d_333_0 : ∀ q ∈ ev_c_333_0, decode prog_10_method_133_code q.1 = .ok (q.2.1, q.2.2) := fd_rows (by decide +kernel)
def ev_c_333_1 : List (Nat × Instr × Nat) := [(32, .iconst 0, 1), (33, .ireturn, 1)]
set_option maxRecDepth 100000 in
theorem ev_d_333_1 : ∀ q ∈ ev_c_333_1, decode prog_10_method_133_code q.1 = .ok (q.2.1, q.2.2) := fd_rows (by decide +kernel)
def ev_c_333 : List (Nat × List (Nat × Instr × Nat)) := [(0, ev_c_333_0), (1, ev_c_333_1)]
set_option maxRecDepth 100000 in
theorem ev_d_333 : ∀ q ∈ ev_c_333, ∀ z ∈ q.2, decode prog_10_method_133_code z.1 = .ok (z.2.1, z.2.2) := List.forall_mem_cons.mpr ⟨ev_d_333_0, List.forall_mem_cons.mpr ⟨ev_d_333_1, fun _ h => absurd h List.not_mem_nil⟩⟩
def ev_c_334_0 : List (Nat × Instr × Nat) := [(0, .aload_n 0, 1), (1, .iload_n 1, 1), (2, .invokevirtual 345, 3), (5, .ifCond .ne 11, 3), (8, .aload_n 0, 1), (9, .iload_n 1, 1), (10, .invokevirtual 305, 3), (13, .ifCond .ne 5, 3), (16, .iconst (-1), 1), (17, .ireturn, 1), (18, .aload_n 0, 1), (19, .iload_n 1, 1), (20, .iconst 2, 1), (21, .invokevirtual 302, 3), (24, .ifCond .ne 7, 3), (27, .sipush 999, 3), (30, .ireturn, 1), (31, .aload_n 0, 1)]
set_option maxRecDepth 100000 in
theorem ev_d_334_0 : ∀ q ∈ ev_c_334_0, decode prog_10_method_134_code q.1 = .ok (q.2.1, q.2.2) := fd_rows (by decide +kernel)
def ev_c_334_1 : List (Nat × Instr × Nat) := [(32, .iload_n 1, 1), (33, .iconst 0, 1), (34, .invokevirtual 302, 3), (37, .aload_n 0, 1), (38, .iload_n 1, 1), (39, .iconst 1, 1), (40, .invokevirtual 302, 3), (43, .iconst 1, 1), (44, .isub, 1), (45, .aload_n 0, 1), (46, .iload_n 1, 1), (47, .iconst 2, 1), (48, .invokevirtual 302, 3), (51, .idiv, 1), (52, .iadd, 1), (53, .istore_n 2, 1), (54, .iload_n 2, 1), (55, .aload_n 0, 1), (56, .getfield 9, 3), (59, .iconst 0, 1), (60, .iaload, 1), (61, .if_icmp .ge 7, 3)]
set_option maxRecDepth 100000 in
theorem ev_d_334_1 : ∀ q ∈ ev_c_334_1, decode prog_10_method_134_code q.1 = .ok (q.2.1, q.2.2) := fd_rows (by decide +kernel)
def ev_c_334_2 : List (Nat × Instr × Nat) := [(64, .iconst (-1), 1), (65, .goto 4, 3), (68, .iload_n 2, 1), (69, .ireturn, 1)]
set_option maxRecDepth 100000 in
theorem ev_d_334_2 : ∀ q ∈ ev_c_334_2, decode prog_10_method_134_code q.1 = .ok (q.2.1, q.2.2) := fd_rows (by decide +kernel)
def ev_c_334 : List (Nat × List (Nat × Instr × Nat)) := [(0, ev_c_334_0), (1, ev_c_334_1), (2, ev_c_334_2)]
set_option maxRecDepth 100000 in
theorem ev_d_334 : ∀ q ∈ ev_c_334, ∀ z ∈ q.2, decode prog_10_method_134_code z.1 = .ok (z.2.1, z.2.2) := List.forall_mem_cons.mpr ⟨ev_d_334_0, List.forall_mem_cons.mpr ⟨ev_d_334_1, List.forall_mem_cons.mpr ⟨ev_d_334_2, fun _ h => absurd h List.not_mem_nil⟩⟩⟩
def ev_c_335_0 : List (Nat × Instr × Nat) := [(0, .aload_n 0, 1), (1, .aload_n 0, 1), (2, .getfield 47, 3), (5, .aload_n 0, 1), (6, .iload_n 1, 1), (7, .invokevirtual 339, 3), (10, .invokevirtual 314, 3), (13, .ifCond .eq 11, 3), (16, .aload_n 0, 1), (17, .iload_n 1, 1), (18, .invokevirtual 413, 3), (21, .goto 4, 3), (24, .iconst 0, 1), (25, .ireturn, 1)]
set_option maxRecDepth 100000 in
theorem ev_d_335_0 : ∀ q ∈ ev_c_335_0, decode prog_10_method_135_code q.1 = .ok (q.2.1, q.2.2) := fd_rows (by decide +kernel)
def ev_c_335 : List (Nat × List (Nat × Instr × Nat)) := [(0, ev_c_335_0)]
set_option maxRecDepth 100000 in
theorem ev_d_335 : ∀ q ∈ ev_c_335, ∀ z ∈ q.2, decode prog_10_method_135_code z.1 = .ok (z.2.1, z.2.2) := List.forall_mem_cons.mpr ⟨ev_d_335_0, fun _ h => absurd h List.not_mem_nil⟩
def ev_c_336_0 : List (Nat × Instr × Nat) := [(0, .aload_n 0, 1), (1, .invokevirtual 360, 3), (4, .ifCond .ne 5, 3), (7, .iconst 0, 1), (8, .ireturn, 1), (9, .iconst (-1), 1), (10, .istore_n 1, 1), (11, .iconst 0, 1), (12, .istore_n 2, 1), (13, .iconst 0, 1), (14, .istore_n 3, 1), (15, .iload_n 3, 1), (16, .aload_n 0, 1), (17, .getfield 9, 3), (20, .bipush 7, 2), (22, .iaload, 1), (23, .if_icmp .ge 38, 3), (26, .aload_n 0, 1), (27, .iload_n 3, 1), (28, .iconst 0, 1), (29, .invokevirtual 410, 3)]
set_option maxRecDepth 100000 in
theorem ev_d_336_0 : ∀ q ∈ ev_c_336_0, decode prog_10_method_136_code q.1 = .ok (q.2.1, q.2.2) := fd_rows (by decide +kernel)
def ev_c_336_1 : List (Nat × Instr × Nat) := [(32, .aload_n 0, 1), (33, .iload_n 3, 1), (34, .iconst 1, 1), (35, .invokevirtual 410, 3), (38, .isub, 1), (39, .istore 4, 2), (41, .iload 4, 2), (43, .iload_n 2, 1), (44, .if_icmp .gt 6, 3), (47, .goto 8, 3), (50, .iload 4, 2), (52, .istore_n 2, 1), (53, .iload_n 3, 1), (54, .istore_n 1, 1), (55, .iinc 3 1, 3), (58, .goto (-43), 3), (61, .iload_n 1, 1), (62, .ireturn, 1)]
set_option maxRecDepth 100000 in
theorem ev_d_336_1 : ∀ q ∈ ev_c_336_1, decode prog_10_method_136_code q.1 = .ok (q.2.1, q.2.2) := fd_rows (by decide +kernel)
def ev_c_336 : List (Nat × List (Nat × Instr × Nat)) := [(0, ev_c_336_0), (1, ev_c_336_1)]
set_option maxRecDepth 100000 in
theorem ev_d_336 : ∀ q ∈ ev_c_336, ∀ z ∈ q.2, decode prog_10_method_136_code z.1 = .ok (z.2.1, z.2.2) := List.forall_mem_cons.mpr ⟨ev_d_336_0, List.forall_mem_cons.mpr ⟨ev_d_336_1, fun _ h => absurd h List.not_mem_nil⟩⟩
