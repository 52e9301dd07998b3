/-! code, by wip/gen/gen.py -/
def ev_c_0_0 : List (Nat × Instr × Nat) := [(0, .aload_n 0, 1), (1, .invokespecial 3, 3), (4, .return_, 1)]
set_option maxRecDepth 100000 in
theorem ev_d_0_0 : ∀ q ∈ ev_c_0_0, decode prog_2_method_1_code q.1 = .ok (q.2.1, q.2.2) := fd_rows (by decide +kernel)
def ev_c_0 : List (Nat × List (Nat × Instr × Nat)) := [(0, ev_c_0_0)]
set_option maxRecDepth 100000 in
theorem ev_d_0 : ∀ q ∈ ev_c_0, ∀ z ∈ q.2, decode prog_2_method_1_code z.1 = .ok (z.2.1, z.2.2) := List.forall_mem_cons.mpr ⟨ev_d_0_0, fun _ h => absurd h List.not_mem_nil⟩
def ev_c_1_0 : List (Nat × Instr × Nat) := [(0, .aload_n 0, 1), (1, .iload_n 1, 1), (2, .putfield 9, 3), (5, .aload_n 0, 1), (6, .iload_n 2, 1), (7, .putfield 15, 3), (10, .aload_n 0, 1), (11, .iload_n 3, 1), (12, .putfield 18, 3), (15, .aload_n 0, 1), (16, .iload 4, 2), (18, .putfield 21, 3), (21, .aload_n 0, 1), (22, .iconst 0, 1), (23, .putfield 24, 3), (26, .aload_n 0, 1), (27, .iconst 0, 1), (28, .putfield 27, 3), (31, .aload_n 0, 1)]
set_option maxRecDepth 100000 in
theorem ev_d_1_0 : ∀ q ∈ ev_c_1_0, decode prog_2_method_2_code q.1 = .ok (q.2.1, q.2.2) := fd_rows (by decide +kernel)
def ev_c_1_1 : List (Nat × Instr × Nat) := [(32, .iconst 0, 1), (33, .putfield 30, 3), (36, .aload_n 0, 1), (37, .iconst 0, 1), (38, .putfield 33, 3), (41, .aload_n 0, 1), (42, .iconst 0, 1), (43, .iconst (-1), 1), (44, .invokevirtual 36, 3), (47, .return_, 1)]
set_option maxRecDepth 100000 in
theorem ev_d_1_1 : ∀ q ∈ ev_c_1_1, decode prog_2_method_2_code q.1 = .ok (q.2.1, q.2.2) := fd_rows (by decide +kernel)
def ev_c_1 : List (Nat × List (Nat × Instr × Nat)) := [(0, ev_c_1_0), (1, ev_c_1_1)]
set_option maxRecDepth 100000 in
theorem ev_d_1 : ∀ q ∈ ev_c_1, ∀ z ∈ q.2, decode prog_2_method_2_code z.1 = .ok (z.2.1, z.2.2) := List.forall_mem_cons.mpr ⟨ev_d_1_0, List.forall_mem_cons.mpr ⟨ev_d_1_1, fun _ h => absurd h List.not_mem_nil⟩⟩
def ev_c_2_0 : List (Nat × Instr × Nat) := [(0, .aload_n 0, 1), (1, .aload_n 1, 1), (2, .getfield 9, 3), (5, .putfield 9, 3), (8, .aload_n 0, 1), (9, .aload_n 1, 1), (10, .getfield 15, 3), (13, .putfield 15, 3), (16, .aload_n 0, 1), (17, .aload_n 1, 1), (18, .getfield 18, 3), (21, .putfield 18, 3), (24, .aload_n 0, 1), (25, .aload_n 1, 1), (26, .getfield 21, 3), (29, .putfield 21, 3)]
set_option maxRecDepth 100000 in
theorem ev_d_2_0 : ∀ q ∈ ev_c_2_0, decode prog_2_method_3_code q.1 = .ok (q.2.1, q.2.2) := fd_rows (by decide +kernel)
def ev_c_2_1 : List (Nat × Instr × Nat) := [(32, .aload_n 0, 1), (33, .aload_n 1, 1), (34, .getfield 24, 3), (37, .putfield 24, 3), (40, .aload_n 0, 1), (41, .aload_n 1, 1), (42, .getfield 27, 3), (45, .putfield 27, 3), (48, .aload_n 0, 1), (49, .aload_n 1, 1), (50, .getfield 30, 3), (53, .putfield 30, 3), (56, .aload_n 0, 1), (57, .aload_n 1, 1), (58, .getfield 33, 3), (61, .putfield 33, 3)]
set_option maxRecDepth 100000 in
theorem ev_d_2_1 : ∀ q ∈ ev_c_2_1, decode prog_2_method_3_code q.1 = .ok (q.2.1, q.2.2) := fd_rows (by decide +kernel)
def ev_c_2_2 : List (Nat × Instr × Nat) := [(64, .aload_n 0, 1), (65, .aload_n 1, 1), (66, .getfield 40, 3), (69, .putfield 40, 3), (72, .aload_n 0, 1), (73, .aload_n 1, 1), (74, .getfield 43, 3), (77, .putfield 43, 3), (80, .return_, 1)]
set_option maxRecDepth 100000 in
theorem ev_d_2_2 : ∀ q ∈ ev_c_2_2, decode prog_2_method_3_code q.1 = .ok (q.2.1, q.2.2) := fd_rows (by decide +kernel)
def ev_c_2 : List (Nat × List (Nat × Instr × Nat)) := [(0, ev_c_2_0), (1, ev_c_2_1), (2, ev_c_2_2)]
set_option maxRecDepth 100000 in
theorem ev_d_2 : ∀ q ∈ ev_c_2, ∀ z ∈ q.2, decode prog_2_method_3_code z.1 = .ok (z.2.1, z.2.2) := List.forall_mem_cons.mpr ⟨ev_d_2_0, List.forall_mem_cons.mpr ⟨ev_d_2_1, List.forall_mem_cons.mpr ⟨ev_d_2_2, fun _ h => absurd h List.not_mem_nil⟩⟩⟩
def ev_c_3_0 : List (Nat × Instr × Nat) := [(0, .aload_n 0, 1), (1, .iload_n 1, 1), (2, .putfield 40, 3), (5, .aload_n 0, 1), (6, .iload_n 2, 1), (7, .putfield 43, 3), (10, .return_, 1)]
set_option maxRecDepth 100000 in
theorem ev_d_3_0 : ∀ q ∈ ev_c_3_0, decode prog_2_method_4_code q.1 = .ok (q.2.1, q.2.2) := fd_rows (by decide +kernel)
def ev_c_3 : List (Nat × List (Nat × Instr × Nat)) := [(0, ev_c_3_0)]
set_option maxRecDepth 100000 in
theorem ev_d_3 : ∀ q ∈ ev_c_3, ∀ z ∈ q.2, decode prog_2_method_4_code z.1 = .ok (z.2.1, z.2.2) := List.forall_mem_cons.mpr ⟨ev_d_3_0, fun _ h => absurd h List.not_mem_nil⟩
def ev_c_4_0 : List (Nat × Instr × Nat) := [(0, .aload_n 0, 1), (1, .getfield 40, 3), (4, .iconst 3, 1), (5, .if_icmp .ne 7, 3), (8, .iconst 2, 1), (9, .goto 4, 3), (12, .iconst 0, 1), (13, .aload_n 0, 1), (14, .getfield 40, 3), (17, .iconst 1, 1), (18, .if_icmp .ne 7, 3), (21, .iconst 4, 1), (22, .goto 4, 3), (25, .iconst 0, 1), (26, .ior, 1), (27, .aload_n 0, 1), (28, .getfield 40, 3), (31, .iconst 2, 1)]
set_option maxRecDepth 100000 in
theorem ev_d_4_0 : ∀ q ∈ ev_c_4_0, decode prog_2_method_5_code q.1 = .ok (q.2.1, q.2.2) := fd_rows (by decide +kernel)
def ev_c_4_1 : List (Nat × Instr × Nat) := [(32, .if_icmp .ne 8, 3), (35, .bipush 8, 2), (37, .goto 4, 3), (40, .iconst 0, 1), (41, .ior, 1), (42, .aload_n 0, 1), (43, .getfield 21, 3), (46, .ifCond .le 8, 3), (49, .bipush 16, 2), (51, .goto 4, 3), (54, .iconst 0, 1), (55, .ior, 1), (56, .aload_n 0, 1), (57, .getfield 30, 3), (60, .ifCond .eq 8, 3), (63, .bipush 32, 2)]
set_option maxRecDepth 100000 in
theorem ev_d_4_1 : ∀ q ∈ ev_c_4_1, decode prog_2_method_5_code q.1 = .ok (q.2.1, q.2.2) := fd_rows (by decide +kernel)
def ev_c_4_2 : List (Nat × Instr × Nat) := [(65, .goto 4, 3), (68, .iconst 0, 1), (69, .ior, 1), (70, .aload_n 0, 1), (71, .getfield 24, 3), (74, .ifCond .le 8, 3), (77, .bipush 64, 2), (79, .goto 4, 3), (82, .iconst 0, 1), (83, .ior, 1), (84, .aload_n 0, 1), (85, .getfield 27, 3), (88, .ifCond .le 9, 3), (91, .sipush 128, 3), (94, .goto 4, 3)]
set_option maxRecDepth 100000 in
theorem ev_d_4_2 : ∀ q ∈ ev_c_4_2, decode prog_2_method_5_code q.1 = .ok (q.2.1, q.2.2) := fd_rows (by decide +kernel)
def ev_c_4_3 : List (Nat × Instr × Nat) := [(97, .iconst 0, 1), (98, .ior, 1), (99, .ireturn, 1)]
set_option maxRecDepth 100000 in
theorem ev_d_4_3 : ∀ q ∈ ev_c_4_3, decode prog_2_method_5_code q.1 = .ok (q.2.1, q.2.2) := fd_rows (by decide +kernel)
def ev_c_4 : List (Nat × List (Nat × Instr × Nat)) := [(0, ev_c_4_0), (1, ev_c_4_1), (2, ev_c_4_2), (3, ev_c_4_3)]
set_option maxRecDepth 100000 in
theorem ev_d_4 : ∀ q ∈ ev_c_4, ∀ z ∈ q.2, decode prog_2_method_5_code z.1 = .ok (z.2.1, z.2.2) := List.forall_mem_cons.mpr ⟨ev_d_4_0, List.forall_mem_cons.mpr ⟨ev_d_4_1, List.forall_mem_cons.mpr ⟨ev_d_4_2, List.forall_mem_cons.mpr ⟨ev_d_4_3, fun _ h => absurd h List.not_mem_nil⟩⟩⟩⟩
def ev_c_5_0 : List (Nat × Instr × Nat) := [(0, .aload_n 0, 1), (1, .invokevirtual 46, 3), (4, .istore_n 1, 1), (5, .iconst 1, 1), (6, .istore_n 2, 1), (7, .iload_n 2, 1), (8, .bipush 7, 2), (10, .if_icmp .gt 19, 3), (13, .iload_n 1, 1), (14, .iload_n 2, 1), (15, .ishr, 1), (16, .iconst 1, 1), (17, .iand, 1), (18, .ifCond .eq 5, 3), (21, .iload_n 2, 1), (22, .ireturn, 1), (23, .iinc 2 1, 3), (26, .goto (-19), 3), (29, .iconst 0, 1), (30, .ireturn, 1)]
set_option maxRecDepth 100000 in
theorem ev_d_5_0 : ∀ q ∈ ev_c_5_0, decode prog_2_method_6_code q.1 = .ok (q.2.1, q.2.2) := fd_rows (by decide +kernel)
def ev_c_5 : List (Nat × List (Nat × Instr × Nat)) := [(0, ev_c_5_0)]
set_option maxRecDepth 100000 in
theorem ev_d_5 : ∀ q ∈ ev_c_5, ∀ z ∈ q.2, decode prog_2_method_6_code z.1 = .ok (z.2.1, z.2.2) := List.forall_mem_cons.mpr ⟨ev_d_5_0, fun _ h => absurd h List.not_mem_nil⟩
def ev_c_6_0 : List (Nat × Instr × Nat) := [(0, .aload_n 0, 1), (1, .invokevirtual 46, 3), (4, .ifCond .ne 7, 3), (7, .iconst 1, 1), (8, .goto 4, 3), (11, .iconst 0, 1), (12, .ireturn, 1)]
set_option maxRecDepth 100000 in
theorem ev_d_6_0 : ∀ q ∈ ev_c_6_0, decode prog_2_method_7_code q.1 = .ok (q.2.1, q.2.2) := fd_rows (by decide +kernel)
def ev_c_6 : List (Nat × List (Nat × Instr × Nat)) := [(0, ev_c_6_0)]
set_option maxRecDepth 100000 in
theorem ev_d_6 : ∀ q ∈ ev_c_6, ∀ z ∈ q.2, decode prog_2_method_7_code z.1 = .ok (z.2.1, z.2.2) := List.forall_mem_cons.mpr ⟨ev_d_6_0, fun _ h => absurd h List.not_mem_nil⟩
def ev_c_7_0 : List (Nat × Instr × Nat) := [(0, .iload_n 1, 1), (1, .aload_n 0, 1), (2, .getfield 18, 3), (5, .if_icmp .gt 7, 3), (8, .iconst 1, 1), (9, .goto 4, 3), (12, .iconst 0, 1), (13, .ireturn, 1)]
set_option maxRecDepth 100000 in
theorem ev_d_7_0 : ∀ q ∈ ev_c_7_0, decode prog_2_method_8_code q.1 = .ok (q.2.1, q.2.2) := fd_rows (by decide +kernel)
def ev_c_7 : List (Nat × List (Nat × Instr × Nat)) := [(0, ev_c_7_0)]
set_option maxRecDepth 100000 in
theorem ev_d_7 : ∀ q ∈ ev_c_7, ∀ z ∈ q.2, decode prog_2_method_8_code z.1 = .ok (z.2.1, z.2.2) := List.forall_mem_cons.mpr ⟨ev_d_7_0, fun _ h => absurd h List.not_mem_nil⟩
def ev_c_8_0 : List (Nat × Instr × Nat) := [(0, .aload_n 0, 1), (1, .getfield 40, 3), (4, .ifCond .eq 5, 3), (7, .iconst 1, 1), (8, .ireturn, 1), (9, .aload_n 0, 1), (10, .iload_n 1, 1), (11, .invokevirtual 50, 3), (14, .ifCond .ne 5, 3), (17, .iconst 2, 1), (18, .ireturn, 1), (19, .aload_n 0, 1), (20, .getfield 24, 3), (23, .iconst 3, 1), (24, .if_icmp .le 5, 3), (27, .iconst 3, 1), (28, .ireturn, 1), (29, .aload_n 0, 1), (30, .getfield 30, 3)]
set_option maxRecDepth 100000 in
theorem ev_d_8_0 : ∀ q ∈ ev_c_8_0, decode prog_2_method_9_code q.1 = .ok (q.2.1, q.2.2) := fd_rows (by decide +kernel)
def ev_c_8_1 : List (Nat × Instr × Nat) := [(33, .ifCond .eq 7, 3), (36, .iconst 4, 1), (37, .goto 4, 3), (40, .iconst 0, 1), (41, .ireturn, 1)]
set_option maxRecDepth 100000 in
theorem ev_d_8_1 : ∀ q ∈ ev_c_8_1, decode prog_2_method_9_code q.1 = .ok (q.2.1, q.2.2) := fd_rows (by decide +kernel)
def ev_c_8 : List (Nat × List (Nat × Instr × Nat)) := [(0, ev_c_8_0), (1, ev_c_8_1)]
set_option maxRecDepth 100000 in
theorem ev_d_8 : ∀ q ∈ ev_c_8, ∀ z ∈ q.2, decode prog_2_method_9_code z.1 = .ok (z.2.1, z.2.2) := List.forall_mem_cons.mpr ⟨ev_d_8_0, List.forall_mem_cons.mpr ⟨ev_d_8_1, fun _ h => absurd h List.not_mem_nil⟩⟩
def ev_c_9_0 : List (Nat × Instr × Nat) := [(0, .aload_n 0, 1), (1, .getfield 40, 3), (4, .ifCond .eq 5, 3), (7, .iconst 1, 1), (8, .ireturn, 1), (9, .aload_n 0, 1), (10, .getfield 30, 3), (13, .ifCond .ne 5, 3), (16, .iconst 2, 1), (17, .ireturn, 1), (18, .aload_n 0, 1), (19, .getfield 33, 3), (22, .iconst 2, 1), (23, .if_icmp .lt 7, 3), (26, .iconst 3, 1), (27, .goto 4, 3), (30, .iconst 0, 1), (31, .ireturn, 1)]
set_option maxRecDepth 100000 in
theorem ev_d_9_0 : ∀ q ∈ ev_c_9_0, decode prog_2_method_10_code q.1 = .ok (q.2.1, q.2.2) := fd_rows (by decide +kernel)
def ev_c_9 : List (Nat × List (Nat × Instr × Nat)) := [(0, ev_c_9_0)]
set_option maxRecDepth 100000 in
theorem ev_d_9 : ∀ q ∈ ev_c_9, ∀ z ∈ q.2, decode prog_2_method_10_code z.1 = .ok (z.2.1, z.2.2) := List.forall_mem_cons.mpr ⟨ev_d_9_0, fun _ h => absurd h List.not_mem_nil⟩
def ev_c_10_0 : List (Nat × Instr × Nat) := [(0, .aload_n 0, 1), (1, .getfield 15, 3), (4, .aload_n 0, 1), (5, .getfield 30, 3), (8, .ior, 1), (9, .ireturn, 1)]
set_option maxRecDepth 100000 in
theorem ev_d_10_0 : ∀ q ∈ ev_c_10_0, decode prog_2_method_11_code q.1 = .ok (q.2.1, q.2.2) := fd_rows (by decide +kernel)
def ev_c_10 : List (Nat × List (Nat × Instr × Nat)) := [(0, ev_c_10_0)]
set_option maxRecDepth 100000 in
theorem ev_d_10 : ∀ q ∈ ev_c_10, ∀ z ∈ q.2, decode prog_2_method_11_code z.1 = .ok (z.2.1, z.2.2) := List.forall_mem_cons.mpr ⟨ev_d_10_0, fun _ h => absurd h List.not_mem_nil⟩
def ev_c_11_0 : List (Nat × Instr × Nat) := [(0, .iload_n 1, 1), (1, .aload_n 0, 1), (2, .getfield 15, 3), (5, .aload_n 0, 1), (6, .getfield 30, 3), (9, .ior, 1), (10, .iconst (-1), 1), (11, .ixor, 1), (12, .iand, 1), (13, .ireturn, 1)]
set_option maxRecDepth 100000 in
theorem ev_d_11_0 : ∀ q ∈ ev_c_11_0, decode prog_2_method_12_code q.1 = .ok (q.2.1, q.2.2) := fd_rows (by decide +kernel)
def ev_c_11 : List (Nat × List (Nat × Instr × Nat)) := [(0, ev_c_11_0)]
set_option maxRecDepth 100000 in
theorem ev_d_11 : ∀ q ∈ ev_c_11, ∀ z ∈ q.2, decode prog_2_method_12_code z.1 = .ok (z.2.1, z.2.2) := List.forall_mem_cons.mpr ⟨ev_d_11_0, fun _ h => absurd h List.not_mem_nil⟩
def ev_c_12_0 : List (Nat × Instr × Nat) := [(0, .iconst 0, 1), (1, .aload_n 0, 1), (2, .getfield 21, 3), (5, .iconst 1, 1), (6, .isub, 1), (7, .iconst 2, 1), (8, .iload_n 1, 1), (9, .imul, 1), (10, .isub, 1), (11, .invokestatic 54, 3), (14, .ireturn, 1)]
set_option maxRecDepth 100000 in
theorem ev_d_12_0 : ∀ q ∈ ev_c_12_0, decode prog_2_method_13_code q.1 = .ok (q.2.1, q.2.2) := fd_rows (by decide +kernel)
def ev_c_12 : List (Nat × List (Nat × Instr × Nat)) := [(0, ev_c_12_0)]
set_option maxRecDepth 100000 in
theorem ev_d_12 : ∀ q ∈ ev_c_12, ∀ z ∈ q.2, decode prog_2_method_13_code z.1 = .ok (z.2.1, z.2.2) := List.forall_mem_cons.mpr ⟨ev_d_12_0, fun _ h => absurd h List.not_mem_nil⟩
def ev_c_13_0 : List (Nat × Instr × Nat) := [(0, .aload_n 0, 1), (1, .dup, 1), (2, .getfield 30, 3), (5, .aload_n 0, 1), (6, .iload_n 2, 1), (7, .invokevirtual 60, 3), (10, .ior, 1), (11, .putfield 30, 3), (14, .aload_n 0, 1), (15, .aload_n 0, 1), (16, .iload_n 1, 1), (17, .invokevirtual 64, 3), (20, .putfield 21, 3), (23, .aload_n 0, 1), (24, .bipush 9, 2), (26, .putfield 24, 3), (29, .aload_n 0, 1), (30, .bipush 9, 2)]
set_option maxRecDepth 100000 in
theorem ev_d_13_0 : ∀ q ∈ ev_c_13_0, decode prog_2_method_14_code q.1 = .ok (q.2.1, q.2.2) := fd_rows (by decide +kernel)
def ev_c_13_1 : List (Nat × Instr × Nat) := [(32, .aload_n 0, 1), (33, .getfield 27, 3), (36, .iconst 1, 1), (37, .iadd, 1), (38, .iload_n 1, 1), (39, .iadd, 1), (40, .invokestatic 67, 3), (43, .putfield 27, 3), (46, .return_, 1)]
set_option maxRecDepth 100000 in
theorem ev_d_13_1 : ∀ q ∈ ev_c_13_1, decode prog_2_method_14_code q.1 = .ok (q.2.1, q.2.2) := fd_rows (by decide +kernel)
def ev_c_13 : List (Nat × List (Nat × Instr × Nat)) := [(0, ev_c_13_0), (1, ev_c_13_1)]
set_option maxRecDepth 100000 in
theorem ev_d_13 : ∀ q ∈ ev_c_13, ∀ z ∈ q.2, decode prog_2_method_14_code z.1 = .ok (z.2.1, z.2.2) := List.forall_mem_cons.mpr ⟨ev_d_13_0, List.forall_mem_cons.mpr ⟨ev_d_13_1, fun _ h => absurd h List.not_mem_nil⟩⟩
def ev_c_14_0 : List (Nat × Instr × Nat) := [(0, .aload_n 0, 1), (1, .bipush 9, 2), (3, .aload_n 0, 1), (4, .getfield 21, 3), (7, .iconst 1, 1), (8, .iadd, 1), (9, .invokestatic 67, 3), (12, .putfield 21, 3), (15, .return_, 1)]
set_option maxRecDepth 100000 in
theorem ev_d_14_0 : ∀ q ∈ ev_c_14_0, decode prog_2_method_15_code q.1 = .ok (q.2.1, q.2.2) := fd_rows (by decide +kernel)
def ev_c_14 : List (Nat × List (Nat × Instr × Nat)) := [(0, ev_c_14_0)]
set_option maxRecDepth 100000 in
theorem ev_d_14 : ∀ q ∈ ev_c_14, ∀ z ∈ q.2, decode prog_2_method_15_code z.1 = .ok (z.2.1, z.2.2) := List.forall_mem_cons.mpr ⟨ev_d_14_0, fun _ h => absurd h List.not_mem_nil⟩
def ev_c_15_0 : List (Nat × Instr × Nat) := [(0, .iconst 0, 1), (1, .iload_n 0, 1), (2, .iconst 1, 1), (3, .isub, 1), (4, .iload_n 2, 1), (5, .isub, 1), (6, .iload_n 1, 1), (7, .ifCond .le 7, 3), (10, .iconst 1, 1), (11, .goto 4, 3), (14, .iconst 0, 1), (15, .isub, 1), (16, .invokestatic 54, 3), (19, .ireturn, 1)]
set_option maxRecDepth 100000 in
theorem ev_d_15_0 : ∀ q ∈ ev_c_15_0, decode prog_2_method_16_code q.1 = .ok (q.2.1, q.2.2) := fd_rows (by decide +kernel)
def ev_c_15 : List (Nat × List (Nat × Instr × Nat)) := [(0, ev_c_15_0)]
set_option maxRecDepth 100000 in
theorem ev_d_15 : ∀ q ∈ ev_c_15, ∀ z ∈ q.2, decode prog_2_method_16_code z.1 = .ok (z.2.1, z.2.2) := List.forall_mem_cons.mpr ⟨ev_d_15_0, fun _ h => absurd h List.not_mem_nil⟩
def ev_c_16_0 : List (Nat × Instr × Nat) := [(0, .iconst 0, 1), (1, .iload_n 0, 1), (2, .iload_n 1, 1), (3, .isub, 1), (4, .invokestatic 54, 3), (7, .ireturn, 1)]
set_option maxRecDepth 100000 in
theorem ev_d_16_0 : ∀ q ∈ ev_c_16_0, decode prog_2_method_17_code q.1 = .ok (q.2.1, q.2.2) := fd_rows (by decide +kernel)
def ev_c_16 : List (Nat × List (Nat × Instr × Nat)) := [(0, ev_c_16_0)]
set_option maxRecDepth 100000 in
theorem ev_d_16 : ∀ q ∈ ev_c_16, ∀ z ∈ q.2, decode prog_2_method_17_code z.1 = .ok (z.2.1, z.2.2) := List.forall_mem_cons.mpr ⟨ev_d_16_0, fun _ h => absurd h List.not_mem_nil⟩
def ev_c_17_0 : List (Nat × Instr × Nat) := [(0, .aload_n 0, 1), (1, .aload_n 0, 1), (2, .getfield 27, 3), (5, .aload_n 0, 1), (6, .getfield 24, 3), (9, .iload_n 1, 1), (10, .invokestatic 70, 3), (13, .putfield 27, 3), (16, .aload_n 0, 1), (17, .aload_n 0, 1), (18, .getfield 24, 3), (21, .iload_n 1, 1), (22, .invokestatic 74, 3), (25, .putfield 24, 3), (28, .return_, 1)]
set_option maxRecDepth 100000 in
theorem ev_d_17_0 : ∀ q ∈ ev_c_17_0, decode prog_2_method_18_code q.1 = .ok (q.2.1, q.2.2) := fd_rows (by decide +kernel)
def ev_c_17 : List (Nat × List (Nat × Instr × Nat)) := [(0, ev_c_17_0)]
set_option maxRecDepth 100000 in
theorem ev_d_17 : ∀ q ∈ ev_c_17, ∀ z ∈ q.2, decode prog_2_method_18_code z.1 = .ok (z.2.1, z.2.2) := List.forall_mem_cons.mpr ⟨ev_d_17_0, fun _ h => absurd h List.not_mem_nil⟩
def ev_c_18_0 : List (Nat × Instr × Nat) := [(0, .aload_n 0, 1), (1, .getfield 30, 3), (4, .invokestatic 77, 3), (7, .istore_n 1, 1), (8, .aload_n 0, 1), (9, .iconst 0, 1), (10, .putfield 30, 3), (13, .aload_n 0, 1), (14, .dup, 1), (15, .getfield 33, 3), (18, .iconst 1, 1), (19, .iadd, 1), (20, .putfield 33, 3), (23, .iload_n 1, 1), (24, .ireturn, 1)]
set_option maxRecDepth 100000 in
theorem ev_d_18_0 : ∀ q ∈ ev_c_18_0, decode prog_2_method_19_code q.1 = .ok (q.2.1, q.2.2) := fd_rows (by decide +kernel)
def ev_c_18 : List (Nat × List (Nat × Instr × Nat)) := [(0, ev_c_18_0)]
set_option maxRecDepth 100000 in
theorem ev_d_18 : ∀ q ∈ ev_c_18, ∀ z ∈ q.2, decode prog_2_method_19_code z.1 = .ok (z.2.1, z.2.2) := List.forall_mem_cons.mpr ⟨ev_d_18_0, fun _ h => absurd h List.not_mem_nil⟩
def ev_c_19_0 : List (Nat × Instr × Nat) := [(0, .iconst 0, 1), (1, .istore_n 1, 1), (2, .aload_n 0, 1), (3, .getfield 21, 3), (6, .istore_n 2, 1), (7, .iload_n 2, 1), (8, .ifCond .le 26, 3), (11, .iload_n 1, 1), (12, .bipush 9, 2), (14, .if_icmp .ge 20, 3), (17, .iinc 1 1, 3), (20, .iload_n 2, 1), (21, .iconst 1, 1), (22, .iconst 2, 1), (23, .aload_n 0, 1), (24, .getfield 18, 3), (27, .imul, 1), (28, .iadd, 1), (29, .isub, 1), (30, .istore_n 2, 1), (31, .goto (-24), 3)]
set_option maxRecDepth 100000 in
theorem ev_d_19_0 : ∀ q ∈ ev_c_19_0, decode prog_2_method_20_code q.1 = .ok (q.2.1, q.2.2) := fd_rows (by decide +kernel)
def ev_c_19_1 : List (Nat × Instr × Nat) := [(34, .iload_n 1, 1), (35, .ireturn, 1)]
set_option maxRecDepth 100000 in
theorem ev_d_19_1 : ∀ q ∈ ev_c_19_1, decode prog_2_method_20_code q.1 = .ok (q.2.1, q.2.2) := fd_rows (by decide +kernel)
def ev_c_19 : List (Nat × List (Nat × Instr × Nat)) := [(0, ev_c_19_0), (1, ev_c_19_1)]
set_option maxRecDepth 100000 in
theorem ev_d_19 : ∀ q ∈ ev_c_19, ∀ z ∈ q.2, decode prog_2_method_20_code z.1 = .ok (z.2.1, z.2.2) := List.forall_mem_cons.mpr ⟨ev_d_19_0, List.forall_mem_cons.mpr ⟨ev_d_19_1, fun _ h => absurd h List.not_mem_nil⟩⟩
def ev_c_20_0 : List (Nat × Instr × Nat) := [(0, .aload_n 0, 1), (1, .iload_n 1, 1), (2, .invokevirtual 82, 3), (5, .ifCond .eq 5, 3), (8, .iconst (-1), 1), (9, .ireturn, 1), (10, .iconst 0, 1), (11, .istore_n 2, 1), (12, .aload_n 0, 1), (13, .getfield 27, 3), (16, .istore_n 3, 1), (17, .aload_n 0, 1), (18, .getfield 24, 3), (21, .istore 4, 2), (23, .iload_n 3, 1), (24, .ifCond .le 31, 3), (27, .iload_n 2, 1), (28, .bipush 9, 2), (30, .if_icmp .ge 25, 3)]
set_option maxRecDepth 100000 in
theorem ev_d_20_0 : ∀ q ∈ ev_c_20_0, decode prog_2_method_21_code q.1 = .ok (q.2.1, q.2.2) := fd_rows (by decide +kernel)
def ev_c_20_1 : List (Nat × Instr × Nat) := [(33, .iload_n 3, 1), (34, .iload 4, 2), (36, .iload_n 1, 1), (37, .invokestatic 70, 3), (40, .istore_n 3, 1), (41, .iload 4, 2), (43, .iload_n 1, 1), (44, .invokestatic 74, 3), (47, .istore 4, 2), (49, .iinc 2 1, 3), (52, .goto (-29), 3), (55, .iload_n 2, 1), (56, .ireturn, 1)]
set_option maxRecDepth 100000 in
theorem ev_d_20_1 : ∀ q ∈ ev_c_20_1, decode prog_2_method_21_code q.1 = .ok (q.2.1, q.2.2) := fd_rows (by decide +kernel)
def ev_c_20 : List (Nat × List (Nat × Instr × Nat)) := [(0, ev_c_20_0), (1, ev_c_20_1)]
set_option maxRecDepth 100000 in
theorem ev_d_20 : ∀ q ∈ ev_c_20, ∀ z ∈ q.2, decode prog_2_method_21_code z.1 = .ok (z.2.1, z.2.2) := List.forall_mem_cons.mpr ⟨ev_d_20_0, List.forall_mem_cons.mpr ⟨ev_d_20_1, fun _ h => absurd h List.not_mem_nil⟩⟩
def ev_c_21_0 : List (Nat × Instr × Nat) := [(0, .aload_n 0, 1), (1, .invokespecial 3, 3), (4, .aload_n 0, 1), (5, .bipush 8, 2), (7, .anewarray 9, 3), (10, .putfield 11, 3), (13, .iconst 0, 1), (14, .istore_n 1, 1), (15, .iload_n 1, 1), (16, .bipush 8, 2), (18, .if_icmp .ge 22, 3), (21, .aload_n 0, 1), (22, .getfield 11, 3), (25, .iload_n 1, 1), (26, .new 9, 3), (29, .dup, 1), (30, .invokespecial 17, 3)]
set_option maxRecDepth 100000 in
theorem ev_d_21_0 : ∀ q ∈ ev_c_21_0, decode prog_3_method_1_code q.1 = .ok (q.2.1, q.2.2) := fd_rows (by decide +kernel)
def ev_c_21_1 : List (Nat × Instr × Nat) := [(33, .aastore, 1), (34, .iinc 1 1, 3), (37, .goto (-22), 3), (40, .aload_n 0, 1), (41, .iconst 2, 1), (42, .anewarray 9, 3), (45, .putfield 18, 3), (48, .iconst 0, 1), (49, .istore_n 1, 1), (50, .iload_n 1, 1), (51, .iconst 2, 1), (52, .if_icmp .ge 22, 3), (55, .aload_n 0, 1), (56, .getfield 18, 3), (59, .iload_n 1, 1), (60, .new 9, 3), (63, .dup, 1)]
set_option maxRecDepth 100000 in
theorem ev_d_21_1 : ∀ q ∈ ev_c_21_1, decode prog_3_method_1_code q.1 = .ok (q.2.1, q.2.2) := fd_rows (by decide +kernel)
def ev_c_21_2 : List (Nat × Instr × Nat) := [(64, .invokespecial 17, 3), (67, .aastore, 1), (68, .iinc 1 1, 3), (71, .goto (-21), 3), (74, .aload_n 0, 1), (75, .iconst 2, 1), (76, .newarray .boolean, 2), (78, .putfield 21, 3), (81, .return_, 1)]
set_option maxRecDepth 100000 in
theorem ev_d_21_2 : ∀ q ∈ ev_c_21_2, decode prog_3_method_1_code q.1 = .ok (q.2.1, q.2.2) := by decide +kernel
def ev_c_21 : List (Nat × List (Nat × Instr × Nat)) := [(0, ev_c_21_0), (1, ev_c_21_1), (2, ev_c_21_2)]
set_option maxRecDepth 100000 in
theorem ev_d_21 : ∀ q ∈ ev_c_21, ∀ z ∈ q.2, decode prog_3_method_1_code z.1 = .ok (z.2.1, z.2.2) := List.forall_mem_cons.mpr ⟨ev_d_21_0, List.forall_mem_cons.mpr ⟨ev_d_21_1, List.forall_mem_cons.mpr ⟨ev_d_21_2, fun _ h => absurd h List.not_mem_nil⟩⟩⟩
def ev_c_22_0 : List (Nat × Instr × Nat) := [(0, .aload_n 0, 1), (1, .iconst 0, 1), (2, .putfield 25, 3), (5, .aload_n 0, 1), (6, .iconst 0, 1), (7, .putfield 29, 3), (10, .return_, 1)]
set_option maxRecDepth 100000 in
theorem ev_d_22_0 : ∀ q ∈ ev_c_22_0, decode prog_3_method_2_code q.1 = .ok (q.2.1, q.2.2) := fd_rows (by decide +kernel)
def ev_c_22 : List (Nat × List (Nat × Instr × Nat)) := [(0, ev_c_22_0)]
set_option maxRecDepth 100000 in
theorem ev_d_22 : ∀ q ∈ ev_c_22, ∀ z ∈ q.2, decode prog_3_method_2_code z.1 = .ok (z.2.1, z.2.2) := List.forall_mem_cons.mpr ⟨ev_d_22_0, fun _ h => absurd h List.not_mem_nil⟩
def ev_c_23_0 : List (Nat × Instr × Nat) := [(0, .aload_n 0, 1), (1, .invokevirtual 32, 3), (4, .iconst 0, 1), (5, .istore_n 1, 1), (6, .iload_n 1, 1), (7, .iconst 2, 1), (8, .if_icmp .ge 16, 3), (11, .aload_n 0, 1), (12, .getfield 21, 3), (15, .iload_n 1, 1), (16, .iconst 0, 1), (17, .bastore, 1), (18, .iinc 1 1, 3), (21, .goto (-15), 3), (24, .return_, 1)]
set_option maxRecDepth 100000 in
theorem ev_d_23_0 : ∀ q ∈ ev_c_23_0, decode prog_3_method_3_code q.1 = .ok (q.2.1, q.2.2) := fd_rows (by decide +kernel)
def ev_c_23 : List (Nat × List (Nat × Instr × Nat)) := [(0, ev_c_23_0)]
set_option maxRecDepth 100000 in
theorem ev_d_23 : ∀ q ∈ ev_c_23, ∀ z ∈ q.2, decode prog_3_method_3_code z.1 = .ok (z.2.1, z.2.2) := List.forall_mem_cons.mpr ⟨ev_d_23_0, fun _ h => absurd h List.not_mem_nil⟩
def ev_c_24_0 : List (Nat × Instr × Nat) := [(0, .aload_n 0, 1), (1, .getfield 11, 3), (4, .aload_n 0, 1), (5, .getfield 29, 3), (8, .aload_n 0, 1), (9, .getfield 25, 3), (12, .iadd, 1), (13, .bipush 8, 2), (15, .irem, 1), (16, .aaload, 1), (17, .aload_n 1, 1), (18, .invokevirtual 35, 3), (21, .aload_n 0, 1), (22, .getfield 25, 3), (25, .bipush 8, 2), (27, .if_icmp .ge 16, 3), (30, .aload_n 0, 1), (31, .dup, 1)]
set_option maxRecDepth 100000 in
theorem ev_d_24_0 : ∀ q ∈ ev_c_24_0, decode prog_3_method_4_code q.1 = .ok (q.2.1, q.2.2) := fd_rows (by decide +kernel)
def ev_c_24_1 : List (Nat × Instr × Nat) := [(32, .getfield 25, 3), (35, .iconst 1, 1), (36, .iadd, 1), (37, .putfield 25, 3), (40, .goto 16, 3), (43, .aload_n 0, 1), (44, .aload_n 0, 1), (45, .getfield 29, 3), (48, .iconst 1, 1), (49, .iadd, 1), (50, .bipush 8, 2), (52, .irem, 1), (53, .putfield 29, 3), (56, .return_, 1)]
set_option maxRecDepth 100000 in
theorem ev_d_24_1 : ∀ q ∈ ev_c_24_1, decode prog_3_method_4_code q.1 = .ok (q.2.1, q.2.2) := fd_rows (by decide +kernel)
def ev_c_24 : List (Nat × List (Nat × Instr × Nat)) := [(0, ev_c_24_0), (1, ev_c_24_1)]
set_option maxRecDepth 100000 in
theorem ev_d_24 : ∀ q ∈ ev_c_24, ∀ z ∈ q.2, decode prog_3_method_4_code z.1 = .ok (z.2.1, z.2.2) := List.forall_mem_cons.mpr ⟨ev_d_24_0, List.forall_mem_cons.mpr ⟨ev_d_24_1, fun _ h => absurd h List.not_mem_nil⟩⟩
def ev_c_25_0 : List (Nat × Instr × Nat) := [(0, .aload_n 0, 1), (1, .getfield 25, 3), (4, .ifCond .le 34, 3), (7, .aload_n 0, 1), (8, .dup, 1), (9, .getfield 25, 3), (12, .iconst 1, 1), (13, .isub, 1), (14, .putfield 25, 3), (17, .aload_n 1, 1), (18, .aload_n 0, 1), (19, .getfield 11, 3), (22, .aload_n 0, 1), (23, .getfield 29, 3), (26, .aload_n 0, 1), (27, .getfield 25, 3), (30, .iadd, 1), (31, .bipush 8, 2)]
set_option maxRecDepth 100000 in
theorem ev_d_25_0 : ∀ q ∈ ev_c_25_0, decode prog_3_method_5_code q.1 = .ok (q.2.1, q.2.2) := fd_rows (by decide +kernel)
def ev_c_25_1 : List (Nat × Instr × Nat) := [(33, .irem, 1), (34, .aaload, 1), (35, .invokevirtual 35, 3), (38, .return_, 1)]
set_option maxRecDepth 100000 in
theorem ev_d_25_1 : ∀ q ∈ ev_c_25_1, decode prog_3_method_5_code q.1 = .ok (q.2.1, q.2.2) := fd_rows (by decide +kernel)
def ev_c_25 : List (Nat × List (Nat × Instr × Nat)) := [(0, ev_c_25_0), (1, ev_c_25_1)]
set_option maxRecDepth 100000 in
theorem ev_d_25 : ∀ q ∈ ev_c_25, ∀ z ∈ q.2, decode prog_3_method_5_code z.1 = .ok (z.2.1, z.2.2) := List.forall_mem_cons.mpr ⟨ev_d_25_0, List.forall_mem_cons.mpr ⟨ev_d_25_1, fun _ h => absurd h List.not_mem_nil⟩⟩
def ev_c_26_0 : List (Nat × Instr × Nat) := [(0, .aload_n 0, 1), (1, .getfield 18, 3), (4, .iload_n 1, 1), (5, .aaload, 1), (6, .aload_n 2, 1), (7, .invokevirtual 35, 3), (10, .aload_n 0, 1), (11, .getfield 21, 3), (14, .iload_n 1, 1), (15, .iconst 1, 1), (16, .bastore, 1), (17, .return_, 1)]
set_option maxRecDepth 100000 in
theorem ev_d_26_0 : ∀ q ∈ ev_c_26_0, decode prog_3_method_6_code q.1 = .ok (q.2.1, q.2.2) := fd_rows (by decide +kernel)
def ev_c_26 : List (Nat × List (Nat × Instr × Nat)) := [(0, ev_c_26_0)]
set_option maxRecDepth 100000 in
theorem ev_d_26 : ∀ q ∈ ev_c_26, ∀ z ∈ q.2, decode prog_3_method_6_code z.1 = .ok (z.2.1, z.2.2) := List.forall_mem_cons.mpr ⟨ev_d_26_0, fun _ h => absurd h List.not_mem_nil⟩
def ev_c_27_0 : List (Nat × Instr × Nat) := [(0, .aload_n 2, 1), (1, .aload_n 0, 1), (2, .getfield 18, 3), (5, .iload_n 1, 1), (6, .aaload, 1), (7, .invokevirtual 35, 3), (10, .aload_n 0, 1), (11, .invokevirtual 32, 3), (14, .return_, 1)]
set_option maxRecDepth 100000 in
theorem ev_d_27_0 : ∀ q ∈ ev_c_27_0, decode prog_3_method_7_code q.1 = .ok (q.2.1, q.2.2) := fd_rows (by decide +kernel)
def ev_c_27 : List (Nat × List (Nat × Instr × Nat)) := [(0, ev_c_27_0)]
set_option maxRecDepth 100000 in
theorem ev_d_27 : ∀ q ∈ ev_c_27, ∀ z ∈ q.2, decode prog_3_method_7_code z.1 = .ok (z.2.1, z.2.2) := List.forall_mem_cons.mpr ⟨ev_d_27_0, fun _ h => absurd h List.not_mem_nil⟩
def ev_c_28_0 : List (Nat × Instr × Nat) := [(0, .aload_n 0, 1), (1, .invokespecial 3, 3), (4, .aload_n 0, 1), (5, .new 9, 3), (8, .dup, 1), (9, .invokespecial 11, 3), (12, .putfield 12, 3), (15, .aload_n 0, 1), (16, .new 18, 3), (19, .dup, 1), (20, .invokespecial 20, 3), (23, .putfield 21, 3), (26, .aload_n 0, 1), (27, .bipush 12, 2), (29, .newarray .int, 2), (31, .putfield 25, 3)]
set_option maxRecDepth 100000 in
theorem ev_d_28_0 : ∀ q ∈ ev_c_28_0, decode prog_4_method_1_code q.1 = .ok (q.2.1, q.2.2) := by decide +kernel
def ev_c_28_1 : List (Nat × Instr × Nat) := [(34, .return_, 1)]
set_option maxRecDepth 100000 in
theorem ev_d_28_1 : ∀ q ∈ ev_c_28_1, decode prog_4_method_1_code q.1 = .ok (q.2.1, q.2.2) := fd_rows (by decide +kernel)
def ev_c_28 : List (Nat × List (Nat × Instr × Nat)) := [(0, ev_c_28_0), (1, ev_c_28_1)]
set_option maxRecDepth 100000 in
theorem ev_d_28 : ∀ q ∈ ev_c_28, ∀ z ∈ q.2, decode prog_4_method_1_code z.1 = .ok (z.2.1, z.2.2) := List.forall_mem_cons.mpr ⟨ev_d_28_0, List.forall_mem_cons.mpr ⟨ev_d_28_1, fun _ h => absurd h List.not_mem_nil⟩⟩
def ev_c_29_0 : List (Nat × Instr × Nat) := [(0, .aload_n 0, 1), (1, .getfield 12, 3), (4, .invokevirtual 29, 3), (7, .aload_n 0, 1), (8, .getfield 21, 3), (11, .invokevirtual 32, 3), (14, .return_, 1)]
set_option maxRecDepth 100000 in
theorem ev_d_29_0 : ∀ q ∈ ev_c_29_0, decode prog_4_method_2_code q.1 = .ok (q.2.1, q.2.2) := fd_rows (by decide +kernel)
def ev_c_29 : List (Nat × List (Nat × Instr × Nat)) := [(0, ev_c_29_0)]
set_option maxRecDepth 100000 in
theorem ev_d_29 : ∀ q ∈ ev_c_29, ∀ z ∈ q.2, decode prog_4_method_2_code z.1 = .ok (z.2.1, z.2.2) := List.forall_mem_cons.mpr ⟨ev_d_29_0, fun _ h => absurd h List.not_mem_nil⟩
def ev_c_30_0 : List (Nat × Instr × Nat) := [(0, .iconst 3, 1), (1, .istore_n 2, 1), (2, .iconst 0, 1), (3, .istore_n 3, 1), (4, .iload_n 3, 1), (5, .aload_n 0, 1), (6, .getfield 21, 3), (9, .getfield 33, 3), (12, .iload_n 1, 1), (13, .iaload, 1), (14, .if_icmp .ge 26, 3), (17, .iload_n 2, 1), (18, .aload_n 0, 1), (19, .getfield 21, 3), (22, .iload_n 1, 1), (23, .iload_n 3, 1), (24, .invokevirtual 36, 3), (27, .getfield 40, 3), (30, .invokestatic 46, 3)]
set_option maxRecDepth 100000 in
theorem ev_d_30_0 : ∀ q ∈ ev_c_30_0, decode prog_4_method_3_code q.1 = .ok (q.2.1, q.2.2) := fd_rows (by decide +kernel)
def ev_c_30_1 : List (Nat × Instr × Nat) := [(33, .istore_n 2, 1), (34, .iinc 3 1, 3), (37, .goto (-33), 3), (40, .iload_n 2, 1), (41, .ireturn, 1)]
set_option maxRecDepth 100000 in
theorem ev_d_30_1 : ∀ q ∈ ev_c_30_1, decode prog_4_method_3_code q.1 = .ok (q.2.1, q.2.2) := fd_rows (by decide +kernel)
def ev_c_30 : List (Nat × List (Nat × Instr × Nat)) := [(0, ev_c_30_0), (1, ev_c_30_1)]
set_option maxRecDepth 100000 in
theorem ev_d_30 : ∀ q ∈ ev_c_30, ∀ z ∈ q.2, decode prog_4_method_3_code z.1 = .ok (z.2.1, z.2.2) := List.forall_mem_cons.mpr ⟨ev_d_30_0, List.forall_mem_cons.mpr ⟨ev_d_30_1, fun _ h => absurd h List.not_mem_nil⟩⟩
def ev_c_31_0 : List (Nat × Instr × Nat) := [(0, .iconst 0, 1), (1, .istore_n 2, 1), (2, .iconst 0, 1), (3, .istore_n 3, 1), (4, .iload_n 3, 1), (5, .aload_n 0, 1), (6, .getfield 21, 3), (9, .getfield 33, 3), (12, .iload_n 1, 1), (13, .iaload, 1), (14, .if_icmp .ge 24, 3), (17, .iload_n 2, 1), (18, .aload_n 0, 1), (19, .getfield 21, 3), (22, .iload_n 1, 1), (23, .iload_n 3, 1), (24, .invokevirtual 36, 3), (27, .getfield 52, 3), (30, .iadd, 1), (31, .istore_n 2, 1)]
set_option maxRecDepth 100000 in
theorem ev_d_31_0 : ∀ q ∈ ev_c_31_0, decode prog_4_method_4_code q.1 = .ok (q.2.1, q.2.2) := fd_rows (by decide +kernel)
def ev_c_31_1 : List (Nat × Instr × Nat) := [(32, .iinc 3 1, 3), (35, .goto (-31), 3), (38, .iload_n 2, 1), (39, .ireturn, 1)]
set_option maxRecDepth 100000 in
theorem ev_d_31_1 : ∀ q ∈ ev_c_31_1, decode prog_4_method_4_code q.1 = .ok (q.2.1, q.2.2) := fd_rows (by decide +kernel)
def ev_c_31 : List (Nat × List (Nat × Instr × Nat)) := [(0, ev_c_31_0), (1, ev_c_31_1)]
set_option maxRecDepth 100000 in
theorem ev_d_31 : ∀ q ∈ ev_c_31, ∀ z ∈ q.2, decode prog_4_method_4_code z.1 = .ok (z.2.1, z.2.2) := List.forall_mem_cons.mpr ⟨ev_d_31_0, List.forall_mem_cons.mpr ⟨ev_d_31_1, fun _ h => absurd h List.not_mem_nil⟩⟩
def ev_c_32_0 : List (Nat × Instr × Nat) := [(0, .iconst 0, 1), (1, .istore_n 2, 1), (2, .iconst 0, 1), (3, .istore_n 3, 1), (4, .iload_n 3, 1), (5, .aload_n 0, 1), (6, .getfield 21, 3), (9, .getfield 33, 3), (12, .iload_n 1, 1), (13, .iaload, 1), (14, .if_icmp .ge 24, 3), (17, .iload_n 2, 1), (18, .aload_n 0, 1), (19, .getfield 21, 3), (22, .iload_n 1, 1), (23, .iload_n 3, 1), (24, .invokevirtual 36, 3), (27, .getfield 55, 3), (30, .ior, 1), (31, .istore_n 2, 1)]
set_option maxRecDepth 100000 in
theorem ev_d_32_0 : ∀ q ∈ ev_c_32_0, decode prog_4_method_5_code q.1 = .ok (q.2.1, q.2.2) := fd_rows (by decide +kernel)
def ev_c_32_1 : List (Nat × Instr × Nat) := [(32, .iinc 3 1, 3), (35, .goto (-31), 3), (38, .iload_n 2, 1), (39, .ireturn, 1)]
set_option maxRecDepth 100000 in
theorem ev_d_32_1 : ∀ q ∈ ev_c_32_1, decode prog_4_method_5_code q.1 = .ok (q.2.1, q.2.2) := fd_rows (by decide +kernel)
def ev_c_32 : List (Nat × List (Nat × Instr × Nat)) := [(0, ev_c_32_0), (1, ev_c_32_1)]
set_option maxRecDepth 100000 in
theorem ev_d_32 : ∀ q ∈ ev_c_32, ∀ z ∈ q.2, decode prog_4_method_5_code z.1 = .ok (z.2.1, z.2.2) := List.forall_mem_cons.mpr ⟨ev_d_32_0, List.forall_mem_cons.mpr ⟨ev_d_32_1, fun _ h => absurd h List.not_mem_nil⟩⟩
def ev_c_33_0 : List (Nat × Instr × Nat) := [(0, .iconst 0, 1), (1, .istore_n 2, 1), (2, .iconst 0, 1), (3, .istore_n 3, 1), (4, .iload_n 3, 1), (5, .aload_n 0, 1), (6, .getfield 21, 3), (9, .getfield 33, 3), (12, .iload_n 1, 1), (13, .iaload, 1), (14, .if_icmp .ge 24, 3), (17, .iload_n 2, 1), (18, .aload_n 0, 1), (19, .getfield 21, 3), (22, .iload_n 1, 1), (23, .iload_n 3, 1), (24, .invokevirtual 36, 3), (27, .invokevirtual 58, 3), (30, .ior, 1), (31, .istore_n 2, 1)]
set_option maxRecDepth 100000 in
theorem ev_d_33_0 : ∀ q ∈ ev_c_33_0, decode prog_4_method_6_code q.1 = .ok (q.2.1, q.2.2) := fd_rows (by decide +kernel)
def ev_c_33_1 : List (Nat × Instr × Nat) := [(32, .iinc 3 1, 3), (35, .goto (-31), 3), (38, .iload_n 2, 1), (39, .ireturn, 1)]
set_option maxRecDepth 100000 in
theorem ev_d_33_1 : ∀ q ∈ ev_c_33_1, decode prog_4_method_6_code q.1 = .ok (q.2.1, q.2.2) := fd_rows (by decide +kernel)
def ev_c_33 : List (Nat × List (Nat × Instr × Nat)) := [(0, ev_c_33_0), (1, ev_c_33_1)]
set_option maxRecDepth 100000 in
theorem ev_d_33 : ∀ q ∈ ev_c_33, ∀ z ∈ q.2, decode prog_4_method_6_code z.1 = .ok (z.2.1, z.2.2) := List.forall_mem_cons.mpr ⟨ev_d_33_0, List.forall_mem_cons.mpr ⟨ev_d_33_1, fun _ h => absurd h List.not_mem_nil⟩⟩
def ev_c_34_0 : List (Nat × Instr × Nat) := [(0, .aload_n 0, 1), (1, .iload_n 1, 1), (2, .invokevirtual 62, 3), (5, .aload_n 0, 1), (6, .getfield 12, 3), (9, .iload_n 2, 1), (10, .invokevirtual 66, 3), (13, .iand, 1), (14, .ireturn, 1)]
set_option maxRecDepth 100000 in
theorem ev_d_34_0 : ∀ q ∈ ev_c_34_0, decode prog_4_method_7_code q.1 = .ok (q.2.1, q.2.2) := fd_rows (by decide +kernel)
def ev_c_34 : List (Nat × List (Nat × Instr × Nat)) := [(0, ev_c_34_0)]
set_option maxRecDepth 100000 in
theorem ev_d_34 : ∀ q ∈ ev_c_34, ∀ z ∈ q.2, decode prog_4_method_7_code z.1 = .ok (z.2.1, z.2.2) := List.forall_mem_cons.mpr ⟨ev_d_34_0, fun _ h => absurd h List.not_mem_nil⟩
def ev_c_35_0 : List (Nat × Instr × Nat) := [(0, .iconst 0, 1), (1, .istore_n 3, 1), (2, .iconst 0, 1), (3, .istore 4, 2), (5, .iload 4, 2), (7, .aload_n 0, 1), (8, .getfield 21, 3), (11, .getfield 33, 3), (14, .iload_n 1, 1), (15, .iaload, 1), (16, .if_icmp .ge 29, 3), (19, .aload_n 0, 1), (20, .getfield 21, 3), (23, .iload_n 1, 1), (24, .iload 4, 2), (26, .invokevirtual 36, 3), (29, .iload_n 2, 1), (30, .invokevirtual 69, 3)]
set_option maxRecDepth 100000 in
theorem ev_d_35_0 : ∀ q ∈ ev_c_35_0, decode prog_4_method_8_code q.1 = .ok (q.2.1, q.2.2) := fd_rows (by decide +kernel)
def ev_c_35_1 : List (Nat × Instr × Nat) := [(33, .ifCond .eq 6, 3), (36, .iinc 3 1, 3), (39, .iinc 4 1, 3), (42, .goto (-37), 3), (45, .iload_n 3, 1), (46, .ireturn, 1)]
set_option maxRecDepth 100000 in
theorem ev_d_35_1 : ∀ q ∈ ev_c_35_1, decode prog_4_method_8_code q.1 = .ok (q.2.1, q.2.2) := fd_rows (by decide +kernel)
def ev_c_35 : List (Nat × List (Nat × Instr × Nat)) := [(0, ev_c_35_0), (1, ev_c_35_1)]
set_option maxRecDepth 100000 in
theorem ev_d_35 : ∀ q ∈ ev_c_35, ∀ z ∈ q.2, decode prog_4_method_8_code z.1 = .ok (z.2.1, z.2.2) := List.forall_mem_cons.mpr ⟨ev_d_35_0, List.forall_mem_cons.mpr ⟨ev_d_35_1, fun _ h => absurd h List.not_mem_nil⟩⟩
def ev_c_36_0 : List (Nat × Instr × Nat) := [(0, .iconst 0, 1), (1, .istore_n 3, 1), (2, .iconst 0, 1), (3, .istore 4, 2), (5, .iload 4, 2), (7, .aload_n 0, 1), (8, .getfield 21, 3), (11, .getfield 33, 3), (14, .iload_n 1, 1), (15, .iaload, 1), (16, .if_icmp .ge 26, 3), (19, .iload_n 3, 1), (20, .aload_n 0, 1), (21, .getfield 21, 3), (24, .iload_n 1, 1), (25, .iload 4, 2), (27, .invokevirtual 36, 3), (30, .iload_n 2, 1), (31, .invokevirtual 72, 3)]
set_option maxRecDepth 100000 in
theorem ev_d_36_0 : ∀ q ∈ ev_c_36_0, decode prog_4_method_9_code q.1 = .ok (q.2.1, q.2.2) := fd_rows (by decide +kernel)
def ev_c_36_1 : List (Nat × Instr × Nat) := [(34, .iadd, 1), (35, .istore_n 3, 1), (36, .iinc 4 1, 3), (39, .goto (-34), 3), (42, .iload_n 3, 1), (43, .ireturn, 1)]
set_option maxRecDepth 100000 in
theorem ev_d_36_1 : ∀ q ∈ ev_c_36_1, decode prog_4_method_9_code q.1 = .ok (q.2.1, q.2.2) := fd_rows (by decide +kernel)
def ev_c_36 : List (Nat × List (Nat × Instr × Nat)) := [(0, ev_c_36_0), (1, ev_c_36_1)]
set_option maxRecDepth 100000 in
theorem ev_d_36 : ∀ q ∈ ev_c_36, ∀ z ∈ q.2, decode prog_4_method_9_code z.1 = .ok (z.2.1, z.2.2) := List.forall_mem_cons.mpr ⟨ev_d_36_0, List.forall_mem_cons.mpr ⟨ev_d_36_1, fun _ h => absurd h List.not_mem_nil⟩⟩
def ev_c_37_0 : List (Nat × Instr × Nat) := [(0, .aload_n 0, 1), (1, .getfield 21, 3), (4, .getfield 75, 3), (7, .iload_n 1, 1), (8, .aaload, 1), (9, .getfield 79, 3), (12, .ifCond .eq 5, 3), (15, .iconst 1, 1), (16, .ireturn, 1), (17, .aload_n 0, 1), (18, .getfield 21, 3), (21, .getfield 33, 3), (24, .iload_n 2, 1), (25, .iaload, 1), (26, .aload_n 0, 1), (27, .getfield 12, 3), (30, .getfield 82, 3)]
set_option maxRecDepth 100000 in
theorem ev_d_37_0 : ∀ q ∈ ev_c_37_0, decode prog_4_method_10_code q.1 = .ok (q.2.1, q.2.2) := fd_rows (by decide +kernel)
def ev_c_37_1 : List (Nat × Instr × Nat) := [(33, .iload_n 2, 1), (34, .iaload, 1), (35, .if_icmp .lt 7, 3), (38, .iconst 2, 1), (39, .goto 4, 3), (42, .iconst 0, 1), (43, .ireturn, 1)]
set_option maxRecDepth 100000 in
theorem ev_d_37_1 : ∀ q ∈ ev_c_37_1, decode prog_4_method_10_code q.1 = .ok (q.2.1, q.2.2) := fd_rows (by decide +kernel)
def ev_c_37 : List (Nat × List (Nat × Instr × Nat)) := [(0, ev_c_37_0), (1, ev_c_37_1)]
set_option maxRecDepth 100000 in
theorem ev_d_37 : ∀ q ∈ ev_c_37, ∀ z ∈ q.2, decode prog_4_method_10_code z.1 = .ok (z.2.1, z.2.2) := List.forall_mem_cons.mpr ⟨ev_d_37_0, List.forall_mem_cons.mpr ⟨ev_d_37_1, fun _ h => absurd h List.not_mem_nil⟩⟩
def ev_c_38_0 : List (Nat × Instr × Nat) := [(0, .aload_n 0, 1), (1, .getfield 21, 3), (4, .getfield 33, 3), (7, .iload_n 1, 1), (8, .iaload, 1), (9, .ifCond .ne 5, 3), (12, .iconst 1, 1), (13, .ireturn, 1), (14, .iload_n 2, 1), (15, .aload_n 0, 1), (16, .iload_n 1, 1), (17, .invokevirtual 85, 3), (20, .if_icmp .le 7, 3), (23, .iconst 2, 1), (24, .goto 4, 3), (27, .iconst 0, 1), (28, .ireturn, 1)]
set_option maxRecDepth 100000 in
theorem ev_d_38_0 : ∀ q ∈ ev_c_38_0, decode prog_4_method_11_code q.1 = .ok (q.2.1, q.2.2) := fd_rows (by decide +kernel)
def ev_c_38 : List (Nat × List (Nat × Instr × Nat)) := [(0, ev_c_38_0)]
set_option maxRecDepth 100000 in
theorem ev_d_38 : ∀ q ∈ ev_c_38, ∀ z ∈ q.2, decode prog_4_method_11_code z.1 = .ok (z.2.1, z.2.2) := List.forall_mem_cons.mpr ⟨ev_d_38_0, fun _ h => absurd h List.not_mem_nil⟩
def ev_c_39_0 : List (Nat × Instr × Nat) := [(0, .aload_n 0, 1), (1, .iload_n 1, 1), (2, .invokevirtual 62, 3), (5, .aload_n 0, 1), (6, .getfield 12, 3), (9, .iload_n 2, 1), (10, .invokevirtual 66, 3), (13, .iand, 1), (14, .istore_n 3, 1), (15, .aload_n 0, 1), (16, .iload_n 1, 1), (17, .iload_n 3, 1), (18, .invokevirtual 88, 3), (21, .istore 4, 2), (23, .iconst 0, 1), (24, .istore 5, 2), (26, .iload 5, 2), (28, .aload_n 0, 1), (29, .getfield 21, 3)]
set_option maxRecDepth 100000 in
theorem ev_d_39_0 : ∀ q ∈ ev_c_39_0, decode prog_4_method_12_code q.1 = .ok (q.2.1, q.2.2) := fd_rows (by decide +kernel)
def ev_c_39_1 : List (Nat × Instr × Nat) := [(32, .getfield 33, 3), (35, .iload_n 1, 1), (36, .iaload, 1), (37, .if_icmp .ge 24, 3), (40, .aload_n 0, 1), (41, .getfield 21, 3), (44, .iload_n 1, 1), (45, .iload 5, 2), (47, .invokevirtual 36, 3), (50, .iload_n 2, 1), (51, .iload_n 3, 1), (52, .invokevirtual 91, 3), (55, .iinc 5 1, 3), (58, .goto (-32), 3), (61, .aload_n 0, 1), (62, .getfield 21, 3)]
set_option maxRecDepth 100000 in
theorem ev_d_39_1 : ∀ q ∈ ev_c_39_1, decode prog_4_method_12_code q.1 = .ok (q.2.1, q.2.2) := fd_rows (by decide +kernel)
def ev_c_39_2 : List (Nat × Instr × Nat) := [(65, .iload_n 1, 1), (66, .invokevirtual 95, 3), (69, .pop, 1), (70, .aload_n 0, 1), (71, .getfield 21, 3), (74, .dup, 1), (75, .getfield 98, 3), (78, .iconst 1, 1), (79, .iadd, 1), (80, .putfield 98, 3), (83, .iload 4, 2), (85, .ireturn, 1)]
set_option maxRecDepth 100000 in
theorem ev_d_39_2 : ∀ q ∈ ev_c_39_2, decode prog_4_method_12_code q.1 = .ok (q.2.1, q.2.2) := fd_rows (by decide +kernel)
def ev_c_39 : List (Nat × List (Nat × Instr × Nat)) := [(0, ev_c_39_0), (1, ev_c_39_1), (2, ev_c_39_2)]
set_option maxRecDepth 100000 in
theorem ev_d_39 : ∀ q ∈ ev_c_39, ∀ z ∈ q.2, decode prog_4_method_12_code z.1 = .ok (z.2.1, z.2.2) := List.forall_mem_cons.mpr ⟨ev_d_39_0, List.forall_mem_cons.mpr ⟨ev_d_39_1, List.forall_mem_cons.mpr ⟨ev_d_39_2, fun _ h => absurd h List.not_mem_nil⟩⟩⟩
def ev_c_40_0 : List (Nat × Instr × Nat) := [(0, .aload_n 0, 1), (1, .getfield 21, 3), (4, .getfield 33, 3), (7, .iload_n 1, 1), (8, .iaload, 1), (9, .ifCond .ne 5, 3), (12, .iconst (-1), 1), (13, .ireturn, 1), (14, .iconst 0, 1), (15, .istore_n 2, 1), (16, .aload_n 0, 1), (17, .iload_n 1, 1), (18, .aload_n 0, 1), (19, .iload_n 1, 1), (20, .iconst 0, 1), (21, .invokevirtual 101, 3), (24, .invokevirtual 88, 3), (27, .istore_n 3, 1), (28, .aload_n 0, 1), (29, .iload_n 1, 1), (30, .invokevirtual 85, 3)]
set_option maxRecDepth 100000 in
theorem ev_d_40_0 : ∀ q ∈ ev_c_40_0, decode prog_4_method_13_code q.1 = .ok (q.2.1, q.2.2) := fd_rows (by decide +kernel)
def ev_c_40_1 : List (Nat × Instr × Nat) := [(33, .istore 4, 2), (35, .iconst 1, 1), (36, .istore 5, 2), (38, .iload 5, 2), (40, .iload 4, 2), (42, .if_icmp .gt 57, 3), (45, .aload_n 0, 1), (46, .iload_n 1, 1), (47, .aload_n 0, 1), (48, .iload_n 1, 1), (49, .iload 5, 2), (51, .invokevirtual 101, 3), (54, .invokevirtual 88, 3), (57, .istore 6, 2), (59, .iload 6, 2), (61, .iload_n 3, 1), (62, .if_icmp .lt 25, 3)]
set_option maxRecDepth 100000 in
theorem ev_d_40_1 : ∀ q ∈ ev_c_40_1, decode prog_4_method_13_code q.1 = .ok (q.2.1, q.2.2) := fd_rows (by decide +kernel)
def ev_c_40_2 : List (Nat × Instr × Nat) := [(65, .iload 6, 2), (67, .iload_n 3, 1), (68, .if_icmp .ne 25, 3), (71, .aload_n 0, 1), (72, .iload_n 1, 1), (73, .iload 5, 2), (75, .invokevirtual 104, 3), (78, .aload_n 0, 1), (79, .iload_n 1, 1), (80, .iload_n 2, 1), (81, .invokevirtual 104, 3), (84, .if_icmp .ge 9, 3), (87, .iload 5, 2), (89, .istore_n 2, 1), (90, .iload 6, 2), (92, .istore_n 3, 1), (93, .iinc 5 1, 3)]
set_option maxRecDepth 100000 in
theorem ev_d_40_2 : ∀ q ∈ ev_c_40_2, decode prog_4_method_13_code q.1 = .ok (q.2.1, q.2.2) := fd_rows (by decide +kernel)
def ev_c_40_3 : List (Nat × Instr × Nat) := [(96, .goto (-58), 3), (99, .iload_n 2, 1), (100, .ireturn, 1)]
set_option maxRecDepth 100000 in
theorem ev_d_40_3 : ∀ q ∈ ev_c_40_3, decode prog_4_method_13_code q.1 = .ok (q.2.1, q.2.2) := fd_rows (by decide +kernel)
def ev_c_40 : List (Nat × List (Nat × Instr × Nat)) := [(0, ev_c_40_0), (1, ev_c_40_1), (2, ev_c_40_2), (3, ev_c_40_3)]
set_option maxRecDepth 100000 in
theorem ev_d_40 : ∀ q ∈ ev_c_40, ∀ z ∈ q.2, decode prog_4_method_13_code z.1 = .ok (z.2.1, z.2.2) := List.forall_mem_cons.mpr ⟨ev_d_40_0, List.forall_mem_cons.mpr ⟨ev_d_40_1, List.forall_mem_cons.mpr ⟨ev_d_40_2, List.forall_mem_cons.mpr ⟨ev_d_40_3, fun _ h => absurd h List.not_mem_nil⟩⟩⟩⟩
def ev_c_41_0 : List (Nat × Instr × Nat) := [(0, .iload_n 2, 1), (1, .aload_n 0, 1), (2, .iload_n 1, 1), (3, .invokevirtual 85, 3), (6, .if_icmp .le 5, 3), (9, .iconst (-1), 1), (10, .ireturn, 1), (11, .iconst 0, 1), (12, .istore_n 3, 1), (13, .iload_n 3, 1), (14, .aload_n 0, 1), (15, .getfield 21, 3), (18, .getfield 107, 3), (21, .if_icmp .ge 38, 3), (24, .aload_n 0, 1), (25, .iload_n 3, 1), (26, .iload_n 1, 1), (27, .invokevirtual 110, 3), (30, .ifCond .ne 23, 3)]
set_option maxRecDepth 100000 in
theorem ev_d_41_0 : ∀ q ∈ ev_c_41_0, decode prog_4_method_14_code q.1 = .ok (q.2.1, q.2.2) := fd_rows (by decide +kernel)
def ev_c_41_1 : List (Nat × Instr × Nat) := [(33, .aload_n 0, 1), (34, .aload_n 0, 1), (35, .getfield 21, 3), (38, .getfield 75, 3), (41, .iload_n 3, 1), (42, .aaload, 1), (43, .iload_n 1, 1), (44, .iload_n 2, 1), (45, .invokevirtual 113, 3), (48, .ifCond .eq 5, 3), (51, .iload_n 3, 1), (52, .ireturn, 1), (53, .iinc 3 1, 3), (56, .goto (-43), 3), (59, .iconst (-1), 1), (60, .ireturn, 1)]
set_option maxRecDepth 100000 in
theorem ev_d_41_1 : ∀ q ∈ ev_c_41_1, decode prog_4_method_14_code q.1 = .ok (q.2.1, q.2.2) := fd_rows (by decide +kernel)
def ev_c_41 : List (Nat × List (Nat × Instr × Nat)) := [(0, ev_c_41_0), (1, ev_c_41_1)]
set_option maxRecDepth 100000 in
theorem ev_d_41 : ∀ q ∈ ev_c_41, ∀ z ∈ q.2, decode prog_4_method_14_code z.1 = .ok (z.2.1, z.2.2) := List.forall_mem_cons.mpr ⟨ev_d_41_0, List.forall_mem_cons.mpr ⟨ev_d_41_1, fun _ h => absurd h List.not_mem_nil⟩⟩
def ev_c_42_0 : List (Nat × Instr × Nat) := [(0, .aload_n 0, 1), (1, .iload_n 2, 1), (2, .invokevirtual 62, 3), (5, .aload_n 1, 1), (6, .invokevirtual 58, 3), (9, .ior, 1), (10, .aload_n 0, 1), (11, .getfield 12, 3), (14, .iload_n 3, 1), (15, .invokevirtual 66, 3), (18, .iand, 1), (19, .istore 4, 2), (21, .aload_n 1, 1), (22, .iload_n 3, 1), (23, .invokevirtual 117, 3), (26, .ifCond .eq 26, 3), (29, .aload_n 1, 1), (30, .iload 4, 2)]
set_option maxRecDepth 100000 in
theorem ev_d_42_0 : ∀ q ∈ ev_c_42_0, decode prog_4_method_15_code q.1 = .ok (q.2.1, q.2.2) := fd_rows (by decide +kernel)
def ev_c_42_1 : List (Nat × Instr × Nat) := [(32, .invokevirtual 69, 3), (35, .ifCond .ne 17, 3), (38, .aload_n 0, 1), (39, .iload_n 2, 1), (40, .iload 4, 2), (42, .invokevirtual 88, 3), (45, .ifCond .ne 7, 3), (48, .iconst 1, 1), (49, .goto 4, 3), (52, .iconst 0, 1), (53, .ireturn, 1)]
set_option maxRecDepth 100000 in
theorem ev_d_42_1 : ∀ q ∈ ev_c_42_1, decode prog_4_method_15_code q.1 = .ok (q.2.1, q.2.2) := fd_rows (by decide +kernel)
def ev_c_42 : List (Nat × List (Nat × Instr × Nat)) := [(0, ev_c_42_0), (1, ev_c_42_1)]
set_option maxRecDepth 100000 in
theorem ev_d_42 : ∀ q ∈ ev_c_42, ∀ z ∈ q.2, decode prog_4_method_15_code z.1 = .ok (z.2.1, z.2.2) := List.forall_mem_cons.mpr ⟨ev_d_42_0, List.forall_mem_cons.mpr ⟨ev_d_42_1, fun _ h => absurd h List.not_mem_nil⟩⟩
def ev_c_43_0 : List (Nat × Instr × Nat) := [(0, .aload_n 0, 1), (1, .getfield 21, 3), (4, .getfield 75, 3), (7, .iload_n 1, 1), (8, .aaload, 1), (9, .astore 4, 2), (11, .aload_n 0, 1), (12, .getfield 21, 3), (15, .getfield 75, 3), (18, .iload_n 2, 1), (19, .aaload, 1), (20, .astore 5, 2), (22, .aload_n 0, 1), (23, .getfield 12, 3), (26, .iload_n 3, 1), (27, .invokevirtual 66, 3), (30, .istore 6, 2)]
set_option maxRecDepth 100000 in
theorem ev_d_43_0 : ∀ q ∈ ev_c_43_0, decode prog_4_method_16_code q.1 = .ok (q.2.1, q.2.2) := fd_rows (by decide +kernel)
def ev_c_43_1 : List (Nat × Instr × Nat) := [(32, .aload 5, 2), (34, .aload 4, 2), (36, .invokevirtual 58, 3), (39, .iload 6, 2), (41, .iand, 1), (42, .invokevirtual 69, 3), (45, .ifCond .eq 7, 3), (48, .iconst 1, 1), (49, .goto 4, 3), (52, .iconst 0, 1), (53, .aload 4, 2), (55, .aload 5, 2), (57, .invokevirtual 58, 3), (60, .iload 6, 2), (62, .iand, 1), (63, .invokevirtual 69, 3)]
set_option maxRecDepth 100000 in
theorem ev_d_43_1 : ∀ q ∈ ev_c_43_1, decode prog_4_method_16_code q.1 = .ok (q.2.1, q.2.2) := fd_rows (by decide +kernel)
def ev_c_43_2 : List (Nat × Instr × Nat) := [(66, .ifCond .eq 7, 3), (69, .iconst 2, 1), (70, .goto 4, 3), (73, .iconst 0, 1), (74, .iadd, 1), (75, .ireturn, 1)]
set_option maxRecDepth 100000 in
theorem ev_d_43_2 : ∀ q ∈ ev_c_43_2, decode prog_4_method_16_code q.1 = .ok (q.2.1, q.2.2) := fd_rows (by decide +kernel)
def ev_c_43 : List (Nat × List (Nat × Instr × Nat)) := [(0, ev_c_43_0), (1, ev_c_43_1), (2, ev_c_43_2)]
set_option maxRecDepth 100000 in
theorem ev_d_43 : ∀ q ∈ ev_c_43, ∀ z ∈ q.2, decode prog_4_method_16_code z.1 = .ok (z.2.1, z.2.2) := List.forall_mem_cons.mpr ⟨ev_d_43_0, List.forall_mem_cons.mpr ⟨ev_d_43_1, List.forall_mem_cons.mpr ⟨ev_d_43_2, fun _ h => absurd h List.not_mem_nil⟩⟩⟩
def ev_c_44_0 : List (Nat × Instr × Nat) := [(0, .iconst 0, 1), (1, .istore_n 2, 1), (2, .iconst 0, 1), (3, .istore_n 3, 1), (4, .iload_n 3, 1), (5, .aload_n 0, 1), (6, .getfield 21, 3), (9, .getfield 107, 3), (12, .if_icmp .ge 78, 3), (15, .aload_n 0, 1), (16, .getfield 21, 3), (19, .getfield 75, 3), (22, .iload_n 3, 1), (23, .aaload, 1), (24, .astore 4, 2), (26, .aload_n 0, 1), (27, .getfield 25, 3), (30, .iload_n 3, 1), (31, .iconst (-1), 1)]
set_option maxRecDepth 100000 in
theorem ev_d_44_0 : ∀ q ∈ ev_c_44_0, decode prog_4_method_17_code q.1 = .ok (q.2.1, q.2.2) := fd_rows (by decide +kernel)
def ev_c_44_1 : List (Nat × Instr × Nat) := [(32, .iastore, 1), (33, .aload 4, 2), (35, .getfield 79, 3), (38, .ifCond .ne 46, 3), (41, .aload 4, 2), (43, .getfield 52, 3), (46, .ifCond .le 38, 3), (49, .aload 4, 2), (51, .iload_n 1, 1), (52, .invokevirtual 117, 3), (55, .ifCond .eq 29, 3), (58, .aload_n 0, 1), (59, .iload_n 3, 1), (60, .iload_n 2, 1), (61, .iload_n 1, 1), (62, .invokevirtual 121, 3)]
set_option maxRecDepth 100000 in
theorem ev_d_44_1 : ∀ q ∈ ev_c_44_1, decode prog_4_method_17_code q.1 = .ok (q.2.1, q.2.2) := fd_rows (by decide +kernel)
def ev_c_44_2 : List (Nat × Instr × Nat) := [(65, .istore 5, 2), (67, .aload_n 0, 1), (68, .getfield 25, 3), (71, .iload_n 3, 1), (72, .iload 5, 2), (74, .iastore, 1), (75, .iload_n 2, 1), (76, .iload 5, 2), (78, .iconst 1, 1), (79, .iadd, 1), (80, .invokestatic 125, 3), (83, .istore_n 2, 1), (84, .iinc 3 1, 3), (87, .goto (-83), 3), (90, .iload_n 2, 1), (91, .ireturn, 1)]
set_option maxRecDepth 100000 in
theorem ev_d_44_2 : ∀ q ∈ ev_c_44_2, decode prog_4_method_17_code q.1 = .ok (q.2.1, q.2.2) := fd_rows (by decide +kernel)
def ev_c_44 : List (Nat × List (Nat × Instr × Nat)) := [(0, ev_c_44_0), (1, ev_c_44_1), (2, ev_c_44_2)]
set_option maxRecDepth 100000 in
theorem ev_d_44 : ∀ q ∈ ev_c_44, ∀ z ∈ q.2, decode prog_4_method_17_code z.1 = .ok (z.2.1, z.2.2) := List.forall_mem_cons.mpr ⟨ev_d_44_0, List.forall_mem_cons.mpr ⟨ev_d_44_1, List.forall_mem_cons.mpr ⟨ev_d_44_2, fun _ h => absurd h List.not_mem_nil⟩⟩⟩
def ev_c_45_0 : List (Nat × Instr × Nat) := [(0, .iconst 0, 1), (1, .istore 4, 2), (3, .iload 4, 2), (5, .iload_n 2, 1), (6, .if_icmp .ge 23, 3), (9, .aload_n 0, 1), (10, .iload_n 1, 1), (11, .iload 4, 2), (13, .iload_n 3, 1), (14, .invokevirtual 128, 3), (17, .ifCond .ne 6, 3), (20, .iload 4, 2), (22, .ireturn, 1), (23, .iinc 4 1, 3), (26, .goto (-23), 3), (29, .iload_n 2, 1), (30, .ireturn, 1)]
set_option maxRecDepth 100000 in
theorem ev_d_45_0 : ∀ q ∈ ev_c_45_0, decode prog_4_method_18_code q.1 = .ok (q.2.1, q.2.2) := fd_rows (by decide +kernel)
def ev_c_45 : List (Nat × List (Nat × Instr × Nat)) := [(0, ev_c_45_0)]
set_option maxRecDepth 100000 in
theorem ev_d_45 : ∀ q ∈ ev_c_45, ∀ z ∈ q.2, decode prog_4_method_18_code z.1 = .ok (z.2.1, z.2.2) := List.forall_mem_cons.mpr ⟨ev_d_45_0, fun _ h => absurd h List.not_mem_nil⟩
def ev_c_46_0 : List (Nat × Instr × Nat) := [(0, .iconst 0, 1), (1, .istore 4, 2), (3, .iload 4, 2), (5, .iload_n 1, 1), (6, .if_icmp .ge 33, 3), (9, .aload_n 0, 1), (10, .getfield 25, 3), (13, .iload 4, 2), (15, .iaload, 1), (16, .iload_n 2, 1), (17, .if_icmp .ne 16, 3), (20, .aload_n 0, 1), (21, .iload_n 1, 1), (22, .iload 4, 2), (24, .iload_n 3, 1), (25, .invokevirtual 132, 3), (28, .ifCond .eq 5, 3), (31, .iconst 1, 1)]
set_option maxRecDepth 100000 in
theorem ev_d_46_0 : ∀ q ∈ ev_c_46_0, decode prog_4_method_19_code q.1 = .ok (q.2.1, q.2.2) := fd_rows (by decide +kernel)
def ev_c_46_1 : List (Nat × Instr × Nat) := [(32, .ireturn, 1), (33, .iinc 4 1, 3), (36, .goto (-33), 3), (39, .iconst 0, 1), (40, .ireturn, 1)]
set_option maxRecDepth 100000 in
theorem ev_d_46_1 : ∀ q ∈ ev_c_46_1, decode prog_4_method_19_code q.1 = .ok (q.2.1, q.2.2) := fd_rows (by decide +kernel)
def ev_c_46 : List (Nat × List (Nat × Instr × Nat)) := [(0, ev_c_46_0), (1, ev_c_46_1)]
set_option maxRecDepth 100000 in
theorem ev_d_46 : ∀ q ∈ ev_c_46, ∀ z ∈ q.2, decode prog_4_method_19_code z.1 = .ok (z.2.1, z.2.2) := List.forall_mem_cons.mpr ⟨ev_d_46_0, List.forall_mem_cons.mpr ⟨ev_d_46_1, fun _ h => absurd h List.not_mem_nil⟩⟩
def ev_c_47_0 : List (Nat × Instr × Nat) := [(0, .iconst (-1), 1), (1, .istore_n 2, 1), (2, .bipush 12, 2), (4, .istore_n 3, 1), (5, .iconst 0, 1), (6, .istore 4, 2), (8, .iload 4, 2), (10, .aload_n 0, 1), (11, .getfield 21, 3), (14, .getfield 107, 3), (17, .if_icmp .ge 46, 3), (20, .aload_n 0, 1), (21, .iload 4, 2), (23, .iload_n 1, 1), (24, .invokevirtual 135, 3), (27, .istore 5, 2), (29, .aload_n 0, 1), (30, .getfield 21, 3)]
set_option maxRecDepth 100000 in
theorem ev_d_47_0 : ∀ q ∈ ev_c_47_0, decode prog_4_method_20_code q.1 = .ok (q.2.1, q.2.2) := fd_rows (by decide +kernel)
def ev_c_47_1 : List (Nat × Instr × Nat) := [(33, .getfield 75, 3), (36, .iload 4, 2), (38, .aaload, 1), (39, .getfield 79, 3), (42, .ifCond .ne 15, 3), (45, .iload 5, 2), (47, .iload_n 3, 1), (48, .if_icmp .ge 9, 3), (51, .iload 4, 2), (53, .istore_n 2, 1), (54, .iload 5, 2), (56, .istore_n 3, 1), (57, .iinc 4 1, 3), (60, .goto (-52), 3), (63, .iload_n 2, 1)]
set_option maxRecDepth 100000 in
theorem ev_d_47_1 : ∀ q ∈ ev_c_47_1, decode prog_4_method_20_code q.1 = .ok (q.2.1, q.2.2) := fd_rows (by decide +kernel)
def ev_c_47_2 : List (Nat × Instr × Nat) := [(64, .ireturn, 1)]
set_option maxRecDepth 100000 in
theorem ev_d_47_2 : ∀ q ∈ ev_c_47_2, decode prog_4_method_20_code q.1 = .ok (q.2.1, q.2.2) := fd_rows (by decide +kernel)
def ev_c_47 : List (Nat × List (Nat × Instr × Nat)) := [(0, ev_c_47_0), (1, ev_c_47_1), (2, ev_c_47_2)]
set_option maxRecDepth 100000 in
theorem ev_d_47 : ∀ q ∈ ev_c_47, ∀ z ∈ q.2, decode prog_4_method_20_code z.1 = .ok (z.2.1, z.2.2) := List.forall_mem_cons.mpr ⟨ev_d_47_0, List.forall_mem_cons.mpr ⟨ev_d_47_1, List.forall_mem_cons.mpr ⟨ev_d_47_2, fun _ h => absurd h List.not_mem_nil⟩⟩⟩
def ev_c_48_0 : List (Nat × Instr × Nat) := [(0, .iconst 0, 1), (1, .istore_n 3, 1), (2, .iconst 0, 1), (3, .istore 4, 2), (5, .iload 4, 2), (7, .aload_n 0, 1), (8, .getfield 21, 3), (11, .getfield 107, 3), (14, .if_icmp .ge 39, 3), (17, .aload_n 0, 1), (18, .getfield 21, 3), (21, .getfield 75, 3), (24, .iload 4, 2), (26, .aaload, 1), (27, .getfield 79, 3), (30, .ifCond .ne 17, 3)]
set_option maxRecDepth 100000 in
theorem ev_d_48_0 : ∀ q ∈ ev_c_48_0, decode prog_4_method_21_code q.1 = .ok (q.2.1, q.2.2) := fd_rows (by decide +kernel)
def ev_c_48_1 : List (Nat × Instr × Nat) := [(33, .aload_n 0, 1), (34, .iload_n 1, 1), (35, .iload 4, 2), (37, .iload_n 2, 1), (38, .invokevirtual 132, 3), (41, .ifCond .eq 6, 3), (44, .iinc 3 1, 3), (47, .iinc 4 1, 3), (50, .goto (-45), 3), (53, .iload_n 3, 1), (54, .ireturn, 1)]
set_option maxRecDepth 100000 in
theorem ev_d_48_1 : ∀ q ∈ ev_c_48_1, decode prog_4_method_21_code q.1 = .ok (q.2.1, q.2.2) := fd_rows (by decide +kernel)
def ev_c_48 : List (Nat × List (Nat × Instr × Nat)) := [(0, ev_c_48_0), (1, ev_c_48_1)]
set_option maxRecDepth 100000 in
theorem ev_d_48 : ∀ q ∈ ev_c_48, ∀ z ∈ q.2, decode prog_4_method_21_code z.1 = .ok (z.2.1, z.2.2) := List.forall_mem_cons.mpr ⟨ev_d_48_0, List.forall_mem_cons.mpr ⟨ev_d_48_1, fun _ h => absurd h List.not_mem_nil⟩⟩
def ev_c_49_0 : List (Nat × Instr × Nat) := [(0, .iconst 0, 1), (1, .istore_n 1, 1), (2, .iload_n 1, 1), (3, .aload_n 0, 1), (4, .getfield 12, 3), (7, .getfield 138, 3), (10, .if_icmp .ge 24, 3), (13, .aload_n 0, 1), (14, .getfield 21, 3), (17, .getfield 141, 3), (20, .iload_n 1, 1), (21, .iaload, 1), (22, .iconst (-1), 1), (23, .if_icmp .ne 5, 3), (26, .iload_n 1, 1), (27, .ireturn, 1), (28, .iinc 1 1, 3), (31, .goto (-29), 3)]
set_option maxRecDepth 100000 in
theorem ev_d_49_0 : ∀ q ∈ ev_c_49_0, decode prog_4_method_22_code q.1 = .ok (q.2.1, q.2.2) := fd_rows (by decide +kernel)
def ev_c_49_1 : List (Nat × Instr × Nat) := [(34, .iconst (-1), 1), (35, .ireturn, 1)]
set_option maxRecDepth 100000 in
theorem ev_d_49_1 : ∀ q ∈ ev_c_49_1, decode prog_4_method_22_code q.1 = .ok (q.2.1, q.2.2) := fd_rows (by decide +kernel)
def ev_c_49 : List (Nat × List (Nat × Instr × Nat)) := [(0, ev_c_49_0), (1, ev_c_49_1)]
set_option maxRecDepth 100000 in
theorem ev_d_49 : ∀ q ∈ ev_c_49, ∀ z ∈ q.2, decode prog_4_method_22_code z.1 = .ok (z.2.1, z.2.2) := List.forall_mem_cons.mpr ⟨ev_d_49_0, List.forall_mem_cons.mpr ⟨ev_d_49_1, fun _ h => absurd h List.not_mem_nil⟩⟩
def ev_c_50_0 : List (Nat × Instr × Nat) := [(0, .aload_n 0, 1), (1, .getfield 21, 3), (4, .getfield 75, 3), (7, .iload_n 1, 1), (8, .aaload, 1), (9, .getfield 79, 3), (12, .ifCond .ne 15, 3), (15, .aload_n 0, 1), (16, .invokevirtual 143, 3), (19, .iconst (-1), 1), (20, .if_icmp .eq 7, 3), (23, .iconst 1, 1), (24, .goto 4, 3), (27, .iconst 0, 1), (28, .ireturn, 1)]
set_option maxRecDepth 100000 in
theorem ev_d_50_0 : ∀ q ∈ ev_c_50_0, decode prog_4_method_23_code q.1 = .ok (q.2.1, q.2.2) := fd_rows (by decide +kernel)
def ev_c_50 : List (Nat × List (Nat × Instr × Nat)) := [(0, ev_c_50_0)]
set_option maxRecDepth 100000 in
theorem ev_d_50 : ∀ q ∈ ev_c_50, ∀ z ∈ q.2, decode prog_4_method_23_code z.1 = .ok (z.2.1, z.2.2) := List.forall_mem_cons.mpr ⟨ev_d_50_0, fun _ h => absurd h List.not_mem_nil⟩
def ev_c_51_0 : List (Nat × Instr × Nat) := [(0, .aload_n 0, 1), (1, .invokevirtual 143, 3), (4, .istore_n 2, 1), (5, .iload_n 2, 1), (6, .iconst (-1), 1), (7, .if_icmp .eq 12, 3), (10, .aload_n 0, 1), (11, .getfield 21, 3), (14, .iload_n 1, 1), (15, .iload_n 2, 1), (16, .invokevirtual 146, 3), (19, .iload_n 2, 1), (20, .ireturn, 1)]
set_option maxRecDepth 100000 in
theorem ev_d_51_0 : ∀ q ∈ ev_c_51_0, decode prog_4_method_24_code q.1 = .ok (q.2.1, q.2.2) := fd_rows (by decide +kernel)
def ev_c_51 : List (Nat × List (Nat × Instr × Nat)) := [(0, ev_c_51_0)]
set_option maxRecDepth 100000 in
theorem ev_d_51 : ∀ q ∈ ev_c_51, ∀ z ∈ q.2, decode prog_4_method_24_code z.1 = .ok (z.2.1, z.2.2) := List.forall_mem_cons.mpr ⟨ev_d_51_0, fun _ h => absurd h List.not_mem_nil⟩
def ev_c_52_0 : List (Nat × Instr × Nat) := [(0, .iconst 0, 1), (1, .istore_n 1, 1), (2, .iconst 0, 1), (3, .istore_n 2, 1), (4, .iload_n 2, 1), (5, .aload_n 0, 1), (6, .getfield 21, 3), (9, .getfield 107, 3), (12, .if_icmp .ge 41, 3), (15, .aload_n 0, 1), (16, .getfield 21, 3), (19, .getfield 75, 3), (22, .iload_n 2, 1), (23, .aaload, 1), (24, .getfield 149, 3), (27, .ifCond .le 20, 3), (30, .aload_n 0, 1), (31, .iload_n 2, 1)]
set_option maxRecDepth 100000 in
theorem ev_d_52_0 : ∀ q ∈ ev_c_52_0, decode prog_4_method_25_code q.1 = .ok (q.2.1, q.2.2) := fd_rows (by decide +kernel)
def ev_c_52_1 : List (Nat × Instr × Nat) := [(32, .invokevirtual 152, 3), (35, .ifCond .eq 12, 3), (38, .aload_n 0, 1), (39, .iload_n 2, 1), (40, .invokevirtual 155, 3), (43, .pop, 1), (44, .iinc 1 1, 3), (47, .iinc 2 1, 3), (50, .goto (-46), 3), (53, .iload_n 1, 1), (54, .ireturn, 1)]
set_option maxRecDepth 100000 in
theorem ev_d_52_1 : ∀ q ∈ ev_c_52_1, decode prog_4_method_25_code q.1 = .ok (q.2.1, q.2.2) := fd_rows (by decide +kernel)
def ev_c_52 : List (Nat × List (Nat × Instr × Nat)) := [(0, ev_c_52_0), (1, ev_c_52_1)]
set_option maxRecDepth 100000 in
theorem ev_d_52 : ∀ q ∈ ev_c_52, ∀ z ∈ q.2, decode prog_4_method_25_code z.1 = .ok (z.2.1, z.2.2) := List.forall_mem_cons.mpr ⟨ev_d_52_0, List.forall_mem_cons.mpr ⟨ev_d_52_1, fun _ h => absurd h List.not_mem_nil⟩⟩
def ev_c_53_0 : List (Nat × Instr × Nat) := [(0, .iconst 0, 1), (1, .iload_n 2, 1), (2, .aload_n 0, 1), (3, .getfield 12, 3), (6, .getfield 158, 3), (9, .iload_n 1, 1), (10, .iaload, 1), (11, .isub, 1), (12, .invokestatic 125, 3), (15, .ireturn, 1)]
set_option maxRecDepth 100000 in
theorem ev_d_53_0 : ∀ q ∈ ev_c_53_0, decode prog_4_method_26_code q.1 = .ok (q.2.1, q.2.2) := fd_rows (by decide +kernel)
def ev_c_53 : List (Nat × List (Nat × Instr × Nat)) := [(0, ev_c_53_0)]
set_option maxRecDepth 100000 in
theorem ev_d_53 : ∀ q ∈ ev_c_53, ∀ z ∈ q.2, decode prog_4_method_26_code z.1 = .ok (z.2.1, z.2.2) := List.forall_mem_cons.mpr ⟨ev_d_53_0, fun _ h => absurd h List.not_mem_nil⟩
def ev_c_54_0 : List (Nat × Instr × Nat) := [(0, .aload_n 0, 1), (1, .getfield 21, 3), (4, .iload_n 1, 1), (5, .invokevirtual 161, 3), (8, .ifCond .eq 15, 3), (11, .aload_n 0, 1), (12, .getfield 21, 3), (15, .getfield 164, 3), (18, .iload_n 1, 1), (19, .iaload, 1), (20, .goto 15, 3), (23, .aload_n 0, 1), (24, .iload_n 1, 1), (25, .aload_n 0, 1), (26, .getfield 21, 3), (29, .getfield 167, 3)]
set_option maxRecDepth 100000 in
theorem ev_d_54_0 : ∀ q ∈ ev_c_54_0, decode prog_4_method_27_code q.1 = .ok (q.2.1, q.2.2) := fd_rows (by decide +kernel)
def ev_c_54_1 : List (Nat × Instr × Nat) := [(32, .invokevirtual 170, 3), (35, .ireturn, 1)]
set_option maxRecDepth 100000 in
theorem ev_d_54_1 : ∀ q ∈ ev_c_54_1, decode prog_4_method_27_code q.1 = .ok (q.2.1, q.2.2) := fd_rows (by decide +kernel)
def ev_c_54 : List (Nat × List (Nat × Instr × Nat)) := [(0, ev_c_54_0), (1, ev_c_54_1)]
set_option maxRecDepth 100000 in
theorem ev_d_54 : ∀ q ∈ ev_c_54, ∀ z ∈ q.2, decode prog_4_method_27_code z.1 = .ok (z.2.1, z.2.2) := List.forall_mem_cons.mpr ⟨ev_d_54_0, List.forall_mem_cons.mpr ⟨ev_d_54_1, fun _ h => absurd h List.not_mem_nil⟩⟩
def ev_c_55_0 : List (Nat × Instr × Nat) := [(0, .iconst 0, 1), (1, .aload_n 0, 1), (2, .getfield 12, 3), (5, .getfield 173, 3), (8, .iload_n 1, 1), (9, .iaload, 1), (10, .aload_n 0, 1), (11, .getfield 12, 3), (14, .getfield 176, 3), (17, .iload_n 1, 1), (18, .iaload, 1), (19, .aload_n 0, 1), (20, .iload_n 1, 1), (21, .iload_n 2, 1), (22, .invokevirtual 170, 3), (25, .imul, 1), (26, .isub, 1), (27, .invokestatic 125, 3), (30, .ireturn, 1)]
set_option maxRecDepth 100000 in
theorem ev_d_55_0 : ∀ q ∈ ev_c_55_0, decode prog_4_method_28_code q.1 = .ok (q.2.1, q.2.2) := fd_rows (by decide +kernel)
def ev_c_55 : List (Nat × List (Nat × Instr × Nat)) := [(0, ev_c_55_0)]
set_option maxRecDepth 100000 in
theorem ev_d_55 : ∀ q ∈ ev_c_55, ∀ z ∈ q.2, decode prog_4_method_28_code z.1 = .ok (z.2.1, z.2.2) := List.forall_mem_cons.mpr ⟨ev_d_55_0, fun _ h => absurd h List.not_mem_nil⟩
def ev_c_56_0 : List (Nat × Instr × Nat) := [(0, .aload_n 0, 1), (1, .getfield 21, 3), (4, .iload_n 1, 1), (5, .invokevirtual 161, 3), (8, .ifCond .eq 7, 3), (11, .iconst 0, 1), (12, .goto 26, 3), (15, .aload_n 0, 1), (16, .iload_n 1, 1), (17, .aload_n 0, 1), (18, .getfield 21, 3), (21, .getfield 167, 3), (24, .iload_n 2, 1), (25, .iadd, 1), (26, .invokevirtual 179, 3), (29, .aload_n 0, 1), (30, .getfield 21, 3)]
set_option maxRecDepth 100000 in
theorem ev_d_56_0 : ∀ q ∈ ev_c_56_0, decode prog_4_method_29_code q.1 = .ok (q.2.1, q.2.2) := fd_rows (by decide +kernel)
def ev_c_56_1 : List (Nat × Instr × Nat) := [(33, .iload_n 1, 1), (34, .invokevirtual 182, 3), (37, .imul, 1), (38, .ireturn, 1)]
set_option maxRecDepth 100000 in
theorem ev_d_56_1 : ∀ q ∈ ev_c_56_1, decode prog_4_method_29_code q.1 = .ok (q.2.1, q.2.2) := fd_rows (by decide +kernel)
def ev_c_56 : List (Nat × List (Nat × Instr × Nat)) := [(0, ev_c_56_0), (1, ev_c_56_1)]
set_option maxRecDepth 100000 in
theorem ev_d_56 : ∀ q ∈ ev_c_56, ∀ z ∈ q.2, decode prog_4_method_29_code z.1 = .ok (z.2.1, z.2.2) := List.forall_mem_cons.mpr ⟨ev_d_56_0, List.forall_mem_cons.mpr ⟨ev_d_56_1, fun _ h => absurd h List.not_mem_nil⟩⟩
def ev_c_57_0 : List (Nat × Instr × Nat) := [(0, .aload_n 0, 1), (1, .getfield 21, 3), (4, .iload_n 1, 1), (5, .invokevirtual 161, 3), (8, .ifCond .ne 14, 3), (11, .aload_n 0, 1), (12, .getfield 21, 3), (15, .iload_n 1, 1), (16, .invokevirtual 182, 3), (19, .ifCond .ne 5, 3), (22, .iconst (-1), 1), (23, .ireturn, 1), (24, .aload_n 0, 1), (25, .getfield 12, 3), (28, .getfield 176, 3), (31, .iload_n 1, 1)]
set_option maxRecDepth 100000 in
theorem ev_d_57_0 : ∀ q ∈ ev_c_57_0, decode prog_4_method_30_code q.1 = .ok (q.2.1, q.2.2) := fd_rows (by decide +kernel)
def ev_c_57_1 : List (Nat × Instr × Nat) := [(32, .iaload, 1), (33, .istore_n 2, 1), (34, .iload_n 2, 1), (35, .ifCond .gt 7, 3), (38, .sipush 999, 3), (41, .ireturn, 1), (42, .aload_n 0, 1), (43, .getfield 12, 3), (46, .getfield 158, 3), (49, .iload_n 1, 1), (50, .iaload, 1), (51, .aload_n 0, 1), (52, .getfield 12, 3), (55, .getfield 173, 3), (58, .iload_n 1, 1), (59, .iaload, 1), (60, .iconst 1, 1), (61, .isub, 1), (62, .iload_n 2, 1), (63, .idiv, 1)]
set_option maxRecDepth 100000 in
theorem ev_d_57_1 : ∀ q ∈ ev_c_57_1, decode prog_4_method_30_code q.1 = .ok (q.2.1, q.2.2) := fd_rows (by decide +kernel)
def ev_c_57_2 : List (Nat × Instr × Nat) := [(64, .iadd, 1), (65, .istore_n 3, 1), (66, .iload_n 3, 1), (67, .aload_n 0, 1), (68, .getfield 21, 3), (71, .getfield 167, 3), (74, .if_icmp .ge 7, 3), (77, .iconst (-1), 1), (78, .goto 4, 3), (81, .iload_n 3, 1), (82, .ireturn, 1)]
set_option maxRecDepth 100000 in
theorem ev_d_57_2 : ∀ q ∈ ev_c_57_2, decode prog_4_method_30_code q.1 = .ok (q.2.1, q.2.2) := fd_rows (by decide +kernel)
def ev_c_57 : List (Nat × List (Nat × Instr × Nat)) := [(0, ev_c_57_0), (1, ev_c_57_1), (2, ev_c_57_2)]
set_option maxRecDepth 100000 in
theorem ev_d_57 : ∀ q ∈ ev_c_57, ∀ z ∈ q.2, decode prog_4_method_30_code z.1 = .ok (z.2.1, z.2.2) := List.forall_mem_cons.mpr ⟨ev_d_57_0, List.forall_mem_cons.mpr ⟨ev_d_57_1, List.forall_mem_cons.mpr ⟨ev_d_57_2, fun _ h => absurd h List.not_mem_nil⟩⟩⟩
def ev_c_58_0 : List (Nat × Instr × Nat) := [(0, .iconst (-1), 1), (1, .istore_n 1, 1), (2, .iconst 0, 1), (3, .istore_n 2, 1), (4, .iconst 0, 1), (5, .istore_n 3, 1), (6, .iload_n 3, 1), (7, .aload_n 0, 1), (8, .getfield 12, 3), (11, .getfield 185, 3), (14, .if_icmp .ge 35, 3), (17, .aload_n 0, 1), (18, .iload_n 3, 1), (19, .iconst 0, 1), (20, .invokevirtual 188, 3), (23, .aload_n 0, 1), (24, .iload_n 3, 1), (25, .iconst 1, 1), (26, .invokevirtual 188, 3), (29, .isub, 1), (30, .istore 4, 2)]
set_option maxRecDepth 100000 in
theorem ev_d_58_0 : ∀ q ∈ ev_c_58_0, decode prog_4_method_31_code q.1 = .ok (q.2.1, q.2.2) := fd_rows (by decide +kernel)
def ev_c_58_1 : List (Nat × Instr × Nat) := [(32, .iload 4, 2), (34, .iload_n 2, 1), (35, .if_icmp .le 8, 3), (38, .iload_n 3, 1), (39, .istore_n 1, 1), (40, .iload 4, 2), (42, .istore_n 2, 1), (43, .iinc 3 1, 3), (46, .goto (-40), 3), (49, .iload_n 1, 1), (50, .ireturn, 1)]
set_option maxRecDepth 100000 in
theorem ev_d_58_1 : ∀ q ∈ ev_c_58_1, decode prog_4_method_31_code q.1 = .ok (q.2.1, q.2.2) := fd_rows (by decide +kernel)
def ev_c_58 : List (Nat × List (Nat × Instr × Nat)) := [(0, ev_c_58_0), (1, ev_c_58_1)]
set_option maxRecDepth 100000 in
theorem ev_d_58 : ∀ q ∈ ev_c_58, ∀ z ∈ q.2, decode prog_4_method_31_code z.1 = .ok (z.2.1, z.2.2) := List.forall_mem_cons.mpr ⟨ev_d_58_0, List.forall_mem_cons.mpr ⟨ev_d_58_1, fun _ h => absurd h List.not_mem_nil⟩⟩
def ev_c_59_0 : List (Nat × Instr × Nat) := [(0, .aload_n 0, 1), (1, .getfield 21, 3), (4, .iload_n 1, 1), (5, .invokevirtual 182, 3), (8, .ifCond .le 30, 3), (11, .aload_n 0, 1), (12, .getfield 21, 3), (15, .iload_n 1, 1), (16, .invokevirtual 161, 3), (19, .ifCond .ne 19, 3), (22, .aload_n 0, 1), (23, .getfield 21, 3), (26, .iload_n 1, 1), (27, .invokevirtual 191, 3), (30, .iconst (-1), 1), (31, .if_icmp .ne 7, 3)]
set_option maxRecDepth 100000 in
theorem ev_d_59_0 : ∀ q ∈ ev_c_59_0, decode prog_4_method_32_code q.1 = .ok (q.2.1, q.2.2) := fd_rows (by decide +kernel)
def ev_c_59_1 : List (Nat × Instr × Nat) := [(34, .iconst 1, 1), (35, .goto 4, 3), (38, .iconst 0, 1), (39, .ireturn, 1)]
set_option maxRecDepth 100000 in
theorem ev_d_59_1 : ∀ q ∈ ev_c_59_1, decode prog_4_method_32_code q.1 = .ok (q.2.1, q.2.2) := fd_rows (by decide +kernel)
def ev_c_59 : List (Nat × List (Nat × Instr × Nat)) := [(0, ev_c_59_0), (1, ev_c_59_1)]
set_option maxRecDepth 100000 in
theorem ev_d_59 : ∀ q ∈ ev_c_59, ∀ z ∈ q.2, decode prog_4_method_32_code z.1 = .ok (z.2.1, z.2.2) := List.forall_mem_cons.mpr ⟨ev_d_59_0, List.forall_mem_cons.mpr ⟨ev_d_59_1, fun _ h => absurd h List.not_mem_nil⟩⟩
def ev_c_60_0 : List (Nat × Instr × Nat) := [(0, .aload_n 0, 1), (1, .iload_n 1, 1), (2, .iconst 0, 1), (3, .invokevirtual 188, 3), (6, .istore_n 2, 1), (7, .aload_n 0, 1), (8, .getfield 21, 3), (11, .dup, 1), (12, .getfield 194, 3), (15, .iload_n 2, 1), (16, .iadd, 1), (17, .putfield 194, 3), (20, .aload_n 0, 1), (21, .getfield 21, 3), (24, .dup, 1), (25, .getfield 197, 3), (28, .aload_n 0, 1), (29, .getfield 12, 3)]
set_option maxRecDepth 100000 in
theorem ev_d_60_0 : ∀ q ∈ ev_c_60_0, decode prog_4_method_33_code q.1 = .ok (q.2.1, q.2.2) := fd_rows (by decide +kernel)
def ev_c_60_1 : List (Nat × Instr × Nat) := [(32, .getfield 173, 3), (35, .iload_n 1, 1), (36, .iaload, 1), (37, .aload_n 0, 1), (38, .getfield 21, 3), (41, .iload_n 1, 1), (42, .invokevirtual 182, 3), (45, .imul, 1), (46, .iload_n 2, 1), (47, .isub, 1), (48, .iadd, 1), (49, .putfield 197, 3), (52, .aload_n 0, 1), (53, .getfield 21, 3), (56, .getfield 164, 3), (59, .iload_n 1, 1), (60, .aload_n 0, 1), (61, .iload_n 1, 1), (62, .aload_n 0, 1), (63, .getfield 21, 3)]
set_option maxRecDepth 100000 in
theorem ev_d_60_1 : ∀ q ∈ ev_c_60_1, decode prog_4_method_33_code q.1 = .ok (q.2.1, q.2.2) := fd_rows (by decide +kernel)
def ev_c_60_2 : List (Nat × Instr × Nat) := [(66, .getfield 167, 3), (69, .invokevirtual 170, 3), (72, .iastore, 1), (73, .iconst 0, 1), (74, .istore_n 3, 1), (75, .iload_n 3, 1), (76, .aload_n 0, 1), (77, .getfield 21, 3), (80, .getfield 107, 3), (83, .if_icmp .ge 39, 3), (86, .aload_n 0, 1), (87, .getfield 21, 3), (90, .getfield 75, 3), (93, .iload_n 3, 1), (94, .aaload, 1), (95, .getfield 200, 3)]
set_option maxRecDepth 100000 in
theorem ev_d_60_2 : ∀ q ∈ ev_c_60_2, decode prog_4_method_33_code q.1 = .ok (q.2.1, q.2.2) := fd_rows (by decide +kernel)
def ev_c_60_3 : List (Nat × Instr × Nat) := [(98, .iload_n 1, 1), (99, .if_icmp .ne 17, 3), (102, .aload_n 0, 1), (103, .getfield 21, 3), (106, .getfield 75, 3), (109, .iload_n 3, 1), (110, .aaload, 1), (111, .iconst 3, 1), (112, .iconst (-1), 1), (113, .invokevirtual 203, 3), (116, .iinc 3 1, 3), (119, .goto (-44), 3), (122, .iload_n 2, 1), (123, .ireturn, 1)]
set_option maxRecDepth 100000 in
theorem ev_d_60_3 : ∀ q ∈ ev_c_60_3, decode prog_4_method_33_code q.1 = .ok (q.2.1, q.2.2) := fd_rows (by decide +kernel)
def ev_c_60 : List (Nat × List (Nat × Instr × Nat)) := [(0, ev_c_60_0), (1, ev_c_60_1), (2, ev_c_60_2), (3, ev_c_60_3)]
set_option maxRecDepth 100000 in
theorem ev_d_60 : ∀ q ∈ ev_c_60, ∀ z ∈ q.2, decode prog_4_method_33_code z.1 = .ok (z.2.1, z.2.2) := List.forall_mem_cons.mpr ⟨ev_d_60_0, List.forall_mem_cons.mpr ⟨ev_d_60_1, List.forall_mem_cons.mpr ⟨ev_d_60_2, List.forall_mem_cons.mpr ⟨ev_d_60_3, fun _ h => absurd h List.not_mem_nil⟩⟩⟩⟩
def ev_c_61_0 : List (Nat × Instr × Nat) := [(0, .aload_n 0, 1), (1, .getfield 21, 3), (4, .iconst 0, 1), (5, .invokevirtual 206, 3), (8, .aload_n 0, 1), (9, .getfield 21, 3), (12, .iconst 1, 1), (13, .invokevirtual 206, 3), (16, .iadd, 1), (17, .aload_n 0, 1), (18, .getfield 21, 3), (21, .iconst 2, 1), (22, .invokevirtual 206, 3), (25, .iadd, 1), (26, .aload_n 0, 1), (27, .getfield 21, 3), (30, .iconst 3, 1), (31, .invokevirtual 206, 3)]
set_option maxRecDepth 100000 in
theorem ev_d_61_0 : ∀ q ∈ ev_c_61_0, decode prog_4_method_34_code q.1 = .ok (q.2.1, q.2.2) := fd_rows (by decide +kernel)
def ev_c_61_1 : List (Nat × Instr × Nat) := [(34, .iadd, 1), (35, .istore_n 1, 1), (36, .iconst 0, 1), (37, .istore_n 2, 1), (38, .iconst 0, 1), (39, .istore_n 3, 1), (40, .iconst 0, 1), (41, .istore 4, 2), (43, .iload 4, 2), (45, .aload_n 0, 1), (46, .getfield 21, 3), (49, .getfield 107, 3), (52, .if_icmp .ge 72, 3), (55, .aload_n 0, 1), (56, .getfield 21, 3), (59, .getfield 75, 3), (62, .iload 4, 2)]
set_option maxRecDepth 100000 in
theorem ev_d_61_1 : ∀ q ∈ ev_c_61_1, decode prog_4_method_34_code q.1 = .ok (q.2.1, q.2.2) := fd_rows (by decide +kernel)
def ev_c_61_2 : List (Nat × Instr × Nat) := [(64, .aaload, 1), (65, .astore 5, 2), (67, .iload_n 2, 1), (68, .aload 5, 2), (70, .getfield 79, 3), (73, .iconst 3, 1), (74, .if_icmp .ne 19, 3), (77, .aload_n 0, 1), (78, .getfield 12, 3), (81, .getfield 173, 3), (84, .aload 5, 2), (86, .getfield 200, 3), (89, .iaload, 1), (90, .goto 4, 3), (93, .iconst 0, 1), (94, .iadd, 1), (95, .istore_n 2, 1)]
set_option maxRecDepth 100000 in
theorem ev_d_61_2 : ∀ q ∈ ev_c_61_2, decode prog_4_method_34_code q.1 = .ok (q.2.1, q.2.2) := fd_rows (by decide +kernel)
def ev_c_61_3 : List (Nat × Instr × Nat) := [(96, .iload_n 3, 1), (97, .aload 5, 2), (99, .getfield 209, 3), (102, .aload 5, 2), (104, .getfield 55, 3), (107, .iand, 1), (108, .ifCond .eq 7, 3), (111, .iconst 1, 1), (112, .goto 4, 3), (115, .iconst 0, 1), (116, .iadd, 1), (117, .istore_n 3, 1), (118, .iinc 4 1, 3), (121, .goto (-78), 3), (124, .aload_n 0, 1), (125, .getfield 21, 3)]
set_option maxRecDepth 100000 in
theorem ev_d_61_3 : ∀ q ∈ ev_c_61_3, decode prog_4_method_34_code q.1 = .ok (q.2.1, q.2.2) := fd_rows (by decide +kernel)
def ev_c_61_4 : List (Nat × Instr × Nat) := [(128, .getfield 107, 3), (131, .iload_n 1, 1), (132, .isub, 1), (133, .invokestatic 212, 3), (136, .aload_n 0, 1), (137, .getfield 21, 3), (140, .getfield 194, 3), (143, .aload_n 0, 1), (144, .getfield 21, 3), (147, .getfield 197, 3), (150, .iadd, 1), (151, .iload_n 2, 1), (152, .isub, 1), (153, .invokestatic 212, 3), (156, .iadd, 1), (157, .iload_n 3, 1), (158, .iadd, 1), (159, .ireturn, 1)]
set_option maxRecDepth 100000 in
theorem ev_d_61_4 : ∀ q ∈ ev_c_61_4, decode prog_4_method_34_code q.1 = .ok (q.2.1, q.2.2) := fd_rows (by decide +kernel)
def ev_c_61 : List (Nat × List (Nat × Instr × Nat)) := [(0, ev_c_61_0), (1, ev_c_61_1), (2, ev_c_61_2), (3, ev_c_61_3), (4, ev_c_61_4)]
set_option maxRecDepth 100000 in
theorem ev_d_61 : ∀ q ∈ ev_c_61, ∀ z ∈ q.2, decode prog_4_method_34_code z.1 = .ok (z.2.1, z.2.2) := List.forall_mem_cons.mpr ⟨ev_d_61_0, List.forall_mem_cons.mpr ⟨ev_d_61_1, List.forall_mem_cons.mpr ⟨ev_d_61_2, List.forall_mem_cons.mpr ⟨ev_d_61_3, List.forall_mem_cons.mpr ⟨ev_d_61_4, fun _ h => absurd h List.not_mem_nil⟩⟩⟩⟩⟩
def ev_c_62_0 : List (Nat × Instr × Nat) := [(0, .aload_n 0, 1), (1, .invokespecial 3, 3), (4, .aload_n 0, 1), (5, .iconst (-1), 1), (6, .putfield 9, 3), (9, .return_, 1)]
set_option maxRecDepth 100000 in
theorem ev_d_62_0 : ∀ q ∈ ev_c_62_0, decode prog_5_method_1_code q.1 = .ok (q.2.1, q.2.2) := fd_rows (by decide +kernel)
def ev_c_62 : List (Nat × List (Nat × Instr × Nat)) := [(0, ev_c_62_0)]
set_option maxRecDepth 100000 in
theorem ev_d_62 : ∀ q ∈ ev_c_62, ∀ z ∈ q.2, decode prog_5_method_1_code z.1 = .ok (z.2.1, z.2.2) := List.forall_mem_cons.mpr ⟨ev_d_62_0, fun _ h => absurd h List.not_mem_nil⟩
def ev_c_63_0 : List (Nat × Instr × Nat) := [(0, .aload_n 0, 1), (1, .aload_n 1, 1), (2, .putfield 15, 3), (5, .aload_n 0, 1), (6, .iload_n 2, 1), (7, .aload_n 1, 1), (8, .arraylength, 1), (9, .invokestatic 19, 3), (12, .putfield 25, 3), (15, .aload_n 0, 1), (16, .iconst 0, 1), (17, .putfield 28, 3), (20, .aload_n 0, 1), (21, .iconst 0, 1), (22, .putfield 31, 3), (25, .aload_n 0, 1), (26, .iconst 0, 1), (27, .putfield 34, 3), (30, .aload_n 0, 1), (31, .iconst (-1), 1)]
set_option maxRecDepth 100000 in
theorem ev_d_63_0 : ∀ q ∈ ev_c_63_0, decode prog_5_method_2_code q.1 = .ok (q.2.1, q.2.2) := fd_rows (by decide +kernel)
def ev_c_63_1 : List (Nat × Instr × Nat) := [(32, .putfield 9, 3), (35, .aload_n 0, 1), (36, .aload_n 3, 1), (37, .putfield 37, 3), (40, .aload_n 0, 1), (41, .getfield 37, 3), (44, .invokevirtual 41, 3), (47, .aload_n 0, 1), (48, .invokevirtual 46, 3), (51, .iconst 0, 1), (52, .istore 4, 2), (54, .iload 4, 2), (56, .aload_n 0, 1), (57, .getfield 25, 3), (60, .if_icmp .ge 32, 3), (63, .aload_n 0, 1)]
set_option maxRecDepth 100000 in
theorem ev_d_63_1 : ∀ q ∈ ev_c_63_1, decode prog_5_method_2_code q.1 = .ok (q.2.1, q.2.2) := fd_rows (by decide +kernel)
def ev_c_63_2 : List (Nat × Instr × Nat) := [(64, .invokevirtual 49, 3), (67, .ifCond .ne 25, 3), (70, .aload_n 0, 1), (71, .getfield 31, 3), (74, .iconst 3, 1), (75, .if_icmp .ne 17, 3), (78, .aload_n 0, 1), (79, .invokevirtual 53, 3), (82, .aload_n 0, 1), (83, .invokevirtual 56, 3), (86, .iinc 4 1, 3), (89, .goto (-35), 3), (92, .aload_n 0, 1), (93, .invokevirtual 59, 3)]
set_option maxRecDepth 100000 in
theorem ev_d_63_2 : ∀ q ∈ ev_c_63_2, decode prog_5_method_2_code q.1 = .ok (q.2.1, q.2.2) := fd_rows (by decide +kernel)
def ev_c_63_3 : List (Nat × Instr × Nat) := [(96, .return_, 1)]
set_option maxRecDepth 100000 in
theorem ev_d_63_3 : ∀ q ∈ ev_c_63_3, decode prog_5_method_2_code q.1 = .ok (q.2.1, q.2.2) := fd_rows (by decide +kernel)
def ev_c_63 : List (Nat × List (Nat × Instr × Nat)) := [(0, ev_c_63_0), (1, ev_c_63_1), (2, ev_c_63_2), (3, ev_c_63_3)]
set_option maxRecDepth 100000 in
theorem ev_d_63 : ∀ q ∈ ev_c_63, ∀ z ∈ q.2, decode prog_5_method_2_code z.1 = .ok (z.2.1, z.2.2) := List.forall_mem_cons.mpr ⟨ev_d_63_0, List.forall_mem_cons.mpr ⟨ev_d_63_1, List.forall_mem_cons.mpr ⟨ev_d_63_2, List.forall_mem_cons.mpr ⟨ev_d_63_3, fun _ h => absurd h List.not_mem_nil⟩⟩⟩⟩
def ev_c_64_0 : List (Nat × Instr × Nat) := [(0, .aload_n 0, 1), (1, .getfield 34, 3), (4, .ifCond .eq 7, 3), (7, .iconst 1, 1), (8, .goto 4, 3), (11, .iconst 0, 1), (12, .ireturn, 1)]
set_option maxRecDepth 100000 in
theorem ev_d_64_0 : ∀ q ∈ ev_c_64_0, decode prog_5_method_3_code q.1 = .ok (q.2.1, q.2.2) := fd_rows (by decide +kernel)
def ev_c_64 : List (Nat × List (Nat × Instr × Nat)) := [(0, ev_c_64_0)]
set_option maxRecDepth 100000 in
theorem ev_d_64 : ∀ q ∈ ev_c_64, ∀ z ∈ q.2, decode prog_5_method_3_code z.1 = .ok (z.2.1, z.2.2) := List.forall_mem_cons.mpr ⟨ev_d_64_0, fun _ h => absurd h List.not_mem_nil⟩
def ev_c_65_0 : List (Nat × Instr × Nat) := [(0, .aload_n 0, 1), (1, .getfield 34, 3), (4, .ifCond .ne 16, 3), (7, .aload_n 0, 1), (8, .iload_n 1, 1), (9, .putfield 34, 3), (12, .aload_n 0, 1), (13, .aload_n 0, 1), (14, .getfield 62, 3), (17, .putfield 9, 3), (20, .return_, 1)]
set_option maxRecDepth 100000 in
theorem ev_d_65_0 : ∀ q ∈ ev_c_65_0, decode prog_5_method_4_code q.1 = .ok (q.2.1, q.2.2) := fd_rows (by decide +kernel)
def ev_c_65 : List (Nat × List (Nat × Instr × Nat)) := [(0, ev_c_65_0)]
set_option maxRecDepth 100000 in
theorem ev_d_65 : ∀ q ∈ ev_c_65, ∀ z ∈ q.2, decode prog_5_method_4_code z.1 = .ok (z.2.1, z.2.2) := List.forall_mem_cons.mpr ⟨ev_d_65_0, fun _ h => absurd h List.not_mem_nil⟩
def ev_c_66_0 : List (Nat × Instr × Nat) := [(0, .iload_n 1, 1), (1, .aload_n 0, 1), (2, .getfield 25, 3), (5, .if_icmp .ge 29, 3), (8, .aload_n 0, 1), (9, .getfield 15, 3), (12, .iload_n 1, 1), (13, .baload, 1), (14, .bipush 97, 2), (16, .if_icmp .lt 18, 3), (19, .aload_n 0, 1), (20, .getfield 15, 3), (23, .iload_n 1, 1), (24, .baload, 1), (25, .bipush 122, 2), (27, .if_icmp .gt 7, 3), (30, .iconst 1, 1), (31, .goto 4, 3)]
set_option maxRecDepth 100000 in
theorem ev_d_66_0 : ∀ q ∈ ev_c_66_0, decode prog_5_method_5_code q.1 = .ok (q.2.1, q.2.2) := fd_rows (by decide +kernel)
def ev_c_66_1 : List (Nat × Instr × Nat) := [(34, .iconst 0, 1), (35, .ireturn, 1)]
set_option maxRecDepth 100000 in
theorem ev_d_66_1 : ∀ q ∈ ev_c_66_1, decode prog_5_method_5_code q.1 = .ok (q.2.1, q.2.2) := fd_rows (by decide +kernel)
def ev_c_66 : List (Nat × List (Nat × Instr × Nat)) := [(0, ev_c_66_0), (1, ev_c_66_1)]
set_option maxRecDepth 100000 in
theorem ev_d_66 : ∀ q ∈ ev_c_66, ∀ z ∈ q.2, decode prog_5_method_5_code z.1 = .ok (z.2.1, z.2.2) := List.forall_mem_cons.mpr ⟨ev_d_66_0, List.forall_mem_cons.mpr ⟨ev_d_66_1, fun _ h => absurd h List.not_mem_nil⟩⟩
def ev_c_67_0 : List (Nat × Instr × Nat) := [(0, .iload_n 1, 1), (1, .aload_n 0, 1), (2, .getfield 25, 3), (5, .if_icmp .ge 29, 3), (8, .aload_n 0, 1), (9, .getfield 15, 3), (12, .iload_n 1, 1), (13, .baload, 1), (14, .bipush 48, 2), (16, .if_icmp .lt 18, 3), (19, .aload_n 0, 1), (20, .getfield 15, 3), (23, .iload_n 1, 1), (24, .baload, 1), (25, .bipush 57, 2), (27, .if_icmp .gt 7, 3), (30, .iconst 1, 1), (31, .goto 4, 3)]
set_option maxRecDepth 100000 in
theorem ev_d_67_0 : ∀ q ∈ ev_c_67_0, decode prog_5_method_6_code q.1 = .ok (q.2.1, q.2.2) := fd_rows (by decide +kernel)
def ev_c_67_1 : List (Nat × Instr × Nat) := [(34, .iconst 0, 1), (35, .ireturn, 1)]
set_option maxRecDepth 100000 in
theorem ev_d_67_1 : ∀ q ∈ ev_c_67_1, decode prog_5_method_6_code q.1 = .ok (q.2.1, q.2.2) := fd_rows (by decide +kernel)
def ev_c_67 : List (Nat × List (Nat × Instr × Nat)) := [(0, ev_c_67_0), (1, ev_c_67_1)]
set_option maxRecDepth 100000 in
theorem ev_d_67 : ∀ q ∈ ev_c_67, ∀ z ∈ q.2, decode prog_5_method_6_code z.1 = .ok (z.2.1, z.2.2) := List.forall_mem_cons.mpr ⟨ev_d_67_0, List.forall_mem_cons.mpr ⟨ev_d_67_1, fun _ h => absurd h List.not_mem_nil⟩⟩
