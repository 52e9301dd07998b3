/-! code, by wip/gen/gen.py -/
def ev_c_337_0 : List (Nat × Instr × Nat) := [(0, .iconst 0, 1), (1, .istore_n 3, 1), (2, .aload_n 0, 1), (3, .invokevirtual 215, 3), (6, .aload_n 0, 1), (7, .iload_n 1, 1), (8, .iconst 5, 1), (9, .invokevirtual 227, 3), (12, .ifCond .le 15, 3), (15, .aload_n 0, 1), (16, .iload_n 1, 1), (17, .iload_n 2, 1), (18, .invokevirtual 416, 3), (21, .iinc 3 1, 3), (24, .goto (-18), 3), (27, .aload_n 0, 1), (28, .iload_n 3, 1), (29, .invokevirtual 221, 3)]
set_option maxRecDepth 100000 in
theorem ev_d_337_0 : ∀ q ∈ ev_c_337_0, decode prog_10_method_137_code q.1 = .ok (q.2.1, q.2.2) := fd_rows (by decide +kernel)
def ev_c_337_1 : List (Nat × Instr × Nat) := [(32, .ireturn, 1)]
set_option maxRecDepth 100000 in
theorem ev_d_337_1 : ∀ q ∈ ev_c_337_1, decode prog_10_method_137_code q.1 = .ok (q.2.1, q.2.2) := fd_rows (by decide +kernel)
def ev_c_337 : List (Nat × List (Nat × Instr × Nat)) := [(0, ev_c_337_0), (1, ev_c_337_1)]
set_option maxRecDepth 100000 in
theorem ev_d_337 : ∀ q ∈ ev_c_337, ∀ z ∈ q.2, decode prog_10_method_137_code z.1 = .ok (z.2.1, z.2.2) := List.forall_mem_cons.mpr ⟨ev_d_337_0, List.forall_mem_cons.mpr ⟨ev_d_337_1, fun _ h => absurd h List.not_mem_nil⟩⟩
def ev_c_338_0 : List (Nat × Instr × Nat) := [(0, .aload_n 0, 1), (1, .aload_n 0, 1), (2, .getfield 47, 3), (5, .aload_n 0, 1), (6, .iload_n 1, 1), (7, .invokevirtual 324, 3), (10, .iload_n 2, 1), (11, .invokestatic 330, 3), (14, .invokevirtual 43, 3), (17, .ifCond .ne 5, 3), (20, .iconst 0, 1), (21, .ireturn, 1), (22, .aload_n 0, 1), (23, .iload_n 1, 1), (24, .iconst 5, 1), (25, .invokevirtual 227, 3), (28, .ifCond .ne 5, 3), (31, .iconst 0, 1)]
set_option maxRecDepth 100000 in
theorem ev_d_338_0 : ∀ q ∈ ev_c_338_0, decode prog_10_method_138_code q.1 = .ok (q.2.1, q.2.2) := fd_rows (by decide +kernel)
def ev_c_338_1 : List (Nat × Instr × Nat) := [(32, .ireturn, 1), (33, .aload_n 0, 1), (34, .iload_n 1, 1), (35, .iload_n 2, 1), (36, .invokevirtual 376, 3), (39, .ifCond .ne 12, 3), (42, .aload_n 0, 1), (43, .iload_n 1, 1), (44, .iload_n 2, 1), (45, .invokevirtual 419, 3), (48, .goto 4, 3), (51, .iconst (-1), 1), (52, .ireturn, 1)]
set_option maxRecDepth 100000 in
theorem ev_d_338_1 : ∀ q ∈ ev_c_338_1, decode prog_10_method_138_code q.1 = .ok (q.2.1, q.2.2) := fd_rows (by decide +kernel)
def ev_c_338 : List (Nat × List (Nat × Instr × Nat)) := [(0, ev_c_338_0), (1, ev_c_338_1)]
set_option maxRecDepth 100000 in
theorem ev_d_338 : ∀ q ∈ ev_c_338, ∀ z ∈ q.2, decode prog_10_method_138_code z.1 = .ok (z.2.1, z.2.2) := List.forall_mem_cons.mpr ⟨ev_d_338_0, List.forall_mem_cons.mpr ⟨ev_d_338_1, fun _ h => absurd h List.not_mem_nil⟩⟩
def ev_c_339_0 : List (Nat × Instr × Nat) := [(0, .aload_n 0, 1), (1, .invokevirtual 360, 3), (4, .ifCond .eq 36, 3), (7, .aload_n 0, 1), (8, .getfield 9, 3), (11, .bipush 10, 2), (13, .iaload, 1), (14, .ifCond .le 26, 3), (17, .aload_n 0, 1), (18, .invokevirtual 318, 3), (21, .aload_n 0, 1), (22, .iconst 3, 1), (23, .invokevirtual 321, 3), (26, .iadd, 1), (27, .i2f, 1), (28, .aload_n 0, 1), (29, .getfield 9, 3)]
set_option maxRecDepth 100000 in
theorem ev_d_339_0 : ∀ q ∈ ev_c_339_0, decode prog_10_method_139_code q.1 = .ok (q.2.1, q.2.2) := fd_rows (by decide +kernel)
def ev_c_339_1 : List (Nat × Instr × Nat) := [(32, .bipush 10, 2), (34, .iaload, 1), (35, .i2f, 1), (36, .fdiv, 1), (37, .goto 4, 3), (40, .fconst 0, 1), (41, .freturn, 1)]
set_option maxRecDepth 100000 in
theorem ev_d_339_1 : ∀ q ∈ ev_c_339_1, decode prog_10_method_139_code q.1 = .ok (q.2.1, q.2.2) := fd_rows (by decide +kernel)
def ev_c_339 : List (Nat × List (Nat × Instr × Nat)) := [(0, ev_c_339_0), (1, ev_c_339_1)]
set_option maxRecDepth 100000 in
theorem ev_d_339 : ∀ q ∈ ev_c_339, ∀ z ∈ q.2, decode prog_10_method_139_code z.1 = .ok (z.2.1, z.2.2) := List.forall_mem_cons.mpr ⟨ev_d_339_0, List.forall_mem_cons.mpr ⟨ev_d_339_1, fun _ h => absurd h List.not_mem_nil⟩⟩
def ev_c_340_0 : List (Nat × Instr × Nat) := [(0, .iconst 0, 1), (1, .istore_n 1, 1), (2, .iconst 0, 1), (3, .istore_n 2, 1), (4, .iload_n 2, 1), (5, .aload_n 0, 1), (6, .getfield 9, 3), (9, .bipush 10, 2), (11, .iaload, 1), (12, .if_icmp .ge 18, 3), (15, .iload_n 1, 1), (16, .aload_n 0, 1), (17, .iload_n 2, 1), (18, .iconst 3, 1), (19, .invokevirtual 227, 3), (22, .iadd, 1), (23, .istore_n 1, 1), (24, .iinc 2 1, 3), (27, .goto (-23), 3), (30, .iload_n 1, 1), (31, .ireturn, 1)]
set_option maxRecDepth 100000 in
theorem ev_d_340_0 : ∀ q ∈ ev_c_340_0, decode prog_10_method_140_code q.1 = .ok (q.2.1, q.2.2) := fd_rows (by decide +kernel)
def ev_c_340 : List (Nat × List (Nat × Instr × Nat)) := [(0, ev_c_340_0)]
set_option maxRecDepth 100000 in
theorem ev_d_340 : ∀ q ∈ ev_c_340, ∀ z ∈ q.2, decode prog_10_method_140_code z.1 = .ok (z.2.1, z.2.2) := List.forall_mem_cons.mpr ⟨ev_d_340_0, fun _ h => absurd h List.not_mem_nil⟩
def ev_c_341_0 : List (Nat × Instr × Nat) := [(0, .aload_n 0, 1), (1, .invokevirtual 360, 3), (4, .ifCond .eq 30, 3), (7, .aload_n 0, 1), (8, .getfield 9, 3), (11, .bipush 10, 2), (13, .iaload, 1), (14, .ifCond .le 20, 3), (17, .aload_n 0, 1), (18, .invokevirtual 422, 3), (21, .i2d, 1), (22, .aload_n 0, 1), (23, .getfield 9, 3), (26, .bipush 10, 2), (28, .iaload, 1), (29, .i2d, 1), (30, .ddiv, 1), (31, .goto 4, 3)]
set_option maxRecDepth 100000 in
theorem ev_d_341_0 : ∀ q ∈ ev_c_341_0, decode prog_10_method_141_code q.1 = .ok (q.2.1, q.2.2) := fd_rows (by decide +kernel)
def ev_c_341_1 : List (Nat × Instr × Nat) := [(34, .dconst 0, 1), (35, .dreturn, 1)]
set_option maxRecDepth 100000 in
theorem ev_d_341_1 : ∀ q ∈ ev_c_341_1, decode prog_10_method_141_code q.1 = .ok (q.2.1, q.2.2) := fd_rows (by decide +kernel)
def ev_c_341 : List (Nat × List (Nat × Instr × Nat)) := [(0, ev_c_341_0), (1, ev_c_341_1)]
set_option maxRecDepth 100000 in
theorem ev_d_341 : ∀ q ∈ ev_c_341, ∀ z ∈ q.2, decode prog_10_method_141_code z.1 = .ok (z.2.1, z.2.2) := List.forall_mem_cons.mpr ⟨ev_d_341_0, List.forall_mem_cons.mpr ⟨ev_d_341_1, fun _ h => absurd h List.not_mem_nil⟩⟩
def ev_c_342_0 : List (Nat × Instr × Nat) := [(0, .aload_n 0, 1), (1, .getfield 37, 3), (4, .aload_n 0, 1), (5, .getfield 425, 3), (8, .iload_n 1, 1), (9, .i2b, 1), (10, .bastore, 1), (11, .aload_n 0, 1), (12, .dup, 1), (13, .getfield 425, 3), (16, .iconst 1, 1), (17, .iadd, 1), (18, .putfield 425, 3), (21, .return_, 1)]
set_option maxRecDepth 100000 in
theorem ev_d_342_0 : ∀ q ∈ ev_c_342_0, decode prog_10_method_142_code q.1 = .ok (q.2.1, q.2.2) := fd_rows (by decide +kernel)
def ev_c_342 : List (Nat × List (Nat × Instr × Nat)) := [(0, ev_c_342_0)]
set_option maxRecDepth 100000 in
theorem ev_d_342 : ∀ q ∈ ev_c_342, ∀ z ∈ q.2, decode prog_10_method_142_code z.1 = .ok (z.2.1, z.2.2) := List.forall_mem_cons.mpr ⟨ev_d_342_0, fun _ h => absurd h List.not_mem_nil⟩
def ev_c_343_0 : List (Nat × Instr × Nat) := [(0, .iload_n 1, 1), (1, .bipush 9, 2), (3, .if_icmp .le 14, 3), (6, .aload_n 0, 1), (7, .bipush 48, 2), (9, .iload_n 1, 1), (10, .bipush 10, 2), (12, .idiv, 1), (13, .iadd, 1), (14, .invokevirtual 428, 3), (17, .aload_n 0, 1), (18, .bipush 48, 2), (20, .iload_n 1, 1), (21, .bipush 10, 2), (23, .irem, 1), (24, .iadd, 1), (25, .invokevirtual 428, 3), (28, .return_, 1)]
set_option maxRecDepth 100000 in
theorem ev_d_343_0 : ∀ q ∈ ev_c_343_0, decode prog_10_method_143_code q.1 = .ok (q.2.1, q.2.2) := fd_rows (by decide +kernel)
def ev_c_343 : List (Nat × List (Nat × Instr × Nat)) := [(0, ev_c_343_0)]
set_option maxRecDepth 100000 in
theorem ev_d_343 : ∀ q ∈ ev_c_343, ∀ z ∈ q.2, decode prog_10_method_143_code z.1 = .ok (z.2.1, z.2.2) := List.forall_mem_cons.mpr ⟨ev_d_343_0, fun _ h => absurd h List.not_mem_nil⟩
def ev_c_344_0 : List (Nat × Instr × Nat) := [(0, .iload_n 0, 1), (1, .ifCond .ne 8, 3), (4, .bipush 98, 2), (6, .goto 25, 3), (9, .iload_n 0, 1), (10, .iconst 1, 1), (11, .if_icmp .ne 8, 3), (14, .bipush 116, 2), (16, .goto 15, 3), (19, .iload_n 0, 1), (20, .iconst 2, 1), (21, .if_icmp .ne 8, 3), (24, .bipush 108, 2), (26, .goto 5, 3), (29, .bipush 103, 2), (31, .ireturn, 1)]
set_option maxRecDepth 100000 in
theorem ev_d_344_0 : ∀ q ∈ ev_c_344_0, decode prog_10_method_144_code q.1 = .ok (q.2.1, q.2.2) := fd_rows (by decide +kernel)
def ev_c_344 : List (Nat × List (Nat × Instr × Nat)) := [(0, ev_c_344_0)]
set_option maxRecDepth 100000 in
theorem ev_d_344 : ∀ q ∈ ev_c_344, ∀ z ∈ q.2, decode prog_10_method_144_code z.1 = .ok (z.2.1, z.2.2) := List.forall_mem_cons.mpr ⟨ev_d_344_0, fun _ h => absurd h List.not_mem_nil⟩
def ev_c_345_0 : List (Nat × Instr × Nat) := [(0, .aload_n 0, 1), (1, .iload_n 1, 1), (2, .invokevirtual 367, 3), (5, .ifCond .ne 5, 3), (8, .iconst 0, 1), (9, .ireturn, 1), (10, .aload_n 0, 1), (11, .iconst 0, 1), (12, .putfield 425, 3), (15, .aload_n 0, 1), (16, .aload_n 0, 1), (17, .iload_n 1, 1), (18, .invokevirtual 230, 3), (21, .invokestatic 431, 3), (24, .invokevirtual 428, 3), (27, .aload_n 0, 1), (28, .aload_n 0, 1), (29, .iload_n 1, 1), (30, .iconst 3, 1), (31, .invokevirtual 227, 3)]
set_option maxRecDepth 100000 in
theorem ev_d_345_0 : ∀ q ∈ ev_c_345_0, decode prog_10_method_145_code q.1 = .ok (q.2.1, q.2.2) := fd_rows (by decide +kernel)
def ev_c_345_1 : List (Nat × Instr × Nat) := [(34, .invokevirtual 434, 3), (37, .aload_n 0, 1), (38, .aload_n 0, 1), (39, .iload_n 1, 1), (40, .iconst 4, 1), (41, .invokevirtual 227, 3), (44, .invokevirtual 434, 3), (47, .aload_n 0, 1), (48, .aload_n 0, 1), (49, .iload_n 1, 1), (50, .iconst 5, 1), (51, .invokevirtual 227, 3), (54, .invokevirtual 434, 3), (57, .iconst 0, 1), (58, .istore_n 2, 1), (59, .iload_n 2, 1), (60, .aload_n 0, 1), (61, .getfield 9, 3)]
set_option maxRecDepth 100000 in
theorem ev_d_345_1 : ∀ q ∈ ev_c_345_1, decode prog_10_method_145_code q.1 = .ok (q.2.1, q.2.2) := fd_rows (by decide +kernel)
def ev_c_345_2 : List (Nat × Instr × Nat) := [(64, .bipush 6, 2), (66, .iaload, 1), (67, .if_icmp .ge 37, 3), (70, .aload_n 0, 1), (71, .iload_n 1, 1), (72, .bipush 6, 2), (74, .invokevirtual 227, 3), (77, .iload_n 2, 1), (78, .invokestatic 125, 3), (81, .ifCond .ne 6, 3), (84, .goto 14, 3), (87, .aload_n 0, 1), (88, .bipush 43, 2), (90, .invokevirtual 428, 3), (93, .aload_n 0, 1), (94, .iload_n 2, 1), (95, .invokevirtual 434, 3)]
set_option maxRecDepth 100000 in
theorem ev_d_345_2 : ∀ q ∈ ev_c_345_2, decode prog_10_method_145_code q.1 = .ok (q.2.1, q.2.2) := fd_rows (by decide +kernel)
def ev_c_345_3 : List (Nat × Instr × Nat) := [(98, .iinc 2 1, 3), (101, .goto (-42), 3), (104, .aload_n 0, 1), (105, .getfield 425, 3), (108, .ireturn, 1)]
set_option maxRecDepth 100000 in
theorem ev_d_345_3 : ∀ q ∈ ev_c_345_3, decode prog_10_method_145_code q.1 = .ok (q.2.1, q.2.2) := fd_rows (by decide +kernel)
def ev_c_345 : List (Nat × List (Nat × Instr × Nat)) := [(0, ev_c_345_0), (1, ev_c_345_1), (2, ev_c_345_2), (3, ev_c_345_3)]
set_option maxRecDepth 100000 in
theorem ev_d_345 : ∀ q ∈ ev_c_345, ∀ z ∈ q.2, decode prog_10_method_145_code z.1 = .ok (z.2.1, z.2.2) := List.forall_mem_cons.mpr ⟨ev_d_345_0, List.forall_mem_cons.mpr ⟨ev_d_345_1, List.forall_mem_cons.mpr ⟨ev_d_345_2, List.forall_mem_cons.mpr ⟨ev_d_345_3, fun _ h => absurd h List.not_mem_nil⟩⟩⟩⟩
def ev_c_346_0 : List (Nat × Instr × Nat) := [(0, .aload_n 0, 1), (1, .iload_n 1, 1), (2, .invokevirtual 354, 3), (5, .ifCond .ne 5, 3), (8, .iconst 0, 1), (9, .ireturn, 1), (10, .aload_n 0, 1), (11, .iconst 0, 1), (12, .putfield 425, 3), (15, .aload_n 0, 1), (16, .iload_n 1, 1), (17, .invokevirtual 252, 3), (20, .istore_n 2, 1), (21, .iconst 0, 1), (22, .istore_n 3, 1), (23, .iload_n 3, 1), (24, .iload_n 2, 1), (25, .if_icmp .ge 29, 3), (28, .iload_n 3, 1), (29, .ifCond .le 9, 3)]
set_option maxRecDepth 100000 in
theorem ev_d_346_0 : ∀ q ∈ ev_c_346_0, decode prog_10_method_146_code q.1 = .ok (q.2.1, q.2.2) := fd_rows (by decide +kernel)
def ev_c_346_1 : List (Nat × Instr × Nat) := [(32, .aload_n 0, 1), (33, .bipush 44, 2), (35, .invokevirtual 428, 3), (38, .aload_n 0, 1), (39, .aload_n 0, 1), (40, .iload_n 1, 1), (41, .iload_n 3, 1), (42, .invokevirtual 357, 3), (45, .invokevirtual 434, 3), (48, .iinc 3 1, 3), (51, .goto (-28), 3), (54, .iload_n 2, 1), (55, .ifCond .ne 9, 3), (58, .aload_n 0, 1), (59, .bipush 45, 2), (61, .invokevirtual 428, 3)]
set_option maxRecDepth 100000 in
theorem ev_d_346_1 : ∀ q ∈ ev_c_346_1, decode prog_10_method_146_code q.1 = .ok (q.2.1, q.2.2) := fd_rows (by decide +kernel)
def ev_c_346_2 : List (Nat × Instr × Nat) := [(64, .aload_n 0, 1), (65, .getfield 425, 3), (68, .ireturn, 1)]
set_option maxRecDepth 100000 in
theorem ev_d_346_2 : ∀ q ∈ ev_c_346_2, decode prog_10_method_146_code q.1 = .ok (q.2.1, q.2.2) := fd_rows (by decide +kernel)
def ev_c_346 : List (Nat × List (Nat × Instr × Nat)) := [(0, ev_c_346_0), (1, ev_c_346_1), (2, ev_c_346_2)]
set_option maxRecDepth 100000 in
theorem ev_d_346 : ∀ q ∈ ev_c_346, ∀ z ∈ q.2, decode prog_10_method_146_code z.1 = .ok (z.2.1, z.2.2) := List.forall_mem_cons.mpr ⟨ev_d_346_0, List.forall_mem_cons.mpr ⟨ev_d_346_1, List.forall_mem_cons.mpr ⟨ev_d_346_2, fun _ h => absurd h List.not_mem_nil⟩⟩⟩
def ev_c_347_0 : List (Nat × Instr × Nat) := [(0, .aload_n 0, 1), (1, .getfield 425, 3), (4, .ifCond .le 9, 3), (7, .aload_n 0, 1), (8, .bipush 32, 2), (10, .invokevirtual 428, 3), (13, .aload_n 0, 1), (14, .iload_n 1, 1), (15, .invokevirtual 434, 3), (18, .aload_n 0, 1), (19, .bipush 58, 2), (21, .invokevirtual 428, 3), (24, .aload_n 0, 1), (25, .aload_n 0, 1), (26, .iload_n 1, 1), (27, .invokevirtual 311, 3), (30, .invokevirtual 434, 3)]
set_option maxRecDepth 100000 in
theorem ev_d_347_0 : ∀ q ∈ ev_c_347_0, decode prog_10_method_147_code q.1 = .ok (q.2.1, q.2.2) := fd_rows (by decide +kernel)
def ev_c_347_1 : List (Nat × Instr × Nat) := [(33, .return_, 1)]
set_option maxRecDepth 100000 in
theorem ev_d_347_1 : ∀ q ∈ ev_c_347_1, decode prog_10_method_147_code q.1 = .ok (q.2.1, q.2.2) := fd_rows (by decide +kernel)
def ev_c_347 : List (Nat × List (Nat × Instr × Nat)) := [(0, ev_c_347_0), (1, ev_c_347_1)]
set_option maxRecDepth 100000 in
theorem ev_d_347 : ∀ q ∈ ev_c_347, ∀ z ∈ q.2, decode prog_10_method_147_code z.1 = .ok (z.2.1, z.2.2) := List.forall_mem_cons.mpr ⟨ev_d_347_0, List.forall_mem_cons.mpr ⟨ev_d_347_1, fun _ h => absurd h List.not_mem_nil⟩⟩
def ev_c_348_0 : List (Nat × Instr × Nat) := [(0, .aload_n 0, 1), (1, .aload_n 0, 1), (2, .getfield 47, 3), (5, .aload_n 0, 1), (6, .iload_n 1, 1), (7, .invokevirtual 339, 3), (10, .invokevirtual 314, 3), (13, .ifCond .ne 5, 3), (16, .iconst 0, 1), (17, .ireturn, 1), (18, .aload_n 0, 1), (19, .iconst 0, 1), (20, .putfield 425, 3), (23, .iconst 0, 1), (24, .istore_n 2, 1), (25, .iload_n 2, 1), (26, .aload_n 0, 1), (27, .getfield 9, 3), (30, .bipush 10, 2)]
set_option maxRecDepth 100000 in
theorem ev_d_348_0 : ∀ q ∈ ev_c_348_0, decode prog_10_method_148_code q.1 = .ok (q.2.1, q.2.2) := fd_rows (by decide +kernel)
def ev_c_348_1 : List (Nat × Instr × Nat) := [(32, .iaload, 1), (33, .if_icmp .ge 24, 3), (36, .aload_n 0, 1), (37, .iload_n 2, 1), (38, .iconst 0, 1), (39, .invokevirtual 227, 3), (42, .iload_n 1, 1), (43, .if_icmp .ne 8, 3), (46, .aload_n 0, 1), (47, .iload_n 2, 1), (48, .invokevirtual 437, 3), (51, .iinc 2 1, 3), (54, .goto (-29), 3), (57, .aload_n 0, 1), (58, .getfield 425, 3), (61, .ifCond .ne 9, 3)]
set_option maxRecDepth 100000 in
theorem ev_d_348_1 : ∀ q ∈ ev_c_348_1, decode prog_10_method_148_code q.1 = .ok (q.2.1, q.2.2) := fd_rows (by decide +kernel)
def ev_c_348_2 : List (Nat × Instr × Nat) := [(64, .aload_n 0, 1), (65, .bipush 45, 2), (67, .invokevirtual 428, 3), (70, .aload_n 0, 1), (71, .getfield 425, 3), (74, .ireturn, 1)]
set_option maxRecDepth 100000 in
theorem ev_d_348_2 : ∀ q ∈ ev_c_348_2, decode prog_10_method_148_code q.1 = .ok (q.2.1, q.2.2) := fd_rows (by decide +kernel)
def ev_c_348 : List (Nat × List (Nat × Instr × Nat)) := [(0, ev_c_348_0), (1, ev_c_348_1), (2, ev_c_348_2)]
set_option maxRecDepth 100000 in
theorem ev_d_348 : ∀ q ∈ ev_c_348, ∀ z ∈ q.2, decode prog_10_method_148_code z.1 = .ok (z.2.1, z.2.2) := List.forall_mem_cons.mpr ⟨ev_d_348_0, List.forall_mem_cons.mpr ⟨ev_d_348_1, List.forall_mem_cons.mpr ⟨ev_d_348_2, fun _ h => absurd h List.not_mem_nil⟩⟩⟩
def ev_c_349_0 : List (Nat × Instr × Nat) := [(0, .aload_n 0, 1), (1, .invokevirtual 360, 3), (4, .ifCond .ne 5, 3), (7, .iconst 0, 1), (8, .ireturn, 1), (9, .aload_n 0, 1), (10, .iconst 0, 1), (11, .putfield 425, 3), (14, .iconst 0, 1), (15, .istore_n 1, 1), (16, .iload_n 1, 1), (17, .aload_n 0, 1), (18, .getfield 9, 3), (21, .bipush 9, 2), (23, .iaload, 1), (24, .if_icmp .ge 46, 3), (27, .iload_n 1, 1), (28, .ifCond .le 9, 3), (31, .aload_n 0, 1)]
set_option maxRecDepth 100000 in
theorem ev_d_349_0 : ∀ q ∈ ev_c_349_0, decode prog_10_method_149_code q.1 = .ok (q.2.1, q.2.2) := fd_rows (by decide +kernel)
def ev_c_349_1 : List (Nat × Instr × Nat) := [(32, .bipush 47, 2), (34, .invokevirtual 428, 3), (37, .aload_n 0, 1), (38, .iload_n 1, 1), (39, .invokevirtual 287, 3), (42, .iconst (-1), 1), (43, .if_icmp .ne 12, 3), (46, .aload_n 0, 1), (47, .bipush 46, 2), (49, .invokevirtual 428, 3), (52, .goto 12, 3), (55, .aload_n 0, 1), (56, .aload_n 0, 1), (57, .iload_n 1, 1), (58, .invokevirtual 287, 3), (61, .invokevirtual 434, 3)]
set_option maxRecDepth 100000 in
theorem ev_d_349_1 : ∀ q ∈ ev_c_349_1, decode prog_10_method_149_code q.1 = .ok (q.2.1, q.2.2) := fd_rows (by decide +kernel)
def ev_c_349_2 : List (Nat × Instr × Nat) := [(64, .iinc 1 1, 3), (67, .goto (-51), 3), (70, .aload_n 0, 1), (71, .getfield 425, 3), (74, .ireturn, 1)]
set_option maxRecDepth 100000 in
theorem ev_d_349_2 : ∀ q ∈ ev_c_349_2, decode prog_10_method_149_code q.1 = .ok (q.2.1, q.2.2) := fd_rows (by decide +kernel)
def ev_c_349 : List (Nat × List (Nat × Instr × Nat)) := [(0, ev_c_349_0), (1, ev_c_349_1), (2, ev_c_349_2)]
set_option maxRecDepth 100000 in
theorem ev_d_349 : ∀ q ∈ ev_c_349, ∀ z ∈ q.2, decode prog_10_method_149_code z.1 = .ok (z.2.1, z.2.2) := List.forall_mem_cons.mpr ⟨ev_d_349_0, List.forall_mem_cons.mpr ⟨ev_d_349_1, List.forall_mem_cons.mpr ⟨ev_d_349_2, fun _ h => absurd h List.not_mem_nil⟩⟩⟩
def ev_c_350_0 : List (Nat × Instr × Nat) := [(0, .aload_n 0, 1), (1, .iload_n 1, 1), (2, .iconst 0, 1), (3, .aload_n 0, 1), (4, .getfield 425, 3), (7, .iconst 1, 1), (8, .isub, 1), (9, .invokestatic 68, 3), (12, .iconst 1, 1), (13, .iconst 1, 1), (14, .invokevirtual 43, 3), (17, .ifCond .eq 12, 3), (20, .aload_n 0, 1), (21, .getfield 37, 3), (24, .iload_n 1, 1), (25, .baload, 1), (26, .goto 4, 3), (29, .iconst 0, 1), (30, .ireturn, 1)]
set_option maxRecDepth 100000 in
theorem ev_d_350_0 : ∀ q ∈ ev_c_350_0, decode prog_10_method_150_code q.1 = .ok (q.2.1, q.2.2) := fd_rows (by decide +kernel)
def ev_c_350 : List (Nat × List (Nat × Instr × Nat)) := [(0, ev_c_350_0)]
set_option maxRecDepth 100000 in
theorem ev_d_350 : ∀ q ∈ ev_c_350, ∀ z ∈ q.2, decode prog_10_method_150_code z.1 = .ok (z.2.1, z.2.2) := List.forall_mem_cons.mpr ⟨ev_d_350_0, fun _ h => absurd h List.not_mem_nil⟩
def ev_c_351_0 : List (Nat × Instr × Nat) := [(0, .aload_n 0, 1), (1, .getfield 224, 3), (4, .bipush 8, 2), (6, .if_icmp .ne 44, 3), (9, .iconst 0, 1), (10, .istore_n 1, 1), (11, .iload_n 1, 1), (12, .sipush 1211, 3), (15, .if_icmp .ge 25, 3), (18, .aload_n 0, 1), (19, .getfield 16, 3), (22, .iload_n 1, 1), (23, .aload_n 0, 1), (24, .getfield 16, 3), (27, .iload_n 1, 1), (28, .sipush 173, 3), (31, .iadd, 1)]
set_option maxRecDepth 100000 in
theorem ev_d_351_0 : ∀ q ∈ ev_c_351_0, decode prog_10_method_151_code q.1 = .ok (q.2.1, q.2.2) := fd_rows (by decide +kernel)
def ev_c_351_1 : List (Nat × Instr × Nat) := [(32, .iaload, 1), (33, .iastore, 1), (34, .iinc 1 1, 3), (37, .goto (-26), 3), (40, .aload_n 0, 1), (41, .dup, 1), (42, .getfield 224, 3), (45, .iconst 1, 1), (46, .isub, 1), (47, .putfield 224, 3), (50, .aload_n 0, 1), (51, .getfield 9, 3), (54, .iconst 0, 1), (55, .aload_n 0, 1), (56, .getfield 16, 3), (59, .aload_n 0, 1), (60, .getfield 224, 3), (63, .sipush 173, 3)]
set_option maxRecDepth 100000 in
theorem ev_d_351_1 : ∀ q ∈ ev_c_351_1, decode prog_10_method_151_code q.1 = .ok (q.2.1, q.2.2) := fd_rows (by decide +kernel)
def ev_c_351_2 : List (Nat × Instr × Nat) := [(66, .imul, 1), (67, .invokestatic 51, 3), (70, .aload_n 0, 1), (71, .dup, 1), (72, .getfield 224, 3), (75, .iconst 1, 1), (76, .iadd, 1), (77, .putfield 224, 3), (80, .return_, 1)]
set_option maxRecDepth 100000 in
theorem ev_d_351_2 : ∀ q ∈ ev_c_351_2, decode prog_10_method_151_code q.1 = .ok (q.2.1, q.2.2) := fd_rows (by decide +kernel)
def ev_c_351 : List (Nat × List (Nat × Instr × Nat)) := [(0, ev_c_351_0), (1, ev_c_351_1), (2, ev_c_351_2)]
set_option maxRecDepth 100000 in
theorem ev_d_351 : ∀ q ∈ ev_c_351, ∀ z ∈ q.2, decode prog_10_method_151_code z.1 = .ok (z.2.1, z.2.2) := List.forall_mem_cons.mpr ⟨ev_d_351_0, List.forall_mem_cons.mpr ⟨ev_d_351_1, List.forall_mem_cons.mpr ⟨ev_d_351_2, fun _ h => absurd h List.not_mem_nil⟩⟩⟩
def ev_c_352_0 : List (Nat × Instr × Nat) := [(0, .aload_n 0, 1), (1, .iload_n 1, 1), (2, .invokevirtual 324, 3), (5, .ifCond .eq 15, 3), (8, .aload_n 0, 1), (9, .iload_n 2, 1), (10, .invokevirtual 327, 3), (13, .ifCond .eq 7, 3), (16, .iconst 1, 1), (17, .goto 4, 3), (20, .iconst 0, 1), (21, .istore_n 3, 1), (22, .aload_n 0, 1), (23, .aload_n 0, 1), (24, .getfield 47, 3), (27, .iload_n 3, 1), (28, .iload_n 3, 1), (29, .ifCond .eq 16, 3)]
set_option maxRecDepth 100000 in
theorem ev_d_352_0 : ∀ q ∈ ev_c_352_0, decode prog_10_method_152_code q.1 = .ok (q.2.1, q.2.2) := fd_rows (by decide +kernel)
def ev_c_352_1 : List (Nat × Instr × Nat) := [(32, .aload_n 0, 1), (33, .iload_n 1, 1), (34, .iload_n 2, 1), (35, .invokevirtual 137, 3), (38, .ifCond .ne 7, 3), (41, .iconst 1, 1), (42, .goto 4, 3), (45, .iconst 0, 1), (46, .invokevirtual 43, 3), (49, .ifCond .ne 5, 3), (52, .iconst 0, 1), (53, .ireturn, 1), (54, .aload_n 0, 1), (55, .invokevirtual 440, 3), (58, .aload_n 0, 1), (59, .iload_n 1, 1), (60, .iload_n 2, 1), (61, .invokevirtual 140, 3)]
set_option maxRecDepth 100000 in
theorem ev_d_352_1 : ∀ q ∈ ev_c_352_1, decode prog_10_method_152_code q.1 = .ok (q.2.1, q.2.2) := fd_rows (by decide +kernel)
def ev_c_352_2 : List (Nat × Instr × Nat) := [(64, .aload_n 0, 1), (65, .iload_n 2, 1), (66, .invokevirtual 252, 3), (69, .ireturn, 1)]
set_option maxRecDepth 100000 in
theorem ev_d_352_2 : ∀ q ∈ ev_c_352_2, decode prog_10_method_152_code q.1 = .ok (q.2.1, q.2.2) := fd_rows (by decide +kernel)
def ev_c_352 : List (Nat × List (Nat × Instr × Nat)) := [(0, ev_c_352_0), (1, ev_c_352_1), (2, ev_c_352_2)]
set_option maxRecDepth 100000 in
theorem ev_d_352 : ∀ q ∈ ev_c_352, ∀ z ∈ q.2, decode prog_10_method_152_code z.1 = .ok (z.2.1, z.2.2) := List.forall_mem_cons.mpr ⟨ev_d_352_0, List.forall_mem_cons.mpr ⟨ev_d_352_1, List.forall_mem_cons.mpr ⟨ev_d_352_2, fun _ h => absurd h List.not_mem_nil⟩⟩⟩
def ev_c_353_0 : List (Nat × Instr × Nat) := [(0, .aload_n 0, 1), (1, .iload_n 1, 1), (2, .invokevirtual 327, 3), (5, .istore_n 3, 1), (6, .aload_n 0, 1), (7, .aload_n 0, 1), (8, .getfield 47, 3), (11, .iload_n 3, 1), (12, .iload_n 3, 1), (13, .ifCond .eq 23, 3), (16, .iload_n 2, 1), (17, .invokestatic 330, 3), (20, .ifCond .eq 16, 3), (23, .aload_n 0, 1), (24, .iload_n 1, 1), (25, .iload_n 2, 1), (26, .invokevirtual 143, 3), (29, .ifCond .ne 7, 3)]
set_option maxRecDepth 100000 in
theorem ev_d_353_0 : ∀ q ∈ ev_c_353_0, decode prog_10_method_153_code q.1 = .ok (q.2.1, q.2.2) := fd_rows (by decide +kernel)
def ev_c_353_1 : List (Nat × Instr × Nat) := [(32, .iconst 1, 1), (33, .goto 4, 3), (36, .iconst 0, 1), (37, .invokevirtual 43, 3), (40, .ifCond .ne 5, 3), (43, .iconst 0, 1), (44, .ireturn, 1), (45, .aload_n 0, 1), (46, .invokevirtual 440, 3), (49, .aload_n 0, 1), (50, .iload_n 1, 1), (51, .iload_n 2, 1), (52, .invokevirtual 146, 3), (55, .ireturn, 1)]
set_option maxRecDepth 100000 in
theorem ev_d_353_1 : ∀ q ∈ ev_c_353_1, decode prog_10_method_153_code q.1 = .ok (q.2.1, q.2.2) := fd_rows (by decide +kernel)
def ev_c_353 : List (Nat × List (Nat × Instr × Nat)) := [(0, ev_c_353_0), (1, ev_c_353_1)]
set_option maxRecDepth 100000 in
theorem ev_d_353 : ∀ q ∈ ev_c_353, ∀ z ∈ q.2, decode prog_10_method_153_code z.1 = .ok (z.2.1, z.2.2) := List.forall_mem_cons.mpr ⟨ev_d_353_0, List.forall_mem_cons.mpr ⟨ev_d_353_1, fun _ h => absurd h List.not_mem_nil⟩⟩
def ev_c_354_0 : List (Nat × Instr × Nat) := [(0, .aload_n 0, 1), (1, .iload_n 1, 1), (2, .invokevirtual 324, 3), (5, .istore_n 2, 1), (6, .aload_n 0, 1), (7, .aload_n 0, 1), (8, .getfield 47, 3), (11, .iload_n 2, 1), (12, .iload_n 2, 1), (13, .ifCond .eq 15, 3), (16, .aload_n 0, 1), (17, .iload_n 1, 1), (18, .invokevirtual 149, 3), (21, .ifCond .eq 7, 3), (24, .iconst 1, 1), (25, .goto 4, 3), (28, .iconst 0, 1), (29, .invokevirtual 43, 3)]
set_option maxRecDepth 100000 in
theorem ev_d_354_0 : ∀ q ∈ ev_c_354_0, decode prog_10_method_154_code q.1 = .ok (q.2.1, q.2.2) := fd_rows (by decide +kernel)
def ev_c_354_1 : List (Nat × Instr × Nat) := [(32, .ifCond .ne 5, 3), (35, .iconst 0, 1), (36, .ireturn, 1), (37, .aload_n 0, 1), (38, .invokevirtual 440, 3), (41, .aload_n 0, 1), (42, .iload_n 1, 1), (43, .invokevirtual 152, 3), (46, .aload_n 0, 1), (47, .iload_n 1, 1), (48, .bipush 9, 2), (50, .invokevirtual 227, 3), (53, .ireturn, 1)]
set_option maxRecDepth 100000 in
theorem ev_d_354_1 : ∀ q ∈ ev_c_354_1, decode prog_10_method_154_code q.1 = .ok (q.2.1, q.2.2) := fd_rows (by decide +kernel)
def ev_c_354 : List (Nat × List (Nat × Instr × Nat)) := [(0, ev_c_354_0), (1, ev_c_354_1)]
set_option maxRecDepth 100000 in
theorem ev_d_354 : ∀ q ∈ ev_c_354, ∀ z ∈ q.2, decode prog_10_method_154_code z.1 = .ok (z.2.1, z.2.2) := List.forall_mem_cons.mpr ⟨ev_d_354_0, List.forall_mem_cons.mpr ⟨ev_d_354_1, fun _ h => absurd h List.not_mem_nil⟩⟩
def ev_c_355_0 : List (Nat × Instr × Nat) := [(0, .aload_n 0, 1), (1, .invokevirtual 360, 3), (4, .ifCond .ne 5, 3), (7, .iconst 0, 1), (8, .ireturn, 1), (9, .aload_n 0, 1), (10, .invokevirtual 440, 3), (13, .iconst 0, 1), (14, .istore_n 1, 1), (15, .iconst 0, 1), (16, .istore_n 2, 1), (17, .iload_n 2, 1), (18, .aload_n 0, 1), (19, .getfield 9, 3), (22, .bipush 10, 2), (24, .iaload, 1), (25, .if_icmp .ge 37, 3), (28, .aload_n 0, 1), (29, .iload_n 2, 1), (30, .iconst 4, 1), (31, .invokevirtual 227, 3)]
set_option maxRecDepth 100000 in
theorem ev_d_355_0 : ∀ q ∈ ev_c_355_0, decode prog_10_method_155_code q.1 = .ok (q.2.1, q.2.2) := fd_rows (by decide +kernel)
def ev_c_355_1 : List (Nat × Instr × Nat) := [(34, .ifCond .eq 22, 3), (37, .aload_n 0, 1), (38, .iload_n 2, 1), (39, .invokevirtual 149, 3), (42, .ifCond .ne 6, 3), (45, .goto 11, 3), (48, .aload_n 0, 1), (49, .iload_n 2, 1), (50, .invokevirtual 152, 3), (53, .iinc 1 1, 3), (56, .iinc 2 1, 3), (59, .goto (-42), 3), (62, .iload_n 1, 1), (63, .ireturn, 1)]
set_option maxRecDepth 100000 in
theorem ev_d_355_1 : ∀ q ∈ ev_c_355_1, decode prog_10_method_155_code q.1 = .ok (q.2.1, q.2.2) := fd_rows (by decide +kernel)
def ev_c_355 : List (Nat × List (Nat × Instr × Nat)) := [(0, ev_c_355_0), (1, ev_c_355_1)]
set_option maxRecDepth 100000 in
theorem ev_d_355 : ∀ q ∈ ev_c_355, ∀ z ∈ q.2, decode prog_10_method_155_code z.1 = .ok (z.2.1, z.2.2) := List.forall_mem_cons.mpr ⟨ev_d_355_0, List.forall_mem_cons.mpr ⟨ev_d_355_1, fun _ h => absurd h List.not_mem_nil⟩⟩
def ev_c_356_0 : List (Nat × Instr × Nat) := [(0, .aload_n 0, 1), (1, .iload_n 1, 1), (2, .invokevirtual 354, 3), (5, .ifCond .ne 5, 3), (8, .iconst 0, 1), (9, .ireturn, 1), (10, .aload_n 0, 1), (11, .invokevirtual 440, 3), (14, .aload_n 0, 1), (15, .iload_n 1, 1), (16, .invokevirtual 252, 3), (19, .istore_n 2, 1), (20, .iconst 0, 1), (21, .istore_n 3, 1), (22, .iload_n 3, 1), (23, .aload_n 0, 1), (24, .getfield 9, 3), (27, .bipush 10, 2), (29, .iaload, 1), (30, .if_icmp .ge 25, 3)]
set_option maxRecDepth 100000 in
theorem ev_d_356_0 : ∀ q ∈ ev_c_356_0, decode prog_10_method_156_code q.1 = .ok (q.2.1, q.2.2) := fd_rows (by decide +kernel)
def ev_c_356_1 : List (Nat × Instr × Nat) := [(33, .aload_n 0, 1), (34, .iload_n 3, 1), (35, .iload_n 1, 1), (36, .invokevirtual 242, 3), (39, .ifCond .eq 10, 3), (42, .aload_n 0, 1), (43, .iload_n 3, 1), (44, .iconst 0, 1), (45, .iconst (-1), 1), (46, .invokevirtual 236, 3), (49, .iinc 3 1, 3), (52, .goto (-30), 3), (55, .iload_n 2, 1), (56, .ireturn, 1)]
set_option maxRecDepth 100000 in
theorem ev_d_356_1 : ∀ q ∈ ev_c_356_1, decode prog_10_method_156_code q.1 = .ok (q.2.1, q.2.2) := fd_rows (by decide +kernel)
def ev_c_356 : List (Nat × List (Nat × Instr × Nat)) := [(0, ev_c_356_0), (1, ev_c_356_1)]
set_option maxRecDepth 100000 in
theorem ev_d_356 : ∀ q ∈ ev_c_356, ∀ z ∈ q.2, decode prog_10_method_156_code z.1 = .ok (z.2.1, z.2.2) := List.forall_mem_cons.mpr ⟨ev_d_356_0, List.forall_mem_cons.mpr ⟨ev_d_356_1, fun _ h => absurd h List.not_mem_nil⟩⟩
def ev_c_357_0 : List (Nat × Instr × Nat) := [(0, .aload_n 0, 1), (1, .iload_n 1, 1), (2, .invokevirtual 324, 3), (5, .istore_n 2, 1), (6, .aload_n 0, 1), (7, .aload_n 0, 1), (8, .getfield 47, 3), (11, .iload_n 2, 1), (12, .iload_n 2, 1), (13, .ifCond .eq 25, 3), (16, .aload_n 0, 1), (17, .iload_n 1, 1), (18, .invokevirtual 230, 3), (21, .iconst 1, 1), (22, .if_icmp .eq 12, 3), (25, .aload_n 0, 1), (26, .iload_n 1, 1), (27, .invokevirtual 230, 3), (30, .iconst 2, 1), (31, .if_icmp .ne 7, 3)]
set_option maxRecDepth 100000 in
theorem ev_d_357_0 : ∀ q ∈ ev_c_357_0, decode prog_10_method_157_code q.1 = .ok (q.2.1, q.2.2) := fd_rows (by decide +kernel)
def ev_c_357_1 : List (Nat × Instr × Nat) := [(34, .iconst 1, 1), (35, .goto 4, 3), (38, .iconst 0, 1), (39, .invokevirtual 43, 3), (42, .ifCond .ne 5, 3), (45, .iconst 0, 1), (46, .ireturn, 1), (47, .aload_n 0, 1), (48, .invokevirtual 440, 3), (51, .aload_n 0, 1), (52, .iload_n 1, 1), (53, .iconst 0, 1), (54, .iconst (-1), 1), (55, .invokevirtual 236, 3), (58, .aload_n 0, 1), (59, .iload_n 1, 1), (60, .iconst 4, 1), (61, .invokevirtual 227, 3)]
set_option maxRecDepth 100000 in
theorem ev_d_357_1 : ∀ q ∈ ev_c_357_1, decode prog_10_method_157_code q.1 = .ok (q.2.1, q.2.2) := fd_rows (by decide +kernel)
def ev_c_357_2 : List (Nat × Instr × Nat) := [(64, .ireturn, 1)]
set_option maxRecDepth 100000 in
theorem ev_d_357_2 : ∀ q ∈ ev_c_357_2, decode prog_10_method_157_code q.1 = .ok (q.2.1, q.2.2) := fd_rows (by decide +kernel)
def ev_c_357 : List (Nat × List (Nat × Instr × Nat)) := [(0, ev_c_357_0), (1, ev_c_357_1), (2, ev_c_357_2)]
set_option maxRecDepth 100000 in
theorem ev_d_357 : ∀ q ∈ ev_c_357, ∀ z ∈ q.2, decode prog_10_method_157_code z.1 = .ok (z.2.1, z.2.2) := List.forall_mem_cons.mpr ⟨ev_d_357_0, List.forall_mem_cons.mpr ⟨ev_d_357_1, List.forall_mem_cons.mpr ⟨ev_d_357_2, fun _ h => absurd h List.not_mem_nil⟩⟩⟩
def ev_c_358_0 : List (Nat × Instr × Nat) := [(0, .aload_n 0, 1), (1, .iload_n 1, 1), (2, .invokevirtual 324, 3), (5, .istore_n 3, 1), (6, .aload_n 0, 1), (7, .aload_n 0, 1), (8, .getfield 47, 3), (11, .iload_n 3, 1), (12, .iload_n 3, 1), (13, .ifCond .eq 23, 3), (16, .iload_n 2, 1), (17, .invokestatic 330, 3), (20, .ifCond .eq 16, 3), (23, .aload_n 0, 1), (24, .iload_n 1, 1), (25, .iload_n 2, 1), (26, .invokevirtual 376, 3), (29, .ifCond .ne 7, 3)]
set_option maxRecDepth 100000 in
theorem ev_d_358_0 : ∀ q ∈ ev_c_358_0, decode prog_10_method_158_code q.1 = .ok (q.2.1, q.2.2) := fd_rows (by decide +kernel)
def ev_c_358_1 : List (Nat × Instr × Nat) := [(32, .iconst 1, 1), (33, .goto 4, 3), (36, .iconst 0, 1), (37, .invokevirtual 43, 3), (40, .ifCond .ne 5, 3), (43, .iconst 0, 1), (44, .ireturn, 1), (45, .aload_n 0, 1), (46, .invokevirtual 440, 3), (49, .aload_n 0, 1), (50, .iload_n 1, 1), (51, .iload_n 2, 1), (52, .invokevirtual 416, 3), (55, .aload_n 0, 1), (56, .iload_n 1, 1), (57, .iconst 5, 1), (58, .invokevirtual 227, 3), (61, .ireturn, 1)]
set_option maxRecDepth 100000 in
theorem ev_d_358_1 : ∀ q ∈ ev_c_358_1, decode prog_10_method_158_code q.1 = .ok (q.2.1, q.2.2) := fd_rows (by decide +kernel)
def ev_c_358 : List (Nat × List (Nat × Instr × Nat)) := [(0, ev_c_358_0), (1, ev_c_358_1)]
set_option maxRecDepth 100000 in
theorem ev_d_358 : ∀ q ∈ ev_c_358, ∀ z ∈ q.2, decode prog_10_method_158_code z.1 = .ok (z.2.1, z.2.2) := List.forall_mem_cons.mpr ⟨ev_d_358_0, List.forall_mem_cons.mpr ⟨ev_d_358_1, fun _ h => absurd h List.not_mem_nil⟩⟩
def ev_c_359_0 : List (Nat × Instr × Nat) := [(0, .iconst 0, 1), (1, .istore_n 2, 1), (2, .iconst 0, 1), (3, .istore_n 3, 1), (4, .iload_n 3, 1), (5, .aload_n 0, 1), (6, .getfield 9, 3), (9, .bipush 6, 2), (11, .iaload, 1), (12, .if_icmp .ge 26, 3), (15, .iload_n 2, 1), (16, .aload_n 0, 1), (17, .iload_n 1, 1), (18, .bipush 6, 2), (20, .invokevirtual 227, 3), (23, .iload_n 3, 1), (24, .invokestatic 125, 3), (27, .invokestatic 245, 3), (30, .iadd, 1), (31, .istore_n 2, 1)]
set_option maxRecDepth 100000 in
theorem ev_d_359_0 : ∀ q ∈ ev_c_359_0, decode prog_10_method_159_code q.1 = .ok (q.2.1, q.2.2) := fd_rows (by decide +kernel)
def ev_c_359_1 : List (Nat × Instr × Nat) := [(32, .iinc 3 1, 3), (35, .goto (-31), 3), (38, .iload_n 2, 1), (39, .ireturn, 1)]
set_option maxRecDepth 100000 in
theorem ev_d_359_1 : ∀ q ∈ ev_c_359_1, decode prog_10_method_159_code q.1 = .ok (q.2.1, q.2.2) := fd_rows (by decide +kernel)
def ev_c_359 : List (Nat × List (Nat × Instr × Nat)) := [(0, ev_c_359_0), (1, ev_c_359_1)]
set_option maxRecDepth 100000 in
theorem ev_d_359 : ∀ q ∈ ev_c_359, ∀ z ∈ q.2, decode prog_10_method_159_code z.1 = .ok (z.2.1, z.2.2) := List.forall_mem_cons.mpr ⟨ev_d_359_0, List.forall_mem_cons.mpr ⟨ev_d_359_1, fun _ h => absurd h List.not_mem_nil⟩⟩
def ev_c_360_0 : List (Nat × Instr × Nat) := [(0, .aload_n 0, 1), (1, .iload_n 1, 1), (2, .invokevirtual 324, 3), (5, .istore_n 2, 1), (6, .aload_n 0, 1), (7, .aload_n 0, 1), (8, .getfield 47, 3), (11, .iload_n 2, 1), (12, .iload_n 2, 1), (13, .ifCond .eq 15, 3), (16, .aload_n 0, 1), (17, .iload_n 1, 1), (18, .invokevirtual 379, 3), (21, .ifCond .ne 7, 3), (24, .iconst 1, 1), (25, .goto 4, 3), (28, .iconst 0, 1), (29, .invokevirtual 43, 3)]
set_option maxRecDepth 100000 in
theorem ev_d_360_0 : ∀ q ∈ ev_c_360_0, decode prog_10_method_160_code q.1 = .ok (q.2.1, q.2.2) := fd_rows (by decide +kernel)
def ev_c_360_1 : List (Nat × Instr × Nat) := [(32, .ifCond .ne 5, 3), (35, .iconst 0, 1), (36, .ireturn, 1), (37, .aload_n 0, 1), (38, .invokevirtual 440, 3), (41, .aload_n 0, 1), (42, .iload_n 1, 1), (43, .invokevirtual 443, 3), (46, .istore_n 3, 1), (47, .aload_n 0, 1), (48, .iload_n 1, 1), (49, .bipush 6, 2), (51, .iconst 0, 1), (52, .invokevirtual 233, 3), (55, .aload_n 0, 1), (56, .iload_n 1, 1), (57, .bipush 7, 2), (59, .aload_n 0, 1), (60, .iload_n 1, 1), (61, .bipush 7, 2), (63, .invokevirtual 227, 3)]
set_option maxRecDepth 100000 in
theorem ev_d_360_1 : ∀ q ∈ ev_c_360_1, decode prog_10_method_160_code q.1 = .ok (q.2.1, q.2.2) := fd_rows (by decide +kernel)
def ev_c_360_2 : List (Nat × Instr × Nat) := [(66, .iconst 1, 1), (67, .iadd, 1), (68, .invokevirtual 233, 3), (71, .iload_n 3, 1), (72, .ireturn, 1)]
set_option maxRecDepth 100000 in
theorem ev_d_360_2 : ∀ q ∈ ev_c_360_2, decode prog_10_method_160_code q.1 = .ok (q.2.1, q.2.2) := fd_rows (by decide +kernel)
def ev_c_360 : List (Nat × List (Nat × Instr × Nat)) := [(0, ev_c_360_0), (1, ev_c_360_1), (2, ev_c_360_2)]
set_option maxRecDepth 100000 in
theorem ev_d_360 : ∀ q ∈ ev_c_360, ∀ z ∈ q.2, decode prog_10_method_160_code z.1 = .ok (z.2.1, z.2.2) := List.forall_mem_cons.mpr ⟨ev_d_360_0, List.forall_mem_cons.mpr ⟨ev_d_360_1, List.forall_mem_cons.mpr ⟨ev_d_360_2, fun _ h => absurd h List.not_mem_nil⟩⟩⟩
def ev_c_361_0 : List (Nat × Instr × Nat) := [(0, .iconst 0, 1), (1, .istore_n 2, 1), (2, .iload_n 2, 1), (3, .aload_n 0, 1), (4, .getfield 9, 3), (7, .bipush 10, 2), (9, .iaload, 1), (10, .if_icmp .ge 26, 3), (13, .aload_n 0, 1), (14, .iload_n 2, 1), (15, .iconst 0, 1), (16, .invokevirtual 227, 3), (19, .iload_n 1, 1), (20, .if_icmp .ne 10, 3), (23, .aload_n 0, 1), (24, .iload_n 2, 1), (25, .iconst 3, 1), (26, .iconst (-1), 1), (27, .invokevirtual 236, 3), (30, .iinc 2 1, 3)]
set_option maxRecDepth 100000 in
theorem ev_d_361_0 : ∀ q ∈ ev_c_361_0, decode prog_10_method_161_code q.1 = .ok (q.2.1, q.2.2) := fd_rows (by decide +kernel)
def ev_c_361_1 : List (Nat × Instr × Nat) := [(33, .goto (-31), 3), (36, .return_, 1)]
set_option maxRecDepth 100000 in
theorem ev_d_361_1 : ∀ q ∈ ev_c_361_1, decode prog_10_method_161_code q.1 = .ok (q.2.1, q.2.2) := fd_rows (by decide +kernel)
def ev_c_361 : List (Nat × List (Nat × Instr × Nat)) := [(0, ev_c_361_0), (1, ev_c_361_1)]
set_option maxRecDepth 100000 in
theorem ev_d_361 : ∀ q ∈ ev_c_361, ∀ z ∈ q.2, decode prog_10_method_161_code z.1 = .ok (z.2.1, z.2.2) := List.forall_mem_cons.mpr ⟨ev_d_361_0, List.forall_mem_cons.mpr ⟨ev_d_361_1, fun _ h => absurd h List.not_mem_nil⟩⟩
def ev_c_362_0 : List (Nat × Instr × Nat) := [(0, .aload_n 0, 1), (1, .iload_n 1, 1), (2, .invokevirtual 339, 3), (5, .istore_n 2, 1), (6, .aload_n 0, 1), (7, .aload_n 0, 1), (8, .getfield 47, 3), (11, .iload_n 2, 1), (12, .iload_n 2, 1), (13, .ifCond .eq 32, 3), (16, .aload_n 0, 1), (17, .iload_n 1, 1), (18, .invokevirtual 305, 3), (21, .ifCond .le 24, 3), (24, .aload_n 0, 1), (25, .iload_n 1, 1), (26, .invokevirtual 345, 3), (29, .ifCond .ne 16, 3)]
set_option maxRecDepth 100000 in
theorem ev_d_362_0 : ∀ q ∈ ev_c_362_0, decode prog_10_method_162_code q.1 = .ok (q.2.1, q.2.2) := fd_rows (by decide +kernel)
def ev_c_362_1 : List (Nat × Instr × Nat) := [(32, .aload_n 0, 1), (33, .iload_n 1, 1), (34, .invokevirtual 370, 3), (37, .iconst (-1), 1), (38, .if_icmp .ne 7, 3), (41, .iconst 1, 1), (42, .goto 4, 3), (45, .iconst 0, 1), (46, .invokevirtual 43, 3), (49, .ifCond .ne 5, 3), (52, .iconst 0, 1), (53, .ireturn, 1), (54, .aload_n 0, 1), (55, .invokevirtual 440, 3), (58, .aload_n 0, 1), (59, .iload_n 1, 1), (60, .aload_n 0, 1), (61, .getfield 9, 3)]
set_option maxRecDepth 100000 in
theorem ev_d_362_1 : ∀ q ∈ ev_c_362_1, decode prog_10_method_162_code q.1 = .ok (q.2.1, q.2.2) := fd_rows (by decide +kernel)
def ev_c_362_2 : List (Nat × Instr × Nat) := [(64, .iconst 0, 1), (65, .iaload, 1), (66, .invokevirtual 407, 3), (69, .istore_n 3, 1), (70, .aload_n 0, 1), (71, .getfield 9, 3), (74, .iconst 2, 1), (75, .dup2, 1), (76, .iaload, 1), (77, .iload_n 3, 1), (78, .iadd, 1), (79, .iastore, 1), (80, .aload_n 0, 1), (81, .getfield 9, 3), (84, .iconst 3, 1), (85, .dup2, 1), (86, .iaload, 1), (87, .aload_n 0, 1), (88, .iload_n 1, 1), (89, .invokevirtual 305, 3), (92, .aload_n 0, 1), (93, .iload_n 1, 1), (94, .iconst 1, 1), (95, .invokevirtual 302, 3)]
set_option maxRecDepth 100000 in
theorem ev_d_362_2 : ∀ q ∈ ev_c_362_2, decode prog_10_method_162_code q.1 = .ok (q.2.1, q.2.2) := fd_rows (by decide +kernel)
def ev_c_362_3 : List (Nat × Instr × Nat) := [(98, .imul, 1), (99, .iload_n 3, 1), (100, .isub, 1), (101, .iadd, 1), (102, .iastore, 1), (103, .aload_n 0, 1), (104, .iload_n 1, 1), (105, .iconst 3, 1), (106, .iconst 1, 1), (107, .invokevirtual 121, 3), (110, .aload_n 0, 1), (111, .iload_n 1, 1), (112, .iconst 4, 1), (113, .aload_n 0, 1), (114, .iload_n 1, 1), (115, .aload_n 0, 1), (116, .getfield 9, 3), (119, .iconst 0, 1), (120, .iaload, 1), (121, .invokevirtual 308, 3), (124, .invokevirtual 121, 3), (127, .aload_n 0, 1)]
set_option maxRecDepth 100000 in
theorem ev_d_362_3 : ∀ q ∈ ev_c_362_3, decode prog_10_method_162_code q.1 = .ok (q.2.1, q.2.2) := fd_rows (by decide +kernel)
def ev_c_362_4 : List (Nat × Instr × Nat) := [(128, .iload_n 1, 1), (129, .invokevirtual 446, 3), (132, .iload_n 3, 1), (133, .ireturn, 1)]
set_option maxRecDepth 100000 in
theorem ev_d_362_4 : ∀ q ∈ ev_c_362_4, decode prog_10_method_162_code q.1 = .ok (q.2.1, q.2.2) := fd_rows (by decide +kernel)
def ev_c_362 : List (Nat × List (Nat × Instr × Nat)) := [(0, ev_c_362_0), (1, ev_c_362_1), (2, ev_c_362_2), (3, ev_c_362_3), (4, ev_c_362_4)]
set_option maxRecDepth 100000 in
theorem ev_d_362 : ∀ q ∈ ev_c_362, ∀ z ∈ q.2, decode prog_10_method_162_code z.1 = .ok (z.2.1, z.2.2) := List.forall_mem_cons.mpr ⟨ev_d_362_0, List.forall_mem_cons.mpr ⟨ev_d_362_1, List.forall_mem_cons.mpr ⟨ev_d_362_2, List.forall_mem_cons.mpr ⟨ev_d_362_3, List.forall_mem_cons.mpr ⟨ev_d_362_4, fun _ h => absurd h List.not_mem_nil⟩⟩⟩⟩⟩
def ev_c_363_0 : List (Nat × Instr × Nat) := [(0, .aload_n 0, 1), (1, .aload_n 0, 1), (2, .getfield 47, 3), (5, .iload_n 1, 1), (6, .iconst 1, 1), (7, .bipush 50, 2), (9, .invokestatic 68, 3), (12, .invokevirtual 314, 3), (15, .ifCond .ne 5, 3), (18, .iconst 0, 1), (19, .ireturn, 1), (20, .aload_n 0, 1), (21, .invokevirtual 440, 3), (24, .aload_n 0, 1), (25, .getfield 9, 3), (28, .iconst 5, 1), (29, .iaload, 1), (30, .istore_n 2, 1), (31, .iconst 0, 1)]
set_option maxRecDepth 100000 in
theorem ev_d_363_0 : ∀ q ∈ ev_c_363_0, decode prog_10_method_163_code q.1 = .ok (q.2.1, q.2.2) := fd_rows (by decide +kernel)
def ev_c_363_1 : List (Nat × Instr × Nat) := [(32, .istore_n 3, 1), (33, .iload_n 3, 1), (34, .iload_n 1, 1), (35, .if_icmp .ge 13, 3), (38, .aload_n 0, 1), (39, .invokevirtual 155, 3), (42, .iinc 3 1, 3), (45, .goto (-12), 3), (48, .aload_n 0, 1), (49, .getfield 9, 3), (52, .iconst 5, 1), (53, .iaload, 1), (54, .iload_n 2, 1), (55, .isub, 1), (56, .ireturn, 1)]
set_option maxRecDepth 100000 in
theorem ev_d_363_1 : ∀ q ∈ ev_c_363_1, decode prog_10_method_163_code q.1 = .ok (q.2.1, q.2.2) := fd_rows (by decide +kernel)
def ev_c_363 : List (Nat × List (Nat × Instr × Nat)) := [(0, ev_c_363_0), (1, ev_c_363_1)]
set_option maxRecDepth 100000 in
theorem ev_d_363 : ∀ q ∈ ev_c_363, ∀ z ∈ q.2, decode prog_10_method_163_code z.1 = .ok (z.2.1, z.2.2) := List.forall_mem_cons.mpr ⟨ev_d_363_0, List.forall_mem_cons.mpr ⟨ev_d_363_1, fun _ h => absurd h List.not_mem_nil⟩⟩
def ev_c_364_0 : List (Nat × Instr × Nat) := [(0, .aload_n 0, 1), (1, .aload_n 0, 1), (2, .getfield 47, 3), (5, .iload_n 1, 1), (6, .invokestatic 404, 3), (9, .invokevirtual 314, 3), (12, .ifCond .ne 5, 3), (15, .iconst 0, 1), (16, .ireturn, 1), (17, .aload_n 0, 1), (18, .invokevirtual 440, 3), (21, .aload_n 0, 1), (22, .getfield 9, 3), (25, .iconst 1, 1), (26, .iaload, 1), (27, .istore_n 2, 1), (28, .aload_n 0, 1), (29, .getfield 9, 3)]
set_option maxRecDepth 100000 in
theorem ev_d_364_0 : ∀ q ∈ ev_c_364_0, decode prog_10_method_164_code q.1 = .ok (q.2.1, q.2.2) := fd_rows (by decide +kernel)
def ev_c_364_1 : List (Nat × Instr × Nat) := [(32, .iconst 1, 1), (33, .iload_n 1, 1), (34, .iastore, 1), (35, .iload_n 2, 1), (36, .ireturn, 1)]
set_option maxRecDepth 100000 in
theorem ev_d_364_1 : ∀ q ∈ ev_c_364_1, decode prog_10_method_164_code q.1 = .ok (q.2.1, q.2.2) := fd_rows (by decide +kernel)
def ev_c_364 : List (Nat × List (Nat × Instr × Nat)) := [(0, ev_c_364_0), (1, ev_c_364_1)]
set_option maxRecDepth 100000 in
theorem ev_d_364 : ∀ q ∈ ev_c_364, ∀ z ∈ q.2, decode prog_10_method_164_code z.1 = .ok (z.2.1, z.2.2) := List.forall_mem_cons.mpr ⟨ev_d_364_0, List.forall_mem_cons.mpr ⟨ev_d_364_1, fun _ h => absurd h List.not_mem_nil⟩⟩
def ev_c_365_0 : List (Nat × Instr × Nat) := [(0, .aload_n 0, 1), (1, .iload_n 1, 1), (2, .invokevirtual 339, 3), (5, .istore 5, 2), (7, .iload 5, 2), (9, .ifCond .eq 46, 3), (12, .iload_n 2, 1), (13, .iconst 1, 1), (14, .iconst 1, 1), (15, .aload_n 0, 1), (16, .getfield 9, 3), (19, .bipush 6, 2), (21, .iaload, 1), (22, .ishl, 1), (23, .iconst 1, 1), (24, .isub, 1), (25, .invokestatic 68, 3), (28, .ifCond .eq 27, 3), (31, .iload_n 3, 1)]
set_option maxRecDepth 100000 in
theorem ev_d_365_0 : ∀ q ∈ ev_c_365_0, decode prog_10_method_165_code q.1 = .ok (q.2.1, q.2.2) := fd_rows (by decide +kernel)
def ev_c_365_1 : List (Nat × Instr × Nat) := [(32, .iconst 0, 1), (33, .iconst 3, 1), (34, .invokestatic 68, 3), (37, .ifCond .eq 18, 3), (40, .iload 4, 2), (42, .iconst 0, 1), (43, .bipush 9, 2), (45, .invokestatic 68, 3), (48, .ifCond .eq 7, 3), (51, .iconst 1, 1), (52, .goto 4, 3), (55, .iconst 0, 1), (56, .istore 6, 2), (58, .aload_n 0, 1), (59, .aload_n 0, 1), (60, .getfield 47, 3), (63, .iload 5, 2)]
set_option maxRecDepth 100000 in
theorem ev_d_365_1 : ∀ q ∈ ev_c_365_1, decode prog_10_method_165_code q.1 = .ok (q.2.1, q.2.2) := fd_rows (by decide +kernel)
def ev_c_365_2 : List (Nat × Instr × Nat) := [(65, .iload 6, 2), (67, .ifCond .eq 27, 3), (70, .aload_n 0, 1), (71, .iload_n 1, 1), (72, .invokevirtual 345, 3), (75, .ifCond .ne 19, 3), (78, .aload_n 0, 1), (79, .getfield 9, 3), (82, .bipush 10, 2), (84, .iaload, 1), (85, .bipush 12, 2), (87, .if_icmp .ge 7, 3), (90, .iconst 1, 1), (91, .goto 4, 3), (94, .iconst 0, 1), (95, .invokevirtual 43, 3)]
set_option maxRecDepth 100000 in
theorem ev_d_365_2 : ∀ q ∈ ev_c_365_2, decode prog_10_method_165_code q.1 = .ok (q.2.1, q.2.2) := fd_rows (by decide +kernel)
def ev_c_365_3 : List (Nat × Instr × Nat) := [(98, .ifCond .ne 5, 3), (101, .iconst 0, 1), (102, .ireturn, 1), (103, .aload_n 0, 1), (104, .invokevirtual 440, 3), (107, .aload_n 0, 1), (108, .iload_n 1, 1), (109, .iload_n 2, 1), (110, .iload_n 3, 1), (111, .iload 4, 2), (113, .invokevirtual 133, 3), (116, .ireturn, 1)]
set_option maxRecDepth 100000 in
theorem ev_d_365_3 : ∀ q ∈ ev_c_365_3, decode prog_10_method_165_code q.1 = .ok (q.2.1, q.2.2) := fd_rows (by decide +kernel)
def ev_c_365 : List (Nat × List (Nat × Instr × Nat)) := [(0, ev_c_365_0), (1, ev_c_365_1), (2, ev_c_365_2), (3, ev_c_365_3)]
set_option maxRecDepth 100000 in
theorem ev_d_365 : ∀ q ∈ ev_c_365, ∀ z ∈ q.2, decode prog_10_method_165_code z.1 = .ok (z.2.1, z.2.2) := List.forall_mem_cons.mpr ⟨ev_d_365_0, List.forall_mem_cons.mpr ⟨ev_d_365_1, List.forall_mem_cons.mpr ⟨ev_d_365_2, List.forall_mem_cons.mpr ⟨ev_d_365_3, fun _ h => absurd h List.not_mem_nil⟩⟩⟩⟩
def ev_c_366_0 : List (Nat × Instr × Nat) := [(0, .aload_n 0, 1), (1, .aload_n 0, 1), (2, .getfield 224, 3), (5, .ifCond .le 7, 3), (8, .iconst 1, 1), (9, .goto 4, 3), (12, .iconst 0, 1), (13, .iconst 1, 1), (14, .iconst 1, 1), (15, .invokevirtual 43, 3), (18, .ifCond .ne 5, 3), (21, .iconst 0, 1), (22, .ireturn, 1), (23, .aload_n 0, 1), (24, .dup, 1), (25, .getfield 224, 3), (28, .iconst 1, 1), (29, .isub, 1), (30, .putfield 224, 3)]
set_option maxRecDepth 100000 in
theorem ev_d_366_0 : ∀ q ∈ ev_c_366_0, decode prog_10_method_166_code q.1 = .ok (q.2.1, q.2.2) := fd_rows (by decide +kernel)
def ev_c_366_1 : List (Nat × Instr × Nat) := [(33, .aload_n 0, 1), (34, .getfield 16, 3), (37, .aload_n 0, 1), (38, .getfield 224, 3), (41, .sipush 173, 3), (44, .imul, 1), (45, .aload_n 0, 1), (46, .getfield 9, 3), (49, .iconst 0, 1), (50, .invokestatic 51, 3), (53, .aload_n 0, 1), (54, .getfield 224, 3), (57, .ireturn, 1)]
set_option maxRecDepth 100000 in
theorem ev_d_366_1 : ∀ q ∈ ev_c_366_1, decode prog_10_method_166_code q.1 = .ok (q.2.1, q.2.2) := fd_rows (by decide +kernel)
def ev_c_366 : List (Nat × List (Nat × Instr × Nat)) := [(0, ev_c_366_0), (1, ev_c_366_1)]
set_option maxRecDepth 100000 in
theorem ev_d_366 : ∀ q ∈ ev_c_366, ∀ z ∈ q.2, decode prog_10_method_166_code z.1 = .ok (z.2.1, z.2.2) := List.forall_mem_cons.mpr ⟨ev_d_366_0, List.forall_mem_cons.mpr ⟨ev_d_366_1, fun _ h => absurd h List.not_mem_nil⟩⟩
def ev_c_367_0 : List (Nat × Instr × Nat) := [(0, .aload_n 0, 1), (1, .iconst 0, 1), (2, .putfield 40, 3), (5, .aload_n 0, 1), (6, .getfield 224, 3), (9, .ireturn, 1)]
set_option maxRecDepth 100000 in
theorem ev_d_367_0 : ∀ q ∈ ev_c_367_0, decode prog_10_method_167_code q.1 = .ok (q.2.1, q.2.2) := fd_rows (by decide +kernel)
def ev_c_367 : List (Nat × List (Nat × Instr × Nat)) := [(0, ev_c_367_0)]
set_option maxRecDepth 100000 in
theorem ev_d_367 : ∀ q ∈ ev_c_367, ∀ z ∈ q.2, decode prog_10_method_167_code z.1 = .ok (z.2.1, z.2.2) := List.forall_mem_cons.mpr ⟨ev_d_367_0, fun _ h => absurd h List.not_mem_nil⟩
def ev_c_368_0 : List (Nat × Instr × Nat) := [(0, .iload_n 0, 1), (1, .iconst 0, 1), (2, .iconst 1, 1), (3, .invokestatic 68, 3), (6, .ireturn, 1)]
set_option maxRecDepth 100000 in
theorem ev_d_368_0 : ∀ q ∈ ev_c_368_0, decode prog_10_method_168_code q.1 = .ok (q.2.1, q.2.2) := fd_rows (by decide +kernel)
def ev_c_368 : List (Nat × List (Nat × Instr × Nat)) := [(0, ev_c_368_0)]
set_option maxRecDepth 100000 in
theorem ev_d_368 : ∀ q ∈ ev_c_368, ∀ z ∈ q.2, decode prog_10_method_168_code z.1 = .ok (z.2.1, z.2.2) := List.forall_mem_cons.mpr ⟨ev_d_368_0, fun _ h => absurd h List.not_mem_nil⟩
def ev_c_369_0 : List (Nat × Instr × Nat) := [(0, .aload_n 0, 1), (1, .aload_n 0, 1), (2, .getfield 47, 3), (5, .iload_n 1, 1), (6, .invokestatic 449, 3), (9, .invokevirtual 314, 3), (12, .ifCond .ne 5, 3), (15, .iconst 0, 1), (16, .ireturn, 1), (17, .aload_n 0, 1), (18, .getfield 9, 3), (21, .iconst 0, 1), (22, .aload_n 0, 1), (23, .getfield 19, 3), (26, .iload_n 1, 1), (27, .sipush 173, 3), (30, .imul, 1), (31, .invokestatic 51, 3)]
set_option maxRecDepth 100000 in
theorem ev_d_369_0 : ∀ q ∈ ev_c_369_0, decode prog_10_method_169_code q.1 = .ok (q.2.1, q.2.2) := fd_rows (by decide +kernel)
def ev_c_369_1 : List (Nat × Instr × Nat) := [(34, .aload_n 0, 1), (35, .getfield 22, 3), (38, .iload_n 1, 1), (39, .iconst 1, 1), (40, .bastore, 1), (41, .aload_n 0, 1), (42, .getfield 9, 3), (45, .iconst 0, 1), (46, .iaload, 1), (47, .ireturn, 1)]
set_option maxRecDepth 100000 in
theorem ev_d_369_1 : ∀ q ∈ ev_c_369_1, decode prog_10_method_169_code q.1 = .ok (q.2.1, q.2.2) := fd_rows (by decide +kernel)
def ev_c_369 : List (Nat × List (Nat × Instr × Nat)) := [(0, ev_c_369_0), (1, ev_c_369_1)]
set_option maxRecDepth 100000 in
theorem ev_d_369 : ∀ q ∈ ev_c_369, ∀ z ∈ q.2, decode prog_10_method_169_code z.1 = .ok (z.2.1, z.2.2) := List.forall_mem_cons.mpr ⟨ev_d_369_0, List.forall_mem_cons.mpr ⟨ev_d_369_1, fun _ h => absurd h List.not_mem_nil⟩⟩
def ev_c_370_0 : List (Nat × Instr × Nat) := [(0, .iload_n 1, 1), (1, .invokestatic 449, 3), (4, .istore_n 2, 1), (5, .aload_n 0, 1), (6, .iload_n 2, 1), (7, .iload_n 2, 1), (8, .ifCond .eq 16, 3), (11, .aload_n 0, 1), (12, .getfield 22, 3), (15, .iload_n 1, 1), (16, .baload, 1), (17, .ifCond .eq 7, 3), (20, .iconst 1, 1), (21, .goto 4, 3), (24, .iconst 0, 1), (25, .invokevirtual 314, 3), (28, .ifCond .ne 5, 3), (31, .iconst 0, 1)]
set_option maxRecDepth 100000 in
theorem ev_d_370_0 : ∀ q ∈ ev_c_370_0, decode prog_10_method_170_code q.1 = .ok (q.2.1, q.2.2) := fd_rows (by decide +kernel)
def ev_c_370_1 : List (Nat × Instr × Nat) := [(32, .ireturn, 1), (33, .aload_n 0, 1), (34, .getfield 19, 3), (37, .iload_n 1, 1), (38, .sipush 173, 3), (41, .imul, 1), (42, .aload_n 0, 1), (43, .getfield 9, 3), (46, .iconst 0, 1), (47, .invokestatic 51, 3), (50, .aload_n 0, 1), (51, .iconst 0, 1), (52, .putfield 224, 3), (55, .aload_n 0, 1), (56, .getfield 9, 3), (59, .iconst 0, 1), (60, .iaload, 1), (61, .ireturn, 1)]
set_option maxRecDepth 100000 in
theorem ev_d_370_1 : ∀ q ∈ ev_c_370_1, decode prog_10_method_170_code q.1 = .ok (q.2.1, q.2.2) := fd_rows (by decide +kernel)
def ev_c_370 : List (Nat × List (Nat × Instr × Nat)) := [(0, ev_c_370_0), (1, ev_c_370_1)]
set_option maxRecDepth 100000 in
theorem ev_d_370 : ∀ q ∈ ev_c_370, ∀ z ∈ q.2, decode prog_10_method_170_code z.1 = .ok (z.2.1, z.2.2) := List.forall_mem_cons.mpr ⟨ev_d_370_0, List.forall_mem_cons.mpr ⟨ev_d_370_1, fun _ h => absurd h List.not_mem_nil⟩⟩
def ev_c_371_0 : List (Nat × Instr × Nat) := [(0, .iconst 0, 1), (1, .istore_n 2, 1), (2, .aload_n 0, 1), (3, .arraylength, 1), (4, .istore_n 3, 1), (5, .iload_n 2, 1), (6, .iload_n 3, 1), (7, .if_icmp .ge 13, 3), (10, .aload_n 0, 1), (11, .iload_n 2, 1), (12, .iload_n 1, 1), (13, .iastore, 1), (14, .iinc 2 1, 3), (17, .goto (-12), 3), (20, .return_, 1)]
set_option maxRecDepth 100000 in
theorem ev_d_371_0 : ∀ q ∈ ev_c_371_0, decode prog_23_method_103_code q.1 = .ok (q.2.1, q.2.2) := fd_rows (by decide +kernel)
def ev_c_371 : List (Nat × List (Nat × Instr × Nat)) := [(0, ev_c_371_0)]
set_option maxRecDepth 100000 in
theorem ev_d_371 : ∀ q ∈ ev_c_371, ∀ z ∈ q.2, decode prog_23_method_103_code z.1 = .ok (z.2.1, z.2.2) := List.forall_mem_cons.mpr ⟨ev_d_371_0, fun _ h => absurd h List.not_mem_nil⟩
def ev_c_372_0 : List (Nat × Instr × Nat) := [(0, .iload_n 0, 1), (1, .iload_n 0, 1), (2, .iconst 1, 1), (3, .iushr, 1), (4, .ldc_w 265, 3), (7, .iand, 1), (8, .isub, 1), (9, .istore_n 0, 1), (10, .iload_n 0, 1), (11, .ldc_w 266, 3), (14, .iand, 1), (15, .iload_n 0, 1), (16, .iconst 2, 1), (17, .iushr, 1), (18, .ldc_w 266, 3), (21, .iand, 1), (22, .iadd, 1), (23, .istore_n 0, 1), (24, .iload_n 0, 1), (25, .iload_n 0, 1), (26, .iconst 4, 1), (27, .iushr, 1), (28, .iadd, 1), (29, .ldc_w 267, 3)]
set_option maxRecDepth 100000 in
theorem ev_d_372_0 : ∀ q ∈ ev_c_372_0, decode prog_15_method_49_code q.1 = .ok (q.2.1, q.2.2) := fd_rows (by decide +kernel)
def ev_c_372_1 : List (Nat × Instr × Nat) := [(32, .iand, 1), (33, .istore_n 0, 1), (34, .iload_n 0, 1), (35, .iload_n 0, 1), (36, .bipush 8, 2), (38, .iushr, 1), (39, .iadd, 1), (40, .istore_n 0, 1), (41, .iload_n 0, 1), (42, .iload_n 0, 1), (43, .bipush 16, 2), (45, .iushr, 1), (46, .iadd, 1), (47, .istore_n 0, 1), (48, .iload_n 0, 1), (49, .bipush 63, 2), (51, .iand, 1), (52, .ireturn, 1)]
set_option maxRecDepth 100000 in
theorem ev_d_372_1 : ∀ q ∈ ev_c_372_1, decode prog_15_method_49_code q.1 = .ok (q.2.1, q.2.2) := fd_rows (by decide +kernel)
def ev_c_372 : List (Nat × List (Nat × Instr × Nat)) := [(0, ev_c_372_0), (1, ev_c_372_1)]
set_option maxRecDepth 100000 in
theorem ev_d_372 : ∀ q ∈ ev_c_372, ∀ z ∈ q.2, decode prog_15_method_49_code z.1 = .ok (z.2.1, z.2.2) := List.forall_mem_cons.mpr ⟨ev_d_372_0, List.forall_mem_cons.mpr ⟨ev_d_372_1, fun _ h => absurd h List.not_mem_nil⟩⟩
def ev_c_373_0 : List (Nat × Instr × Nat) := [(0, .aload_n 2, 1), (1, .iconst 0, 1), (2, .aload_n 0, 1), (3, .iload_n 1, 1), (4, .invokevirtual 7, 3), (7, .i2l, 1), (8, .lastore, 1), (9, .goto 9, 3), (12, .astore_n 3, 1), (13, .iconst 1, 1), (14, .ireturn, 1), (15, .astore_n 3, 1), (16, .iconst 2, 1), (17, .ireturn, 1), (18, .iconst 0, 1), (19, .ireturn, 1)]
set_option maxRecDepth 100000 in
theorem ev_d_373_0 : ∀ q ∈ ev_c_373_0, decode method_3_code q.1 = .ok (q.2.1, q.2.2) := fd_rows (by decide +kernel)
def ev_c_373 : List (Nat × List (Nat × Instr × Nat)) := [(0, ev_c_373_0)]
set_option maxRecDepth 100000 in
theorem ev_d_373 : ∀ q ∈ ev_c_373, ∀ z ∈ q.2, decode method_3_code z.1 = .ok (z.2.1, z.2.2) := List.forall_mem_cons.mpr ⟨ev_d_373_0, fun _ h => absurd h List.not_mem_nil⟩
def ev_c_374_0 : List (Nat × Instr × Nat) := [(0, .aload_n 2, 1), (1, .iconst 0, 1), (2, .aload_n 0, 1), (3, .iload_n 1, 1), (4, .invokevirtual 17, 3), (7, .i2l, 1), (8, .lastore, 1), (9, .goto 9, 3), (12, .astore_n 3, 1), (13, .iconst 1, 1), (14, .ireturn, 1), (15, .astore_n 3, 1), (16, .iconst 2, 1), (17, .ireturn, 1), (18, .iconst 0, 1), (19, .ireturn, 1)]
set_option maxRecDepth 100000 in
theorem ev_d_374_0 : ∀ q ∈ ev_c_374_0, decode method_4_code q.1 = .ok (q.2.1, q.2.2) := fd_rows (by decide +kernel)
def ev_c_374 : List (Nat × List (Nat × Instr × Nat)) := [(0, ev_c_374_0)]
set_option maxRecDepth 100000 in
theorem ev_d_374 : ∀ q ∈ ev_c_374, ∀ z ∈ q.2, decode method_4_code z.1 = .ok (z.2.1, z.2.2) := List.forall_mem_cons.mpr ⟨ev_d_374_0, fun _ h => absurd h List.not_mem_nil⟩
def ev_c_375_0 : List (Nat × Instr × Nat) := [(0, .aload_n 3, 1), (1, .iconst 0, 1), (2, .aload_n 0, 1), (3, .iload_n 1, 1), (4, .iload_n 2, 1), (5, .invokevirtual 22, 3), (8, .i2l, 1), (9, .lastore, 1), (10, .goto 15, 3), (13, .astore 4, 2), (15, .iconst 1, 1), (16, .ireturn, 1), (17, .astore 4, 2), (19, .iconst 2, 1), (20, .ireturn, 1), (21, .astore 4, 2), (23, .iconst 3, 1), (24, .ireturn, 1), (25, .iconst 0, 1), (26, .ireturn, 1)]
set_option maxRecDepth 100000 in
theorem ev_d_375_0 : ∀ q ∈ ev_c_375_0, decode method_5_code q.1 = .ok (q.2.1, q.2.2) := fd_rows (by decide +kernel)
def ev_c_375 : List (Nat × List (Nat × Instr × Nat)) := [(0, ev_c_375_0)]
set_option maxRecDepth 100000 in
theorem ev_d_375 : ∀ q ∈ ev_c_375, ∀ z ∈ q.2, decode method_5_code z.1 = .ok (z.2.1, z.2.2) := List.forall_mem_cons.mpr ⟨ev_d_375_0, fun _ h => absurd h List.not_mem_nil⟩
def ev_c_376_0 : List (Nat × Instr × Nat) := [(0, .aload_n 3, 1), (1, .iconst 0, 1), (2, .aload_n 0, 1), (3, .iload_n 1, 1), (4, .iload_n 2, 1), (5, .invokevirtual 26, 3), (8, .i2l, 1), (9, .lastore, 1), (10, .goto 15, 3), (13, .astore 4, 2), (15, .iconst 1, 1), (16, .ireturn, 1), (17, .astore 4, 2), (19, .iconst 2, 1), (20, .ireturn, 1), (21, .astore 4, 2), (23, .iconst 3, 1), (24, .ireturn, 1), (25, .iconst 0, 1), (26, .ireturn, 1)]
set_option maxRecDepth 100000 in
theorem ev_d_376_0 : ∀ q ∈ ev_c_376_0, decode method_6_code q.1 = .ok (q.2.1, q.2.2) := fd_rows (by decide +kernel)
def ev_c_376 : List (Nat × List (Nat × Instr × Nat)) := [(0, ev_c_376_0)]
set_option maxRecDepth 100000 in
theorem ev_d_376 : ∀ q ∈ ev_c_376, ∀ z ∈ q.2, decode method_6_code z.1 = .ok (z.2.1, z.2.2) := List.forall_mem_cons.mpr ⟨ev_d_376_0, fun _ h => absurd h List.not_mem_nil⟩
def ev_c_377_0 : List (Nat × Instr × Nat) := [(0, .aload_n 3, 1), (1, .iconst 0, 1), (2, .aload_n 0, 1), (3, .iload_n 1, 1), (4, .iload_n 2, 1), (5, .invokevirtual 29, 3), (8, .i2l, 1), (9, .lastore, 1), (10, .goto 15, 3), (13, .astore 4, 2), (15, .iconst 1, 1), (16, .ireturn, 1), (17, .astore 4, 2), (19, .iconst 2, 1), (20, .ireturn, 1), (21, .astore 4, 2), (23, .iconst 3, 1), (24, .ireturn, 1), (25, .iconst 0, 1), (26, .ireturn, 1)]
set_option maxRecDepth 100000 in
theorem ev_d_377_0 : ∀ q ∈ ev_c_377_0, decode method_7_code q.1 = .ok (q.2.1, q.2.2) := fd_rows (by decide +kernel)
def ev_c_377 : List (Nat × List (Nat × Instr × Nat)) := [(0, ev_c_377_0)]
set_option maxRecDepth 100000 in
theorem ev_d_377 : ∀ q ∈ ev_c_377, ∀ z ∈ q.2, decode method_7_code z.1 = .ok (z.2.1, z.2.2) := List.forall_mem_cons.mpr ⟨ev_d_377_0, fun _ h => absurd h List.not_mem_nil⟩
def ev_c_378_0 : List (Nat × Instr × Nat) := [(0, .aload_n 3, 1), (1, .iconst 0, 1), (2, .aload_n 0, 1), (3, .iload_n 1, 1), (4, .iload_n 2, 1), (5, .invokevirtual 32, 3), (8, .i2l, 1), (9, .lastore, 1), (10, .goto 15, 3), (13, .astore 4, 2), (15, .iconst 1, 1), (16, .ireturn, 1), (17, .astore 4, 2), (19, .iconst 2, 1), (20, .ireturn, 1), (21, .astore 4, 2), (23, .iconst 3, 1), (24, .ireturn, 1), (25, .iconst 0, 1), (26, .ireturn, 1)]
set_option maxRecDepth 100000 in
theorem ev_d_378_0 : ∀ q ∈ ev_c_378_0, decode method_8_code q.1 = .ok (q.2.1, q.2.2) := fd_rows (by decide +kernel)
def ev_c_378 : List (Nat × List (Nat × Instr × Nat)) := [(0, ev_c_378_0)]
set_option maxRecDepth 100000 in
theorem ev_d_378 : ∀ q ∈ ev_c_378, ∀ z ∈ q.2, decode method_8_code z.1 = .ok (z.2.1, z.2.2) := List.forall_mem_cons.mpr ⟨ev_d_378_0, fun _ h => absurd h List.not_mem_nil⟩
def ev_c_379_0 : List (Nat × Instr × Nat) := [(0, .aload_n 3, 1), (1, .iconst 0, 1), (2, .aload_n 0, 1), (3, .iload_n 1, 1), (4, .iload_n 2, 1), (5, .invokevirtual 35, 3), (8, .i2l, 1), (9, .lastore, 1), (10, .goto 11, 3), (13, .astore 4, 2), (15, .iconst 1, 1), (16, .ireturn, 1), (17, .astore 4, 2), (19, .iconst 2, 1), (20, .ireturn, 1), (21, .iconst 0, 1), (22, .ireturn, 1)]
set_option maxRecDepth 100000 in
theorem ev_d_379_0 : ∀ q ∈ ev_c_379_0, decode method_9_code q.1 = .ok (q.2.1, q.2.2) := fd_rows (by decide +kernel)
def ev_c_379 : List (Nat × List (Nat × Instr × Nat)) := [(0, ev_c_379_0)]
set_option maxRecDepth 100000 in
theorem ev_d_379 : ∀ q ∈ ev_c_379, ∀ z ∈ q.2, decode method_9_code z.1 = .ok (z.2.1, z.2.2) := List.forall_mem_cons.mpr ⟨ev_d_379_0, fun _ h => absurd h List.not_mem_nil⟩
def ev_c_380_0 : List (Nat × Instr × Nat) := [(0, .aload_n 2, 1), (1, .iconst 0, 1), (2, .aload_n 0, 1), (3, .iload_n 1, 1), (4, .invokevirtual 38, 3), (7, .i2l, 1), (8, .lastore, 1), (9, .goto 9, 3), (12, .astore_n 3, 1), (13, .iconst 1, 1), (14, .ireturn, 1), (15, .astore_n 3, 1), (16, .iconst 2, 1), (17, .ireturn, 1), (18, .iconst 0, 1), (19, .ireturn, 1)]
set_option maxRecDepth 100000 in
theorem ev_d_380_0 : ∀ q ∈ ev_c_380_0, decode method_10_code q.1 = .ok (q.2.1, q.2.2) := fd_rows (by decide +kernel)
def ev_c_380 : List (Nat × List (Nat × Instr × Nat)) := [(0, ev_c_380_0)]
set_option maxRecDepth 100000 in
theorem ev_d_380 : ∀ q ∈ ev_c_380, ∀ z ∈ q.2, decode method_10_code z.1 = .ok (z.2.1, z.2.2) := List.forall_mem_cons.mpr ⟨ev_d_380_0, fun _ h => absurd h List.not_mem_nil⟩
def ev_c_381_0 : List (Nat × Instr × Nat) := [(0, .aload_n 1, 1), (1, .iconst 0, 1), (2, .aload_n 0, 1), (3, .invokevirtual 41, 3), (6, .i2l, 1), (7, .lastore, 1), (8, .goto 6, 3), (11, .astore_n 2, 1), (12, .iconst 1, 1), (13, .ireturn, 1), (14, .iconst 0, 1), (15, .ireturn, 1)]
set_option maxRecDepth 100000 in
theorem ev_d_381_0 : ∀ q ∈ ev_c_381_0, decode method_11_code q.1 = .ok (q.2.1, q.2.2) := fd_rows (by decide +kernel)
def ev_c_381 : List (Nat × List (Nat × Instr × Nat)) := [(0, ev_c_381_0)]
set_option maxRecDepth 100000 in
theorem ev_d_381 : ∀ q ∈ ev_c_381, ∀ z ∈ q.2, decode method_11_code z.1 = .ok (z.2.1, z.2.2) := List.forall_mem_cons.mpr ⟨ev_d_381_0, fun _ h => absurd h List.not_mem_nil⟩
def ev_c_382_0 : List (Nat × Instr × Nat) := [(0, .aload_n 1, 1), (1, .iconst 0, 1), (2, .aload_n 0, 1), (3, .invokevirtual 45, 3), (6, .i2l, 1), (7, .lastore, 1), (8, .goto 6, 3), (11, .astore_n 2, 1), (12, .iconst 1, 1), (13, .ireturn, 1), (14, .iconst 0, 1), (15, .ireturn, 1)]
set_option maxRecDepth 100000 in
theorem ev_d_382_0 : ∀ q ∈ ev_c_382_0, decode method_12_code q.1 = .ok (q.2.1, q.2.2) := fd_rows (by decide +kernel)
def ev_c_382 : List (Nat × List (Nat × Instr × Nat)) := [(0, ev_c_382_0)]
set_option maxRecDepth 100000 in
theorem ev_d_382 : ∀ q ∈ ev_c_382, ∀ z ∈ q.2, decode method_12_code z.1 = .ok (z.2.1, z.2.2) := List.forall_mem_cons.mpr ⟨ev_d_382_0, fun _ h => absurd h List.not_mem_nil⟩
def ev_c_383_0 : List (Nat × Instr × Nat) := [(0, .aload_n 1, 1), (1, .iconst 0, 1), (2, .aload_n 0, 1), (3, .invokevirtual 48, 3), (6, .i2l, 1), (7, .lastore, 1), (8, .goto 6, 3), (11, .astore_n 2, 1), (12, .iconst 1, 1), (13, .ireturn, 1), (14, .iconst 0, 1), (15, .ireturn, 1)]
set_option maxRecDepth 100000 in
theorem ev_d_383_0 : ∀ q ∈ ev_c_383_0, decode method_13_code q.1 = .ok (q.2.1, q.2.2) := fd_rows (by decide +kernel)
def ev_c_383 : List (Nat × List (Nat × Instr × Nat)) := [(0, ev_c_383_0)]
set_option maxRecDepth 100000 in
theorem ev_d_383 : ∀ q ∈ ev_c_383, ∀ z ∈ q.2, decode method_13_code z.1 = .ok (z.2.1, z.2.2) := List.forall_mem_cons.mpr ⟨ev_d_383_0, fun _ h => absurd h List.not_mem_nil⟩
def ev_c_384_0 : List (Nat × Instr × Nat) := [(0, .aload_n 2, 1), (1, .iconst 0, 1), (2, .aload_n 0, 1), (3, .iload_n 1, 1), (4, .invokevirtual 51, 3), (7, .i2l, 1), (8, .lastore, 1), (9, .goto 9, 3), (12, .astore_n 3, 1), (13, .iconst 1, 1), (14, .ireturn, 1), (15, .astore_n 3, 1), (16, .iconst 2, 1), (17, .ireturn, 1), (18, .iconst 0, 1), (19, .ireturn, 1)]
set_option maxRecDepth 100000 in
theorem ev_d_384_0 : ∀ q ∈ ev_c_384_0, decode method_14_code q.1 = .ok (q.2.1, q.2.2) := fd_rows (by decide +kernel)
def ev_c_384 : List (Nat × List (Nat × Instr × Nat)) := [(0, ev_c_384_0)]
set_option maxRecDepth 100000 in
theorem ev_d_384 : ∀ q ∈ ev_c_384, ∀ z ∈ q.2, decode method_14_code z.1 = .ok (z.2.1, z.2.2) := List.forall_mem_cons.mpr ⟨ev_d_384_0, fun _ h => absurd h List.not_mem_nil⟩
def ev_c_385_0 : List (Nat × Instr × Nat) := [(0, .aload_n 2, 1), (1, .iconst 0, 1), (2, .aload_n 0, 1), (3, .iload_n 1, 1), (4, .invokevirtual 54, 3), (7, .i2l, 1), (8, .lastore, 1), (9, .goto 9, 3), (12, .astore_n 3, 1), (13, .iconst 1, 1), (14, .ireturn, 1), (15, .astore_n 3, 1), (16, .iconst 2, 1), (17, .ireturn, 1), (18, .iconst 0, 1), (19, .ireturn, 1)]
set_option maxRecDepth 100000 in
theorem ev_d_385_0 : ∀ q ∈ ev_c_385_0, decode method_15_code q.1 = .ok (q.2.1, q.2.2) := fd_rows (by decide +kernel)
def ev_c_385 : List (Nat × List (Nat × Instr × Nat)) := [(0, ev_c_385_0)]
set_option maxRecDepth 100000 in
theorem ev_d_385 : ∀ q ∈ ev_c_385, ∀ z ∈ q.2, decode method_15_code z.1 = .ok (z.2.1, z.2.2) := List.forall_mem_cons.mpr ⟨ev_d_385_0, fun _ h => absurd h List.not_mem_nil⟩
def ev_c_386_0 : List (Nat × Instr × Nat) := [(0, .aload_n 2, 1), (1, .iconst 0, 1), (2, .aload_n 0, 1), (3, .iload_n 1, 1), (4, .invokevirtual 57, 3), (7, .i2l, 1), (8, .lastore, 1), (9, .goto 9, 3), (12, .astore_n 3, 1), (13, .iconst 1, 1), (14, .ireturn, 1), (15, .astore_n 3, 1), (16, .iconst 2, 1), (17, .ireturn, 1), (18, .iconst 0, 1), (19, .ireturn, 1)]
set_option maxRecDepth 100000 in
theorem ev_d_386_0 : ∀ q ∈ ev_c_386_0, decode method_16_code q.1 = .ok (q.2.1, q.2.2) := fd_rows (by decide +kernel)
def ev_c_386 : List (Nat × List (Nat × Instr × Nat)) := [(0, ev_c_386_0)]
set_option maxRecDepth 100000 in
theorem ev_d_386 : ∀ q ∈ ev_c_386, ∀ z ∈ q.2, decode method_16_code z.1 = .ok (z.2.1, z.2.2) := List.forall_mem_cons.mpr ⟨ev_d_386_0, fun _ h => absurd h List.not_mem_nil⟩
def ev_c_387_0 : List (Nat × Instr × Nat) := [(0, .aload_n 3, 1), (1, .iconst 0, 1), (2, .aload_n 0, 1), (3, .iload_n 1, 1), (4, .iload_n 2, 1), (5, .invokevirtual 60, 3), (8, .i2l, 1), (9, .lastore, 1), (10, .goto 11, 3), (13, .astore 4, 2), (15, .iconst 1, 1), (16, .ireturn, 1), (17, .astore 4, 2), (19, .iconst 2, 1), (20, .ireturn, 1), (21, .iconst 0, 1), (22, .ireturn, 1)]
set_option maxRecDepth 100000 in
theorem ev_d_387_0 : ∀ q ∈ ev_c_387_0, decode method_17_code q.1 = .ok (q.2.1, q.2.2) := fd_rows (by decide +kernel)
def ev_c_387 : List (Nat × List (Nat × Instr × Nat)) := [(0, ev_c_387_0)]
set_option maxRecDepth 100000 in
theorem ev_d_387 : ∀ q ∈ ev_c_387, ∀ z ∈ q.2, decode method_17_code z.1 = .ok (z.2.1, z.2.2) := List.forall_mem_cons.mpr ⟨ev_d_387_0, fun _ h => absurd h List.not_mem_nil⟩
def ev_c_388_0 : List (Nat × Instr × Nat) := [(0, .aload_n 3, 1), (1, .iconst 0, 1), (2, .aload_n 0, 1), (3, .iload_n 1, 1), (4, .iload_n 2, 1), (5, .invokevirtual 63, 3), (8, .i2l, 1), (9, .lastore, 1), (10, .goto 15, 3), (13, .astore 4, 2), (15, .iconst 1, 1), (16, .ireturn, 1), (17, .astore 4, 2), (19, .iconst 2, 1), (20, .ireturn, 1), (21, .astore 4, 2), (23, .iconst 3, 1), (24, .ireturn, 1), (25, .iconst 0, 1), (26, .ireturn, 1)]
set_option maxRecDepth 100000 in
theorem ev_d_388_0 : ∀ q ∈ ev_c_388_0, decode method_18_code q.1 = .ok (q.2.1, q.2.2) := fd_rows (by decide +kernel)
def ev_c_388 : List (Nat × List (Nat × Instr × Nat)) := [(0, ev_c_388_0)]
set_option maxRecDepth 100000 in
theorem ev_d_388 : ∀ q ∈ ev_c_388, ∀ z ∈ q.2, decode method_18_code z.1 = .ok (z.2.1, z.2.2) := List.forall_mem_cons.mpr ⟨ev_d_388_0, fun _ h => absurd h List.not_mem_nil⟩
def ev_c_389_0 : List (Nat × Instr × Nat) := [(0, .aload_n 3, 1), (1, .iconst 0, 1), (2, .aload_n 0, 1), (3, .iload_n 1, 1), (4, .iload_n 2, 1), (5, .invokevirtual 66, 3), (8, .i2l, 1), (9, .lastore, 1), (10, .goto 15, 3), (13, .astore 4, 2), (15, .iconst 1, 1), (16, .ireturn, 1), (17, .astore 4, 2), (19, .iconst 2, 1), (20, .ireturn, 1), (21, .astore 4, 2), (23, .iconst 3, 1), (24, .ireturn, 1), (25, .iconst 0, 1), (26, .ireturn, 1)]
set_option maxRecDepth 100000 in
theorem ev_d_389_0 : ∀ q ∈ ev_c_389_0, decode method_19_code q.1 = .ok (q.2.1, q.2.2) := fd_rows (by decide +kernel)
def ev_c_389 : List (Nat × List (Nat × Instr × Nat)) := [(0, ev_c_389_0)]
set_option maxRecDepth 100000 in
theorem ev_d_389 : ∀ q ∈ ev_c_389, ∀ z ∈ q.2, decode method_19_code z.1 = .ok (z.2.1, z.2.2) := List.forall_mem_cons.mpr ⟨ev_d_389_0, fun _ h => absurd h List.not_mem_nil⟩
def ev_c_390_0 : List (Nat × Instr × Nat) := [(0, .aload_n 2, 1), (1, .iconst 0, 1), (2, .aload_n 0, 1), (3, .iload_n 1, 1), (4, .invokevirtual 69, 3), (7, .i2l, 1), (8, .lastore, 1), (9, .goto 9, 3), (12, .astore_n 3, 1), (13, .iconst 1, 1), (14, .ireturn, 1), (15, .astore_n 3, 1), (16, .iconst 2, 1), (17, .ireturn, 1), (18, .iconst 0, 1), (19, .ireturn, 1)]
set_option maxRecDepth 100000 in
theorem ev_d_390_0 : ∀ q ∈ ev_c_390_0, decode method_20_code q.1 = .ok (q.2.1, q.2.2) := fd_rows (by decide +kernel)
def ev_c_390 : List (Nat × List (Nat × Instr × Nat)) := [(0, ev_c_390_0)]
set_option maxRecDepth 100000 in
theorem ev_d_390 : ∀ q ∈ ev_c_390, ∀ z ∈ q.2, decode method_20_code z.1 = .ok (z.2.1, z.2.2) := List.forall_mem_cons.mpr ⟨ev_d_390_0, fun _ h => absurd h List.not_mem_nil⟩
def ev_c_391_0 : List (Nat × Instr × Nat) := [(0, .aload_n 3, 1), (1, .iconst 0, 1), (2, .aload_n 0, 1), (3, .iload_n 1, 1), (4, .iload_n 2, 1), (5, .invokevirtual 72, 3), (8, .i2l, 1), (9, .lastore, 1), (10, .goto 15, 3), (13, .astore 4, 2), (15, .iconst 1, 1), (16, .ireturn, 1), (17, .astore 4, 2), (19, .iconst 2, 1), (20, .ireturn, 1), (21, .astore 4, 2), (23, .iconst 3, 1), (24, .ireturn, 1), (25, .iconst 0, 1), (26, .ireturn, 1)]
set_option maxRecDepth 100000 in
theorem ev_d_391_0 : ∀ q ∈ ev_c_391_0, decode method_21_code q.1 = .ok (q.2.1, q.2.2) := fd_rows (by decide +kernel)
def ev_c_391 : List (Nat × List (Nat × Instr × Nat)) := [(0, ev_c_391_0)]
set_option maxRecDepth 100000 in
theorem ev_d_391 : ∀ q ∈ ev_c_391, ∀ z ∈ q.2, decode method_21_code z.1 = .ok (z.2.1, z.2.2) := List.forall_mem_cons.mpr ⟨ev_d_391_0, fun _ h => absurd h List.not_mem_nil⟩
def ev_c_392_0 : List (Nat × Instr × Nat) := [(0, .aload_n 3, 1), (1, .iconst 0, 1), (2, .aload_n 0, 1), (3, .iload_n 1, 1), (4, .iload_n 2, 1), (5, .invokevirtual 75, 3), (8, .i2l, 1), (9, .lastore, 1), (10, .goto 15, 3), (13, .astore 4, 2), (15, .iconst 1, 1), (16, .ireturn, 1), (17, .astore 4, 2), (19, .iconst 2, 1), (20, .ireturn, 1), (21, .astore 4, 2), (23, .iconst 3, 1), (24, .ireturn, 1), (25, .iconst 0, 1), (26, .ireturn, 1)]
set_option maxRecDepth 100000 in
theorem ev_d_392_0 : ∀ q ∈ ev_c_392_0, decode method_22_code q.1 = .ok (q.2.1, q.2.2) := fd_rows (by decide +kernel)
def ev_c_392 : List (Nat × List (Nat × Instr × Nat)) := [(0, ev_c_392_0)]
set_option maxRecDepth 100000 in
theorem ev_d_392 : ∀ q ∈ ev_c_392, ∀ z ∈ q.2, decode method_22_code z.1 = .ok (z.2.1, z.2.2) := List.forall_mem_cons.mpr ⟨ev_d_392_0, fun _ h => absurd h List.not_mem_nil⟩
def ev_c_393_0 : List (Nat × Instr × Nat) := [(0, .aload_n 3, 1), (1, .iconst 0, 1), (2, .aload_n 0, 1), (3, .iload_n 1, 1), (4, .iload_n 2, 1), (5, .invokevirtual 78, 3), (8, .i2l, 1), (9, .lastore, 1), (10, .goto 15, 3), (13, .astore 4, 2), (15, .iconst 1, 1), (16, .ireturn, 1), (17, .astore 4, 2), (19, .iconst 2, 1), (20, .ireturn, 1), (21, .astore 4, 2), (23, .iconst 3, 1), (24, .ireturn, 1), (25, .iconst 0, 1), (26, .ireturn, 1)]
set_option maxRecDepth 100000 in
theorem ev_d_393_0 : ∀ q ∈ ev_c_393_0, decode method_23_code q.1 = .ok (q.2.1, q.2.2) := fd_rows (by decide +kernel)
def ev_c_393 : List (Nat × List (Nat × Instr × Nat)) := [(0, ev_c_393_0)]
set_option maxRecDepth 100000 in
theorem ev_d_393 : ∀ q ∈ ev_c_393, ∀ z ∈ q.2, decode method_23_code z.1 = .ok (z.2.1, z.2.2) := List.forall_mem_cons.mpr ⟨ev_d_393_0, fun _ h => absurd h List.not_mem_nil⟩
def ev_c_394_0 : List (Nat × Instr × Nat) := [(0, .aload_n 2, 1), (1, .iconst 0, 1), (2, .aload_n 0, 1), (3, .iload_n 1, 1), (4, .invokevirtual 81, 3), (7, .i2l, 1), (8, .lastore, 1), (9, .goto 9, 3), (12, .astore_n 3, 1), (13, .iconst 1, 1), (14, .ireturn, 1), (15, .astore_n 3, 1), (16, .iconst 2, 1), (17, .ireturn, 1), (18, .iconst 0, 1), (19, .ireturn, 1)]
set_option maxRecDepth 100000 in
theorem ev_d_394_0 : ∀ q ∈ ev_c_394_0, decode method_24_code q.1 = .ok (q.2.1, q.2.2) := fd_rows (by decide +kernel)
def ev_c_394 : List (Nat × List (Nat × Instr × Nat)) := [(0, ev_c_394_0)]
set_option maxRecDepth 100000 in
theorem ev_d_394 : ∀ q ∈ ev_c_394, ∀ z ∈ q.2, decode method_24_code z.1 = .ok (z.2.1, z.2.2) := List.forall_mem_cons.mpr ⟨ev_d_394_0, fun _ h => absurd h List.not_mem_nil⟩
def ev_c_395_0 : List (Nat × Instr × Nat) := [(0, .aload_n 3, 1), (1, .iconst 0, 1), (2, .aload_n 0, 1), (3, .iload_n 1, 1), (4, .iload_n 2, 1), (5, .invokevirtual 84, 3), (8, .i2l, 1), (9, .lastore, 1), (10, .goto 15, 3), (13, .astore 4, 2), (15, .iconst 1, 1), (16, .ireturn, 1), (17, .astore 4, 2), (19, .iconst 2, 1), (20, .ireturn, 1), (21, .astore 4, 2), (23, .iconst 3, 1), (24, .ireturn, 1), (25, .iconst 0, 1), (26, .ireturn, 1)]
set_option maxRecDepth 100000 in
theorem ev_d_395_0 : ∀ q ∈ ev_c_395_0, decode method_25_code q.1 = .ok (q.2.1, q.2.2) := fd_rows (by decide +kernel)
def ev_c_395 : List (Nat × List (Nat × Instr × Nat)) := [(0, ev_c_395_0)]
set_option maxRecDepth 100000 in
theorem ev_d_395 : ∀ q ∈ ev_c_395, ∀ z ∈ q.2, decode method_25_code z.1 = .ok (z.2.1, z.2.2) := List.forall_mem_cons.mpr ⟨ev_d_395_0, fun _ h => absurd h List.not_mem_nil⟩
def ev_c_396_0 : List (Nat × Instr × Nat) := [(0, .aload 4, 2), (2, .iconst 0, 1), (3, .aload_n 0, 1), (4, .iload_n 1, 1), (5, .iload_n 2, 1), (6, .iload_n 3, 1), (7, .invokevirtual 87, 3), (10, .i2l, 1), (11, .lastore, 1), (12, .goto 15, 3), (15, .astore 5, 2), (17, .iconst 1, 1), (18, .ireturn, 1), (19, .astore 5, 2), (21, .iconst 2, 1), (22, .ireturn, 1), (23, .astore 5, 2), (25, .iconst 3, 1), (26, .ireturn, 1), (27, .iconst 0, 1), (28, .ireturn, 1)]
set_option maxRecDepth 100000 in
theorem ev_d_396_0 : ∀ q ∈ ev_c_396_0, decode method_26_code q.1 = .ok (q.2.1, q.2.2) := fd_rows (by decide +kernel)
def ev_c_396 : List (Nat × List (Nat × Instr × Nat)) := [(0, ev_c_396_0)]
set_option maxRecDepth 100000 in
theorem ev_d_396 : ∀ q ∈ ev_c_396, ∀ z ∈ q.2, decode method_26_code z.1 = .ok (z.2.1, z.2.2) := List.forall_mem_cons.mpr ⟨ev_d_396_0, fun _ h => absurd h List.not_mem_nil⟩
def ev_c_397_0 : List (Nat × Instr × Nat) := [(0, .aload_n 2, 1), (1, .iconst 0, 1), (2, .aload_n 0, 1), (3, .iload_n 1, 1), (4, .invokevirtual 91, 3), (7, .i2l, 1), (8, .lastore, 1), (9, .goto 9, 3), (12, .astore_n 3, 1), (13, .iconst 1, 1), (14, .ireturn, 1), (15, .astore_n 3, 1), (16, .iconst 2, 1), (17, .ireturn, 1), (18, .iconst 0, 1), (19, .ireturn, 1)]
set_option maxRecDepth 100000 in
theorem ev_d_397_0 : ∀ q ∈ ev_c_397_0, decode method_27_code q.1 = .ok (q.2.1, q.2.2) := fd_rows (by decide +kernel)
def ev_c_397 : List (Nat × List (Nat × Instr × Nat)) := [(0, ev_c_397_0)]
set_option maxRecDepth 100000 in
theorem ev_d_397 : ∀ q ∈ ev_c_397, ∀ z ∈ q.2, decode method_27_code z.1 = .ok (z.2.1, z.2.2) := List.forall_mem_cons.mpr ⟨ev_d_397_0, fun _ h => absurd h List.not_mem_nil⟩
def ev_c_398_0 : List (Nat × Instr × Nat) := [(0, .aload_n 2, 1), (1, .iconst 0, 1), (2, .aload_n 0, 1), (3, .iload_n 1, 1), (4, .invokevirtual 94, 3), (7, .i2l, 1), (8, .lastore, 1), (9, .goto 9, 3), (12, .astore_n 3, 1), (13, .iconst 1, 1), (14, .ireturn, 1), (15, .astore_n 3, 1), (16, .iconst 2, 1), (17, .ireturn, 1), (18, .iconst 0, 1), (19, .ireturn, 1)]
set_option maxRecDepth 100000 in
theorem ev_d_398_0 : ∀ q ∈ ev_c_398_0, decode method_28_code q.1 = .ok (q.2.1, q.2.2) := fd_rows (by decide +kernel)
def ev_c_398 : List (Nat × List (Nat × Instr × Nat)) := [(0, ev_c_398_0)]
set_option maxRecDepth 100000 in
theorem ev_d_398 : ∀ q ∈ ev_c_398, ∀ z ∈ q.2, decode method_28_code z.1 = .ok (z.2.1, z.2.2) := List.forall_mem_cons.mpr ⟨ev_d_398_0, fun _ h => absurd h List.not_mem_nil⟩
def ev_c_399_0 : List (Nat × Instr × Nat) := [(0, .aload_n 2, 1), (1, .iconst 0, 1), (2, .aload_n 0, 1), (3, .iload_n 1, 1), (4, .invokevirtual 97, 3), (7, .i2l, 1), (8, .lastore, 1), (9, .goto 9, 3), (12, .astore_n 3, 1), (13, .iconst 1, 1), (14, .ireturn, 1), (15, .astore_n 3, 1), (16, .iconst 2, 1), (17, .ireturn, 1), (18, .iconst 0, 1), (19, .ireturn, 1)]
set_option maxRecDepth 100000 in
theorem ev_d_399_0 : ∀ q ∈ ev_c_399_0, decode method_29_code q.1 = .ok (q.2.1, q.2.2) := fd_rows (by decide +kernel)
def ev_c_399 : List (Nat × List (Nat × Instr × Nat)) := [(0, ev_c_399_0)]
set_option maxRecDepth 100000 in
theorem ev_d_399 : ∀ q ∈ ev_c_399, ∀ z ∈ q.2, decode method_29_code z.1 = .ok (z.2.1, z.2.2) := List.forall_mem_cons.mpr ⟨ev_d_399_0, fun _ h => absurd h List.not_mem_nil⟩
def ev_c_400_0 : List (Nat × Instr × Nat) := [(0, .aload_n 2, 1), (1, .iconst 0, 1), (2, .aload_n 0, 1), (3, .iload_n 1, 1), (4, .invokevirtual 100, 3), (7, .i2l, 1), (8, .lastore, 1), (9, .goto 9, 3), (12, .astore_n 3, 1), (13, .iconst 1, 1), (14, .ireturn, 1), (15, .astore_n 3, 1), (16, .iconst 2, 1), (17, .ireturn, 1), (18, .iconst 0, 1), (19, .ireturn, 1)]
set_option maxRecDepth 100000 in
theorem ev_d_400_0 : ∀ q ∈ ev_c_400_0, decode method_30_code q.1 = .ok (q.2.1, q.2.2) := fd_rows (by decide +kernel)
def ev_c_400 : List (Nat × List (Nat × Instr × Nat)) := [(0, ev_c_400_0)]
set_option maxRecDepth 100000 in
theorem ev_d_400 : ∀ q ∈ ev_c_400, ∀ z ∈ q.2, decode method_30_code z.1 = .ok (z.2.1, z.2.2) := List.forall_mem_cons.mpr ⟨ev_d_400_0, fun _ h => absurd h List.not_mem_nil⟩
