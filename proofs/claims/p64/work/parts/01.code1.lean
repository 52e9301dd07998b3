/-! code, by wip/gen/gen.py -/
def ev_c_66_0 : List (Nat × Instr × Nat) := [(0, .iload_n 1, 1), (1, .iload_n 2, 1), (2, .if_icmp .lt 8, 3), (5, .aload_n 0, 1), (6, .iconst 4, 1), (7, .invokevirtual 78, 3), (10, .return_, 1)]
set_option maxRecDepth 100000 in
theorem ev_d_66_0 : ∀ q ∈ ev_c_66_0, decode prog_5_method_15_code q.1 = .ok (q.2.1, q.2.2) := by decide +kernel
def ev_c_66 : List (Nat × List (Nat × Instr × Nat)) := [(0, ev_c_66_0)]
set_option maxRecDepth 100000 in
theorem ev_d_66 : ∀ q ∈ ev_c_66, ∀ z ∈ q.2, decode prog_5_method_15_code z.1 = .ok (z.2.1, z.2.2) := List.forall_mem_cons.mpr ⟨ev_d_66_0, fun _ h => absurd h List.not_mem_nil⟩
def ev_c_67_0 : List (Nat × Instr × Nat) := [(0, .aload_n 0, 1), (1, .aload_n 0, 1), (2, .getfield 37, 3), (5, .getfield 100, 3), (8, .getfield 109, 3), (11, .bipush 6, 2), (13, .invokevirtual 163, 3), (16, .aload_n 0, 1), (17, .iconst 0, 1), (18, .iconst 4, 1), (19, .invokevirtual 97, 3), (22, .istore_n 1, 1), (23, .aload_n 0, 1), (24, .invokevirtual 49, 3), (27, .ifCond .ne 14, 3), (30, .aload_n 0, 1), (31, .getfield 37, 3)]
set_option maxRecDepth 100000 in
theorem ev_d_67_0 : ∀ q ∈ ev_c_67_0, decode prog_5_method_16_code q.1 = .ok (q.2.1, q.2.2) := by decide +kernel
def ev_c_67_1 : List (Nat × Instr × Nat) := [(34, .getfield 100, 3), (37, .iload_n 1, 1), (38, .invokevirtual 167, 3), (41, .return_, 1)]
set_option maxRecDepth 100000 in
theorem ev_d_67_1 : ∀ q ∈ ev_c_67_1, decode prog_5_method_16_code q.1 = .ok (q.2.1, q.2.2) := by decide +kernel
def ev_c_67 : List (Nat × List (Nat × Instr × Nat)) := [(0, ev_c_67_0), (1, ev_c_67_1)]
set_option maxRecDepth 100000 in
theorem ev_d_67 : ∀ q ∈ ev_c_67, ∀ z ∈ q.2, decode prog_5_method_16_code z.1 = .ok (z.2.1, z.2.2) := List.forall_mem_cons.mpr ⟨ev_d_67_0, List.forall_mem_cons.mpr ⟨ev_d_67_1, fun _ h => absurd h List.not_mem_nil⟩⟩
def ev_c_68_0 : List (Nat × Instr × Nat) := [(0, .aload_n 0, 1), (1, .aload_n 0, 1), (2, .getfield 37, 3), (5, .getfield 100, 3), (8, .getfield 112, 3), (11, .iconst 4, 1), (12, .invokevirtual 163, 3), (15, .aload_n 0, 1), (16, .iconst 0, 1), (17, .bipush 99, 2), (19, .invokevirtual 97, 3), (22, .istore_n 1, 1), (23, .aload_n 0, 1), (24, .iconst 1, 1), (25, .bipush 99, 2), (27, .invokevirtual 97, 3), (30, .istore_n 2, 1), (31, .aload_n 0, 1)]
set_option maxRecDepth 100000 in
theorem ev_d_68_0 : ∀ q ∈ ev_c_68_0, decode prog_5_method_17_code q.1 = .ok (q.2.1, q.2.2) := by decide +kernel
def ev_c_68_1 : List (Nat × Instr × Nat) := [(32, .iconst 0, 1), (33, .bipush 9, 2), (35, .invokevirtual 97, 3), (38, .istore_n 3, 1), (39, .aload_n 0, 1), (40, .invokevirtual 49, 3), (43, .ifCond .ne 16, 3), (46, .aload_n 0, 1), (47, .getfield 37, 3), (50, .getfield 100, 3), (53, .iload_n 1, 1), (54, .iload_n 2, 1), (55, .iload_n 3, 1), (56, .invokevirtual 170, 3), (59, .return_, 1)]
set_option maxRecDepth 100000 in
theorem ev_d_68_1 : ∀ q ∈ ev_c_68_1, decode prog_5_method_17_code q.1 = .ok (q.2.1, q.2.2) := by decide +kernel
def ev_c_68 : List (Nat × List (Nat × Instr × Nat)) := [(0, ev_c_68_0), (1, ev_c_68_1)]
set_option maxRecDepth 100000 in
theorem ev_d_68 : ∀ q ∈ ev_c_68, ∀ z ∈ q.2, decode prog_5_method_17_code z.1 = .ok (z.2.1, z.2.2) := List.forall_mem_cons.mpr ⟨ev_d_68_0, List.forall_mem_cons.mpr ⟨ev_d_68_1, fun _ h => absurd h List.not_mem_nil⟩⟩
def ev_c_69_0 : List (Nat × Instr × Nat) := [(0, .aload_n 0, 1), (1, .aload_n 0, 1), (2, .getfield 37, 3), (5, .getfield 100, 3), (8, .getfield 115, 3), (11, .iconst 3, 1), (12, .invokevirtual 163, 3), (15, .aload_n 0, 1), (16, .iconst 1, 1), (17, .bipush 6, 2), (19, .invokevirtual 97, 3), (22, .istore_n 1, 1), (23, .aload_n 0, 1), (24, .invokevirtual 49, 3), (27, .ifCond .ne 14, 3), (30, .aload_n 0, 1), (31, .getfield 37, 3)]
set_option maxRecDepth 100000 in
theorem ev_d_69_0 : ∀ q ∈ ev_c_69_0, decode prog_5_method_18_code q.1 = .ok (q.2.1, q.2.2) := by decide +kernel
def ev_c_69_1 : List (Nat × Instr × Nat) := [(34, .getfield 100, 3), (37, .iload_n 1, 1), (38, .invokevirtual 174, 3), (41, .return_, 1)]
set_option maxRecDepth 100000 in
theorem ev_d_69_1 : ∀ q ∈ ev_c_69_1, decode prog_5_method_18_code q.1 = .ok (q.2.1, q.2.2) := by decide +kernel
def ev_c_69 : List (Nat × List (Nat × Instr × Nat)) := [(0, ev_c_69_0), (1, ev_c_69_1)]
set_option maxRecDepth 100000 in
theorem ev_d_69 : ∀ q ∈ ev_c_69, ∀ z ∈ q.2, decode prog_5_method_18_code z.1 = .ok (z.2.1, z.2.2) := List.forall_mem_cons.mpr ⟨ev_d_69_0, List.forall_mem_cons.mpr ⟨ev_d_69_1, fun _ h => absurd h List.not_mem_nil⟩⟩
def ev_c_70_0 : List (Nat × Instr × Nat) := [(0, .aload_n 0, 1), (1, .aload_n 0, 1), (2, .getfield 37, 3), (5, .getfield 177, 3), (8, .getfield 181, 3), (11, .bipush 12, 2), (13, .invokevirtual 163, 3), (16, .aload_n 0, 1), (17, .iconst 0, 1), (18, .aload_n 0, 1), (19, .getfield 37, 3), (22, .getfield 100, 3), (25, .getfield 112, 3), (28, .iconst 1, 1), (29, .isub, 1), (30, .invokevirtual 97, 3)]
set_option maxRecDepth 100000 in
theorem ev_d_70_0 : ∀ q ∈ ev_c_70_0, decode prog_5_method_19_code q.1 = .ok (q.2.1, q.2.2) := by decide +kernel
def ev_c_70_1 : List (Nat × Instr × Nat) := [(33, .istore_n 1, 1), (34, .aload_n 0, 1), (35, .iconst 0, 1), (36, .iconst 3, 1), (37, .invokevirtual 97, 3), (40, .istore_n 2, 1), (41, .aload_n 0, 1), (42, .iconst 0, 1), (43, .bipush 9, 2), (45, .invokevirtual 97, 3), (48, .istore_n 3, 1), (49, .iconst 0, 1), (50, .istore 4, 2), (52, .iconst 0, 1), (53, .istore 5, 2), (55, .iload 5, 2), (57, .bipush 6, 2), (59, .if_icmp .gt 78, 3), (62, .iload 5, 2)]
set_option maxRecDepth 100000 in
theorem ev_d_70_1 : ∀ q ∈ ev_c_70_1, decode prog_5_method_19_code q.1 = .ok (q.2.1, q.2.2) := by decide +kernel
def ev_c_70_2 : List (Nat × Instr × Nat) := [(64, .ifCond .eq 10, 3), (67, .aload_n 0, 1), (68, .invokevirtual 186, 3), (71, .ifCond .eq 66, 3), (74, .aload_n 0, 1), (75, .iconst 0, 1), (76, .aload_n 0, 1), (77, .getfield 37, 3), (80, .getfield 100, 3), (83, .getfield 109, 3), (86, .iconst 1, 1), (87, .isub, 1), (88, .invokevirtual 97, 3), (91, .istore 6, 2), (93, .aload_n 0, 1), (94, .invokevirtual 49, 3)]
set_option maxRecDepth 100000 in
theorem ev_d_70_2 : ∀ q ∈ ev_c_70_2, decode prog_5_method_19_code q.1 = .ok (q.2.1, q.2.2) := by decide +kernel
def ev_c_70_3 : List (Nat × Instr × Nat) := [(97, .ifCond .ne 18, 3), (100, .iload 4, 2), (102, .iload 6, 2), (104, .ishr, 1), (105, .iconst 1, 1), (106, .iand, 1), (107, .ifCond .eq 8, 3), (110, .aload_n 0, 1), (111, .iconst 3, 1), (112, .invokevirtual 78, 3), (115, .aload_n 0, 1), (116, .invokevirtual 49, 3), (119, .ifCond .ne 12, 3), (122, .iload 4, 2), (124, .iconst 1, 1), (125, .iload 6, 2), (127, .ishl, 1)]
set_option maxRecDepth 100000 in
theorem ev_d_70_3 : ∀ q ∈ ev_c_70_3, decode prog_5_method_19_code q.1 = .ok (q.2.1, q.2.2) := by decide +kernel
def ev_c_70_4 : List (Nat × Instr × Nat) := [(128, .ior, 1), (129, .istore 4, 2), (131, .iinc 5 1, 3), (134, .goto (-79), 3), (137, .aload_n 0, 1), (138, .invokevirtual 49, 3), (141, .ifCond .ne 19, 3), (144, .aload_n 0, 1), (145, .getfield 37, 3), (148, .getfield 177, 3), (151, .iload_n 1, 1), (152, .iload 4, 2), (154, .iload_n 2, 1), (155, .iload_n 3, 1), (156, .invokevirtual 189, 3), (159, .pop, 1)]
set_option maxRecDepth 100000 in
theorem ev_d_70_4 : ∀ q ∈ ev_c_70_4, decode prog_5_method_19_code q.1 = .ok (q.2.1, q.2.2) := by decide +kernel
def ev_c_70_5 : List (Nat × Instr × Nat) := [(160, .return_, 1)]
set_option maxRecDepth 100000 in
theorem ev_d_70_5 : ∀ q ∈ ev_c_70_5, decode prog_5_method_19_code q.1 = .ok (q.2.1, q.2.2) := by decide +kernel
def ev_c_70 : List (Nat × List (Nat × Instr × Nat)) := [(0, ev_c_70_0), (1, ev_c_70_1), (2, ev_c_70_2), (3, ev_c_70_3), (4, ev_c_70_4), (5, ev_c_70_5)]
set_option maxRecDepth 100000 in
theorem ev_d_70 : ∀ q ∈ ev_c_70, ∀ z ∈ q.2, decode prog_5_method_19_code z.1 = .ok (z.2.1, z.2.2) := List.forall_mem_cons.mpr ⟨ev_d_70_0, List.forall_mem_cons.mpr ⟨ev_d_70_1, List.forall_mem_cons.mpr ⟨ev_d_70_2, List.forall_mem_cons.mpr ⟨ev_d_70_3, List.forall_mem_cons.mpr ⟨ev_d_70_4, List.forall_mem_cons.mpr ⟨ev_d_70_5, fun _ h => absurd h List.not_mem_nil⟩⟩⟩⟩⟩⟩
def ev_c_71_0 : List (Nat × Instr × Nat) := [(0, .aload_n 0, 1), (1, .iconst 0, 1), (2, .aload_n 0, 1), (3, .getfield 37, 3), (6, .getfield 177, 3), (9, .getfield 181, 3), (12, .iconst 1, 1), (13, .isub, 1), (14, .invokevirtual 97, 3), (17, .istore_n 1, 1), (18, .aload_n 0, 1), (19, .iconst 0, 1), (20, .aload_n 0, 1), (21, .getfield 37, 3), (24, .getfield 100, 3), (27, .getfield 115, 3), (30, .iconst 1, 1), (31, .isub, 1)]
set_option maxRecDepth 100000 in
theorem ev_d_71_0 : ∀ q ∈ ev_c_71_0, decode prog_5_method_20_code q.1 = .ok (q.2.1, q.2.2) := by decide +kernel
def ev_c_71_1 : List (Nat × Instr × Nat) := [(32, .invokevirtual 97, 3), (35, .istore_n 2, 1), (36, .aload_n 0, 1), (37, .invokevirtual 49, 3), (40, .ifCond .eq 4, 3), (43, .return_, 1), (44, .aload_n 0, 1), (45, .getfield 37, 3), (48, .iload_n 1, 1), (49, .iload_n 2, 1), (50, .invokevirtual 193, 3), (53, .ifCond .eq 11, 3), (56, .aload_n 0, 1), (57, .iconst 3, 1), (58, .invokevirtual 78, 3), (61, .goto 16, 3)]
set_option maxRecDepth 100000 in
theorem ev_d_71_1 : ∀ q ∈ ev_c_71_1, decode prog_5_method_20_code q.1 = .ok (q.2.1, q.2.2) := by decide +kernel
def ev_c_71_2 : List (Nat × Instr × Nat) := [(64, .aload_n 0, 1), (65, .getfield 37, 3), (68, .getfield 177, 3), (71, .iload_n 1, 1), (72, .iload_n 2, 1), (73, .invokevirtual 196, 3), (76, .pop, 1), (77, .return_, 1)]
set_option maxRecDepth 100000 in
theorem ev_d_71_2 : ∀ q ∈ ev_c_71_2, decode prog_5_method_20_code q.1 = .ok (q.2.1, q.2.2) := by decide +kernel
def ev_c_71 : List (Nat × List (Nat × Instr × Nat)) := [(0, ev_c_71_0), (1, ev_c_71_1), (2, ev_c_71_2)]
set_option maxRecDepth 100000 in
theorem ev_d_71 : ∀ q ∈ ev_c_71, ∀ z ∈ q.2, decode prog_5_method_20_code z.1 = .ok (z.2.1, z.2.2) := List.forall_mem_cons.mpr ⟨ev_d_71_0, List.forall_mem_cons.mpr ⟨ev_d_71_1, List.forall_mem_cons.mpr ⟨ev_d_71_2, fun _ h => absurd h List.not_mem_nil⟩⟩⟩
def ev_c_72_0 : List (Nat × Instr × Nat) := [(0, .aload_n 0, 1), (1, .iconst 0, 1), (2, .aload_n 0, 1), (3, .getfield 37, 3), (6, .getfield 100, 3), (9, .getfield 115, 3), (12, .iconst 1, 1), (13, .isub, 1), (14, .invokevirtual 97, 3), (17, .istore_n 1, 1), (18, .aload_n 0, 1), (19, .iconst 0, 1), (20, .iconst 3, 1), (21, .invokevirtual 97, 3), (24, .istore_n 2, 1), (25, .aload_n 0, 1), (26, .invokevirtual 49, 3), (29, .ifCond .eq 4, 3)]
set_option maxRecDepth 100000 in
theorem ev_d_72_0 : ∀ q ∈ ev_c_72_0, decode prog_5_method_21_code q.1 = .ok (q.2.1, q.2.2) := by decide +kernel
def ev_c_72_1 : List (Nat × Instr × Nat) := [(32, .return_, 1), (33, .aload_n 0, 1), (34, .getfield 37, 3), (37, .iload_n 1, 1), (38, .iload_n 2, 1), (39, .invokevirtual 199, 3), (42, .ifCond .eq 11, 3), (45, .aload_n 0, 1), (46, .iconst 3, 1), (47, .invokevirtual 78, 3), (50, .goto 13, 3), (53, .aload_n 0, 1), (54, .getfield 37, 3), (57, .iload_n 1, 1), (58, .iload_n 2, 1), (59, .invokevirtual 202, 3), (62, .pop, 1), (63, .return_, 1)]
set_option maxRecDepth 100000 in
theorem ev_d_72_1 : ∀ q ∈ ev_c_72_1, decode prog_5_method_21_code q.1 = .ok (q.2.1, q.2.2) := by decide +kernel
def ev_c_72 : List (Nat × List (Nat × Instr × Nat)) := [(0, ev_c_72_0), (1, ev_c_72_1)]
set_option maxRecDepth 100000 in
theorem ev_d_72 : ∀ q ∈ ev_c_72, ∀ z ∈ q.2, decode prog_5_method_21_code z.1 = .ok (z.2.1, z.2.2) := List.forall_mem_cons.mpr ⟨ev_d_72_0, List.forall_mem_cons.mpr ⟨ev_d_72_1, fun _ h => absurd h List.not_mem_nil⟩⟩
def ev_c_73_0 : List (Nat × Instr × Nat) := [(0, .aload_n 0, 1), (1, .iconst 0, 1), (2, .aload_n 0, 1), (3, .getfield 37, 3), (6, .getfield 177, 3), (9, .getfield 181, 3), (12, .iconst 1, 1), (13, .isub, 1), (14, .invokevirtual 97, 3), (17, .istore_n 1, 1), (18, .aload_n 0, 1), (19, .invokevirtual 49, 3), (22, .ifCond .eq 4, 3), (25, .return_, 1), (26, .aload_n 0, 1), (27, .getfield 37, 3), (30, .iload_n 1, 1), (31, .invokevirtual 205, 3)]
set_option maxRecDepth 100000 in
theorem ev_d_73_0 : ∀ q ∈ ev_c_73_0, decode prog_5_method_22_code q.1 = .ok (q.2.1, q.2.2) := by decide +kernel
def ev_c_73_1 : List (Nat × Instr × Nat) := [(34, .ifCond .ne 11, 3), (37, .aload_n 0, 1), (38, .iconst 3, 1), (39, .invokevirtual 78, 3), (42, .goto 12, 3), (45, .aload_n 0, 1), (46, .getfield 37, 3), (49, .iload_n 1, 1), (50, .invokevirtual 208, 3), (53, .pop, 1), (54, .return_, 1)]
set_option maxRecDepth 100000 in
theorem ev_d_73_1 : ∀ q ∈ ev_c_73_1, decode prog_5_method_22_code q.1 = .ok (q.2.1, q.2.2) := by decide +kernel
def ev_c_73 : List (Nat × List (Nat × Instr × Nat)) := [(0, ev_c_73_0), (1, ev_c_73_1)]
set_option maxRecDepth 100000 in
theorem ev_d_73 : ∀ q ∈ ev_c_73, ∀ z ∈ q.2, decode prog_5_method_22_code z.1 = .ok (z.2.1, z.2.2) := List.forall_mem_cons.mpr ⟨ev_d_73_0, List.forall_mem_cons.mpr ⟨ev_d_73_1, fun _ h => absurd h List.not_mem_nil⟩⟩
def ev_c_74_0 : List (Nat × Instr × Nat) := [(0, .aload_n 0, 1), (1, .iconst 0, 1), (2, .bipush 9, 2), (4, .invokevirtual 97, 3), (7, .istore_n 1, 1), (8, .aload_n 0, 1), (9, .invokevirtual 49, 3), (12, .ifCond .ne 14, 3), (15, .aload_n 0, 1), (16, .getfield 37, 3), (19, .getfield 177, 3), (22, .iload_n 1, 1), (23, .putfield 212, 3), (26, .return_, 1)]
set_option maxRecDepth 100000 in
theorem ev_d_74_0 : ∀ q ∈ ev_c_74_0, decode prog_5_method_23_code q.1 = .ok (q.2.1, q.2.2) := by decide +kernel
def ev_c_74 : List (Nat × List (Nat × Instr × Nat)) := [(0, ev_c_74_0)]
set_option maxRecDepth 100000 in
theorem ev_d_74 : ∀ q ∈ ev_c_74, ∀ z ∈ q.2, decode prog_5_method_23_code z.1 = .ok (z.2.1, z.2.2) := List.forall_mem_cons.mpr ⟨ev_d_74_0, fun _ h => absurd h List.not_mem_nil⟩
def ev_c_75_0 : List (Nat × Instr × Nat) := [(0, .aload_n 0, 1), (1, .iconst 1, 1), (2, .bipush 50, 2), (4, .invokevirtual 97, 3), (7, .istore_n 1, 1), (8, .aload_n 0, 1), (9, .invokevirtual 49, 3), (12, .ifCond .ne 15, 3), (15, .aload_n 0, 1), (16, .getfield 37, 3), (19, .getfield 177, 3), (22, .iload_n 1, 1), (23, .invokevirtual 214, 3), (26, .pop, 1), (27, .return_, 1)]
set_option maxRecDepth 100000 in
theorem ev_d_75_0 : ∀ q ∈ ev_c_75_0, decode prog_5_method_24_code q.1 = .ok (q.2.1, q.2.2) := by decide +kernel
def ev_c_75 : List (Nat × List (Nat × Instr × Nat)) := [(0, ev_c_75_0)]
set_option maxRecDepth 100000 in
theorem ev_d_75 : ∀ q ∈ ev_c_75, ∀ z ∈ q.2, decode prog_5_method_24_code z.1 = .ok (z.2.1, z.2.2) := List.forall_mem_cons.mpr ⟨ev_d_75_0, fun _ h => absurd h List.not_mem_nil⟩
def ev_c_76_0 : List (Nat × Instr × Nat) := [(0, .aload_n 0, 1), (1, .invokespecial 3, 3), (4, .aload_n 0, 1), (5, .bipush 6, 2), (7, .newarray .int, 2), (9, .putfield 9, 3), (12, .aload_n 0, 1), (13, .iconst 4, 1), (14, .newarray .int, 2), (16, .putfield 15, 3), (19, .aload_n 0, 1), (20, .iconst 4, 1), (21, .newarray .int, 2), (23, .putfield 18, 3), (26, .aload_n 0, 1), (27, .iconst 4, 1), (28, .newarray .int, 2), (30, .putfield 21, 3)]
set_option maxRecDepth 100000 in
theorem ev_d_76_0 : ∀ q ∈ ev_c_76_0, decode prog_6_method_1_code q.1 = .ok (q.2.1, q.2.2) := by decide +kernel
def ev_c_76_1 : List (Nat × Instr × Nat) := [(33, .aload_n 0, 1), (34, .iconst 3, 1), (35, .newarray .int, 2), (37, .putfield 24, 3), (40, .return_, 1)]
set_option maxRecDepth 100000 in
theorem ev_d_76_1 : ∀ q ∈ ev_c_76_1, decode prog_6_method_1_code q.1 = .ok (q.2.1, q.2.2) := by decide +kernel
def ev_c_76 : List (Nat × List (Nat × Instr × Nat)) := [(0, ev_c_76_0), (1, ev_c_76_1)]
set_option maxRecDepth 100000 in
theorem ev_d_76 : ∀ q ∈ ev_c_76, ∀ z ∈ q.2, decode prog_6_method_1_code z.1 = .ok (z.2.1, z.2.2) := List.forall_mem_cons.mpr ⟨ev_d_76_0, List.forall_mem_cons.mpr ⟨ev_d_76_1, fun _ h => absurd h List.not_mem_nil⟩⟩
def ev_c_77_0 : List (Nat × Instr × Nat) := [(0, .aload_n 0, 1), (1, .iconst 0, 1), (2, .putfield 27, 3), (5, .aload_n 0, 1), (6, .iconst 0, 1), (7, .putfield 31, 3), (10, .aload_n 0, 1), (11, .iconst 0, 1), (12, .putfield 34, 3), (15, .aload_n 0, 1), (16, .iconst 0, 1), (17, .putfield 37, 3), (20, .return_, 1)]
set_option maxRecDepth 100000 in
theorem ev_d_77_0 : ∀ q ∈ ev_c_77_0, decode prog_6_method_2_code q.1 = .ok (q.2.1, q.2.2) := by decide +kernel
def ev_c_77 : List (Nat × List (Nat × Instr × Nat)) := [(0, ev_c_77_0)]
set_option maxRecDepth 100000 in
theorem ev_d_77 : ∀ q ∈ ev_c_77, ∀ z ∈ q.2, decode prog_6_method_2_code z.1 = .ok (z.2.1, z.2.2) := List.forall_mem_cons.mpr ⟨ev_d_77_0, fun _ h => absurd h List.not_mem_nil⟩
def ev_c_78_0 : List (Nat × Instr × Nat) := [(0, .aload_n 0, 1), (1, .getfield 9, 3), (4, .aload_n 0, 1), (5, .getfield 31, 3), (8, .iload_n 1, 1), (9, .iastore, 1), (10, .aload_n 0, 1), (11, .dup, 1), (12, .getfield 31, 3), (15, .iconst 1, 1), (16, .iadd, 1), (17, .putfield 31, 3), (20, .return_, 1)]
set_option maxRecDepth 100000 in
theorem ev_d_78_0 : ∀ q ∈ ev_c_78_0, decode prog_6_method_3_code q.1 = .ok (q.2.1, q.2.2) := by decide +kernel
def ev_c_78 : List (Nat × List (Nat × Instr × Nat)) := [(0, ev_c_78_0)]
set_option maxRecDepth 100000 in
theorem ev_d_78 : ∀ q ∈ ev_c_78, ∀ z ∈ q.2, decode prog_6_method_3_code z.1 = .ok (z.2.1, z.2.2) := List.forall_mem_cons.mpr ⟨ev_d_78_0, fun _ h => absurd h List.not_mem_nil⟩
def ev_c_79_0 : List (Nat × Instr × Nat) := [(0, .aload_n 0, 1), (1, .getfield 15, 3), (4, .aload_n 0, 1), (5, .getfield 34, 3), (8, .iload_n 1, 1), (9, .iastore, 1), (10, .aload_n 0, 1), (11, .getfield 18, 3), (14, .aload_n 0, 1), (15, .getfield 34, 3), (18, .iload_n 2, 1), (19, .iastore, 1), (20, .aload_n 0, 1), (21, .getfield 21, 3), (24, .aload_n 0, 1), (25, .getfield 34, 3), (28, .iload_n 3, 1), (29, .iastore, 1), (30, .aload_n 0, 1), (31, .dup, 1)]
set_option maxRecDepth 100000 in
theorem ev_d_79_0 : ∀ q ∈ ev_c_79_0, decode prog_6_method_4_code q.1 = .ok (q.2.1, q.2.2) := by decide +kernel
def ev_c_79_1 : List (Nat × Instr × Nat) := [(32, .getfield 34, 3), (35, .iconst 1, 1), (36, .iadd, 1), (37, .putfield 34, 3), (40, .return_, 1)]
set_option maxRecDepth 100000 in
theorem ev_d_79_1 : ∀ q ∈ ev_c_79_1, decode prog_6_method_4_code q.1 = .ok (q.2.1, q.2.2) := by decide +kernel
def ev_c_79 : List (Nat × List (Nat × Instr × Nat)) := [(0, ev_c_79_0), (1, ev_c_79_1)]
set_option maxRecDepth 100000 in
theorem ev_d_79 : ∀ q ∈ ev_c_79, ∀ z ∈ q.2, decode prog_6_method_4_code z.1 = .ok (z.2.1, z.2.2) := List.forall_mem_cons.mpr ⟨ev_d_79_0, List.forall_mem_cons.mpr ⟨ev_d_79_1, fun _ h => absurd h List.not_mem_nil⟩⟩
def ev_c_80_0 : List (Nat × Instr × Nat) := [(0, .aload_n 0, 1), (1, .getfield 24, 3), (4, .aload_n 0, 1), (5, .getfield 37, 3), (8, .iload_n 1, 1), (9, .iastore, 1), (10, .aload_n 0, 1), (11, .dup, 1), (12, .getfield 37, 3), (15, .iconst 1, 1), (16, .iadd, 1), (17, .putfield 37, 3), (20, .return_, 1)]
set_option maxRecDepth 100000 in
theorem ev_d_80_0 : ∀ q ∈ ev_c_80_0, decode prog_6_method_5_code q.1 = .ok (q.2.1, q.2.2) := by decide +kernel
def ev_c_80 : List (Nat × List (Nat × Instr × Nat)) := [(0, ev_c_80_0)]
set_option maxRecDepth 100000 in
theorem ev_d_80 : ∀ q ∈ ev_c_80, ∀ z ∈ q.2, decode prog_6_method_5_code z.1 = .ok (z.2.1, z.2.2) := List.forall_mem_cons.mpr ⟨ev_d_80_0, fun _ h => absurd h List.not_mem_nil⟩
def ev_c_81_0 : List (Nat × Instr × Nat) := [(0, .iconst 0, 1), (1, .istore_n 2, 1), (2, .iconst 0, 1), (3, .istore_n 3, 1), (4, .iload_n 3, 1), (5, .aload_n 0, 1), (6, .getfield 31, 3), (9, .if_icmp .ge 25, 3), (12, .aload_n 0, 1), (13, .getfield 9, 3), (16, .iload_n 3, 1), (17, .iaload, 1), (18, .iload_n 1, 1), (19, .if_icmp .gt 9, 3), (22, .iload_n 2, 1), (23, .iconst 1, 1), (24, .iload_n 3, 1), (25, .ishl, 1), (26, .ior, 1), (27, .istore_n 2, 1), (28, .iinc 3 1, 3), (31, .goto (-27), 3)]
set_option maxRecDepth 100000 in
theorem ev_d_81_0 : ∀ q ∈ ev_c_81_0, decode prog_6_method_7_code q.1 = .ok (q.2.1, q.2.2) := by decide +kernel
def ev_c_81_1 : List (Nat × Instr × Nat) := [(34, .iload_n 2, 1), (35, .ireturn, 1)]
set_option maxRecDepth 100000 in
theorem ev_d_81_1 : ∀ q ∈ ev_c_81_1, decode prog_6_method_7_code q.1 = .ok (q.2.1, q.2.2) := by decide +kernel
def ev_c_81 : List (Nat × List (Nat × Instr × Nat)) := [(0, ev_c_81_0), (1, ev_c_81_1)]
set_option maxRecDepth 100000 in
theorem ev_d_81 : ∀ q ∈ ev_c_81, ∀ z ∈ q.2, decode prog_6_method_7_code z.1 = .ok (z.2.1, z.2.2) := List.forall_mem_cons.mpr ⟨ev_d_81_0, List.forall_mem_cons.mpr ⟨ev_d_81_1, fun _ h => absurd h List.not_mem_nil⟩⟩
def ev_c_82_0 : List (Nat × Instr × Nat) := [(0, .aload_n 0, 1), (1, .invokespecial 3, 3), (4, .aload_n 0, 1), (5, .bipush 12, 2), (7, .anewarray 9, 3), (10, .putfield 11, 3), (13, .iconst 0, 1), (14, .istore_n 1, 1), (15, .iload_n 1, 1), (16, .bipush 12, 2), (18, .if_icmp .ge 22, 3), (21, .aload_n 0, 1), (22, .getfield 11, 3), (25, .iload_n 1, 1), (26, .new 9, 3), (29, .dup, 1), (30, .invokespecial 17, 3)]
set_option maxRecDepth 100000 in
theorem ev_d_82_0 : ∀ q ∈ ev_c_82_0, decode prog_7_method_1_code q.1 = .ok (q.2.1, q.2.2) := by decide +kernel
def ev_c_82_1 : List (Nat × Instr × Nat) := [(33, .aastore, 1), (34, .iinc 1 1, 3), (37, .goto (-22), 3), (40, .aload_n 0, 1), (41, .iconst 3, 1), (42, .newarray .int, 2), (44, .putfield 18, 3), (47, .aload_n 0, 1), (48, .bipush 18, 2), (50, .newarray .int, 2), (52, .putfield 22, 3), (55, .aload_n 0, 1), (56, .bipush 8, 2), (58, .newarray .int, 2), (60, .putfield 25, 3), (63, .aload_n 0, 1)]
set_option maxRecDepth 100000 in
theorem ev_d_82_1 : ∀ q ∈ ev_c_82_1, decode prog_7_method_1_code q.1 = .ok (q.2.1, q.2.2) := by decide +kernel
def ev_c_82_2 : List (Nat × Instr × Nat) := [(64, .iconst 4, 1), (65, .newarray .int, 2), (67, .putfield 28, 3), (70, .return_, 1)]
set_option maxRecDepth 100000 in
theorem ev_d_82_2 : ∀ q ∈ ev_c_82_2, decode prog_7_method_1_code q.1 = .ok (q.2.1, q.2.2) := by decide +kernel
def ev_c_82 : List (Nat × List (Nat × Instr × Nat)) := [(0, ev_c_82_0), (1, ev_c_82_1), (2, ev_c_82_2)]
set_option maxRecDepth 100000 in
theorem ev_d_82 : ∀ q ∈ ev_c_82, ∀ z ∈ q.2, decode prog_7_method_1_code z.1 = .ok (z.2.1, z.2.2) := List.forall_mem_cons.mpr ⟨ev_d_82_0, List.forall_mem_cons.mpr ⟨ev_d_82_1, List.forall_mem_cons.mpr ⟨ev_d_82_2, fun _ h => absurd h List.not_mem_nil⟩⟩⟩
def ev_c_83_0 : List (Nat × Instr × Nat) := [(0, .aload_n 0, 1), (1, .iconst 0, 1), (2, .putfield 31, 3), (5, .aload_n 0, 1), (6, .iconst 0, 1), (7, .putfield 35, 3), (10, .aload_n 0, 1), (11, .iconst 0, 1), (12, .putfield 38, 3), (15, .aload_n 0, 1), (16, .iconst 0, 1), (17, .putfield 41, 3), (20, .aload_n 0, 1), (21, .iconst 0, 1), (22, .putfield 44, 3), (25, .aload_n 0, 1), (26, .iconst 0, 1), (27, .putfield 47, 3), (30, .aload_n 0, 1), (31, .iconst 0, 1)]
set_option maxRecDepth 100000 in
theorem ev_d_83_0 : ∀ q ∈ ev_c_83_0, decode prog_7_method_2_code q.1 = .ok (q.2.1, q.2.2) := by decide +kernel
def ev_c_83_1 : List (Nat × Instr × Nat) := [(32, .putfield 50, 3), (35, .aload_n 0, 1), (36, .getfield 18, 3), (39, .iconst 0, 1), (40, .invokestatic 53, 3), (43, .aload_n 0, 1), (44, .getfield 22, 3), (47, .iconst (-1), 1), (48, .invokestatic 53, 3), (51, .aload_n 0, 1), (52, .getfield 25, 3), (55, .iconst (-1), 1), (56, .invokestatic 53, 3), (59, .aload_n 0, 1), (60, .getfield 28, 3), (63, .iconst (-1), 1)]
set_option maxRecDepth 100000 in
theorem ev_d_83_1 : ∀ q ∈ ev_c_83_1, decode prog_7_method_2_code q.1 = .ok (q.2.1, q.2.2) := by decide +kernel
def ev_c_83_2 : List (Nat × Instr × Nat) := [(64, .invokestatic 53, 3), (67, .return_, 1)]
set_option maxRecDepth 100000 in
theorem ev_d_83_2 : ∀ q ∈ ev_c_83_2, decode prog_7_method_2_code q.1 = .ok (q.2.1, q.2.2) := by decide +kernel
def ev_c_83 : List (Nat × List (Nat × Instr × Nat)) := [(0, ev_c_83_0), (1, ev_c_83_1), (2, ev_c_83_2)]
set_option maxRecDepth 100000 in
theorem ev_d_83 : ∀ q ∈ ev_c_83, ∀ z ∈ q.2, decode prog_7_method_2_code z.1 = .ok (z.2.1, z.2.2) := List.forall_mem_cons.mpr ⟨ev_d_83_0, List.forall_mem_cons.mpr ⟨ev_d_83_1, List.forall_mem_cons.mpr ⟨ev_d_83_2, fun _ h => absurd h List.not_mem_nil⟩⟩⟩
def ev_c_84_0 : List (Nat × Instr × Nat) := [(0, .aload_n 0, 1), (1, .aload_n 1, 1), (2, .getfield 31, 3), (5, .putfield 31, 3), (8, .aload_n 0, 1), (9, .aload_n 1, 1), (10, .getfield 35, 3), (13, .putfield 35, 3), (16, .aload_n 0, 1), (17, .aload_n 1, 1), (18, .getfield 38, 3), (21, .putfield 38, 3), (24, .aload_n 0, 1), (25, .aload_n 1, 1), (26, .getfield 41, 3), (29, .putfield 41, 3)]
set_option maxRecDepth 100000 in
theorem ev_d_84_0 : ∀ q ∈ ev_c_84_0, decode prog_7_method_3_code q.1 = .ok (q.2.1, q.2.2) := by decide +kernel
def ev_c_84_1 : List (Nat × Instr × Nat) := [(32, .aload_n 0, 1), (33, .aload_n 1, 1), (34, .getfield 44, 3), (37, .putfield 44, 3), (40, .aload_n 0, 1), (41, .aload_n 1, 1), (42, .getfield 47, 3), (45, .putfield 47, 3), (48, .aload_n 0, 1), (49, .aload_n 1, 1), (50, .getfield 50, 3), (53, .putfield 50, 3), (56, .iconst 0, 1), (57, .istore_n 2, 1), (58, .iload_n 2, 1), (59, .bipush 12, 2), (61, .if_icmp .ge 24, 3)]
set_option maxRecDepth 100000 in
theorem ev_d_84_1 : ∀ q ∈ ev_c_84_1, decode prog_7_method_3_code q.1 = .ok (q.2.1, q.2.2) := by decide +kernel
def ev_c_84_2 : List (Nat × Instr × Nat) := [(64, .aload_n 0, 1), (65, .getfield 11, 3), (68, .iload_n 2, 1), (69, .aaload, 1), (70, .aload_n 1, 1), (71, .getfield 11, 3), (74, .iload_n 2, 1), (75, .aaload, 1), (76, .invokevirtual 59, 3), (79, .iinc 2 1, 3), (82, .goto (-24), 3), (85, .aload_n 1, 1), (86, .getfield 18, 3), (89, .iconst 0, 1), (90, .aload_n 0, 1), (91, .getfield 18, 3), (94, .iconst 0, 1), (95, .iconst 3, 1)]
set_option maxRecDepth 100000 in
theorem ev_d_84_2 : ∀ q ∈ ev_c_84_2, decode prog_7_method_3_code q.1 = .ok (q.2.1, q.2.2) := by decide +kernel
def ev_c_84_3 : List (Nat × Instr × Nat) := [(96, .invokestatic 63, 3), (99, .aload_n 1, 1), (100, .getfield 22, 3), (103, .iconst 0, 1), (104, .aload_n 0, 1), (105, .getfield 22, 3), (108, .iconst 0, 1), (109, .bipush 18, 2), (111, .invokestatic 63, 3), (114, .aload_n 1, 1), (115, .getfield 25, 3), (118, .iconst 0, 1), (119, .aload_n 0, 1), (120, .getfield 25, 3), (123, .iconst 0, 1), (124, .bipush 8, 2), (126, .invokestatic 63, 3)]
set_option maxRecDepth 100000 in
theorem ev_d_84_3 : ∀ q ∈ ev_c_84_3, decode prog_7_method_3_code q.1 = .ok (q.2.1, q.2.2) := by decide +kernel
def ev_c_84_4 : List (Nat × Instr × Nat) := [(129, .aload_n 1, 1), (130, .getfield 28, 3), (133, .iconst 0, 1), (134, .aload_n 0, 1), (135, .getfield 28, 3), (138, .iconst 0, 1), (139, .iconst 4, 1), (140, .invokestatic 63, 3), (143, .return_, 1)]
set_option maxRecDepth 100000 in
theorem ev_d_84_4 : ∀ q ∈ ev_c_84_4, decode prog_7_method_3_code q.1 = .ok (q.2.1, q.2.2) := by decide +kernel
def ev_c_84 : List (Nat × List (Nat × Instr × Nat)) := [(0, ev_c_84_0), (1, ev_c_84_1), (2, ev_c_84_2), (3, ev_c_84_3), (4, ev_c_84_4)]
set_option maxRecDepth 100000 in
theorem ev_d_84 : ∀ q ∈ ev_c_84, ∀ z ∈ q.2, decode prog_7_method_3_code z.1 = .ok (z.2.1, z.2.2) := List.forall_mem_cons.mpr ⟨ev_d_84_0, List.forall_mem_cons.mpr ⟨ev_d_84_1, List.forall_mem_cons.mpr ⟨ev_d_84_2, List.forall_mem_cons.mpr ⟨ev_d_84_3, List.forall_mem_cons.mpr ⟨ev_d_84_4, fun _ h => absurd h List.not_mem_nil⟩⟩⟩⟩⟩
def ev_c_85_0 : List (Nat × Instr × Nat) := [(0, .aload_n 0, 1), (1, .getfield 50, 3), (4, .istore 5, 2), (6, .aload_n 0, 1), (7, .getfield 11, 3), (10, .iload 5, 2), (12, .aaload, 1), (13, .iload_n 1, 1), (14, .iload_n 2, 1), (15, .iload_n 3, 1), (16, .iload 4, 2), (18, .invokevirtual 69, 3), (21, .aload_n 0, 1), (22, .dup, 1), (23, .getfield 50, 3), (26, .iconst 1, 1), (27, .iadd, 1), (28, .putfield 50, 3), (31, .iload 5, 2)]
set_option maxRecDepth 100000 in
theorem ev_d_85_0 : ∀ q ∈ ev_c_85_0, decode prog_7_method_4_code q.1 = .ok (q.2.1, q.2.2) := by decide +kernel
def ev_c_85_1 : List (Nat × Instr × Nat) := [(33, .ireturn, 1)]
set_option maxRecDepth 100000 in
theorem ev_d_85_1 : ∀ q ∈ ev_c_85_1, decode prog_7_method_4_code q.1 = .ok (q.2.1, q.2.2) := by decide +kernel
def ev_c_85 : List (Nat × List (Nat × Instr × Nat)) := [(0, ev_c_85_0), (1, ev_c_85_1)]
set_option maxRecDepth 100000 in
theorem ev_d_85 : ∀ q ∈ ev_c_85, ∀ z ∈ q.2, decode prog_7_method_4_code z.1 = .ok (z.2.1, z.2.2) := List.forall_mem_cons.mpr ⟨ev_d_85_0, List.forall_mem_cons.mpr ⟨ev_d_85_1, fun _ h => absurd h List.not_mem_nil⟩⟩
def ev_c_86_0 : List (Nat × Instr × Nat) := [(0, .aload_n 0, 1), (1, .getfield 22, 3), (4, .iload_n 1, 1), (5, .bipush 6, 2), (7, .imul, 1), (8, .iload_n 2, 1), (9, .iadd, 1), (10, .iaload, 1), (11, .ireturn, 1)]
set_option maxRecDepth 100000 in
theorem ev_d_86_0 : ∀ q ∈ ev_c_86_0, decode prog_7_method_5_code q.1 = .ok (q.2.1, q.2.2) := by decide +kernel
def ev_c_86 : List (Nat × List (Nat × Instr × Nat)) := [(0, ev_c_86_0)]
set_option maxRecDepth 100000 in
theorem ev_d_86 : ∀ q ∈ ev_c_86, ∀ z ∈ q.2, decode prog_7_method_5_code z.1 = .ok (z.2.1, z.2.2) := List.forall_mem_cons.mpr ⟨ev_d_86_0, fun _ h => absurd h List.not_mem_nil⟩
def ev_c_87_0 : List (Nat × Instr × Nat) := [(0, .aload_n 0, 1), (1, .getfield 11, 3), (4, .aload_n 0, 1), (5, .getfield 22, 3), (8, .iload_n 1, 1), (9, .bipush 6, 2), (11, .imul, 1), (12, .iload_n 2, 1), (13, .iadd, 1), (14, .iaload, 1), (15, .aaload, 1), (16, .areturn, 1)]
set_option maxRecDepth 100000 in
theorem ev_d_87_0 : ∀ q ∈ ev_c_87_0, decode prog_7_method_6_code q.1 = .ok (q.2.1, q.2.2) := by decide +kernel
def ev_c_87 : List (Nat × List (Nat × Instr × Nat)) := [(0, ev_c_87_0)]
set_option maxRecDepth 100000 in
theorem ev_d_87 : ∀ q ∈ ev_c_87, ∀ z ∈ q.2, decode prog_7_method_6_code z.1 = .ok (z.2.1, z.2.2) := List.forall_mem_cons.mpr ⟨ev_d_87_0, fun _ h => absurd h List.not_mem_nil⟩
def ev_c_88_0 : List (Nat × Instr × Nat) := [(0, .aload_n 0, 1), (1, .getfield 28, 3), (4, .iload_n 1, 1), (5, .iaload, 1), (6, .iconst (-1), 1), (7, .if_icmp .eq 7, 3), (10, .iconst 1, 1), (11, .goto 4, 3), (14, .iconst 0, 1), (15, .ireturn, 1)]
set_option maxRecDepth 100000 in
theorem ev_d_88_0 : ∀ q ∈ ev_c_88_0, decode prog_7_method_7_code q.1 = .ok (q.2.1, q.2.2) := by decide +kernel
def ev_c_88 : List (Nat × List (Nat × Instr × Nat)) := [(0, ev_c_88_0)]
set_option maxRecDepth 100000 in
theorem ev_d_88 : ∀ q ∈ ev_c_88, ∀ z ∈ q.2, decode prog_7_method_7_code z.1 = .ok (z.2.1, z.2.2) := List.forall_mem_cons.mpr ⟨ev_d_88_0, fun _ h => absurd h List.not_mem_nil⟩
def ev_c_89_0 : List (Nat × Instr × Nat) := [(0, .iconst 0, 1), (1, .istore_n 2, 1), (2, .iconst 0, 1), (3, .istore_n 3, 1), (4, .iload_n 3, 1), (5, .aload_n 0, 1), (6, .getfield 50, 3), (9, .if_icmp .ge 25, 3), (12, .aload_n 0, 1), (13, .getfield 11, 3), (16, .iload_n 3, 1), (17, .aaload, 1), (18, .getfield 73, 3), (21, .iload_n 1, 1), (22, .if_icmp .ne 6, 3), (25, .iinc 2 1, 3), (28, .iinc 3 1, 3), (31, .goto (-27), 3)]
set_option maxRecDepth 100000 in
theorem ev_d_89_0 : ∀ q ∈ ev_c_89_0, decode prog_7_method_8_code q.1 = .ok (q.2.1, q.2.2) := by decide +kernel
def ev_c_89_1 : List (Nat × Instr × Nat) := [(34, .iload_n 2, 1), (35, .ireturn, 1)]
set_option maxRecDepth 100000 in
theorem ev_d_89_1 : ∀ q ∈ ev_c_89_1, decode prog_7_method_8_code q.1 = .ok (q.2.1, q.2.2) := by decide +kernel
def ev_c_89 : List (Nat × List (Nat × Instr × Nat)) := [(0, ev_c_89_0), (1, ev_c_89_1)]
set_option maxRecDepth 100000 in
theorem ev_d_89 : ∀ q ∈ ev_c_89, ∀ z ∈ q.2, decode prog_7_method_8_code z.1 = .ok (z.2.1, z.2.2) := List.forall_mem_cons.mpr ⟨ev_d_89_0, List.forall_mem_cons.mpr ⟨ev_d_89_1, fun _ h => absurd h List.not_mem_nil⟩⟩
def ev_c_90_0 : List (Nat × Instr × Nat) := [(0, .iconst 0, 1), (1, .istore_n 1, 1), (2, .iconst 0, 1), (3, .istore_n 2, 1), (4, .iload_n 2, 1), (5, .aload_n 0, 1), (6, .getfield 50, 3), (9, .if_icmp .ge 24, 3), (12, .aload_n 0, 1), (13, .getfield 11, 3), (16, .iload_n 2, 1), (17, .aaload, 1), (18, .invokevirtual 76, 3), (21, .ifCond .eq 6, 3), (24, .iinc 1 1, 3), (27, .iinc 2 1, 3), (30, .goto (-26), 3)]
set_option maxRecDepth 100000 in
theorem ev_d_90_0 : ∀ q ∈ ev_c_90_0, decode prog_7_method_9_code q.1 = .ok (q.2.1, q.2.2) := by decide +kernel
def ev_c_90_1 : List (Nat × Instr × Nat) := [(33, .iload_n 1, 1), (34, .ireturn, 1)]
set_option maxRecDepth 100000 in
theorem ev_d_90_1 : ∀ q ∈ ev_c_90_1, decode prog_7_method_9_code q.1 = .ok (q.2.1, q.2.2) := by decide +kernel
def ev_c_90 : List (Nat × List (Nat × Instr × Nat)) := [(0, ev_c_90_0), (1, ev_c_90_1)]
set_option maxRecDepth 100000 in
theorem ev_d_90 : ∀ q ∈ ev_c_90, ∀ z ∈ q.2, decode prog_7_method_9_code z.1 = .ok (z.2.1, z.2.2) := List.forall_mem_cons.mpr ⟨ev_d_90_0, List.forall_mem_cons.mpr ⟨ev_d_90_1, fun _ h => absurd h List.not_mem_nil⟩⟩
def ev_c_91_0 : List (Nat × Instr × Nat) := [(0, .iconst 0, 1), (1, .istore_n 2, 1), (2, .iconst 0, 1), (3, .istore_n 3, 1), (4, .iload_n 3, 1), (5, .aload_n 0, 1), (6, .getfield 50, 3), (9, .if_icmp .ge 25, 3), (12, .aload_n 0, 1), (13, .getfield 11, 3), (16, .iload_n 3, 1), (17, .aaload, 1), (18, .getfield 80, 3), (21, .iload_n 1, 1), (22, .if_icmp .ne 6, 3), (25, .iinc 2 1, 3), (28, .iinc 3 1, 3), (31, .goto (-27), 3)]
set_option maxRecDepth 100000 in
theorem ev_d_91_0 : ∀ q ∈ ev_c_91_0, decode prog_7_method_10_code q.1 = .ok (q.2.1, q.2.2) := by decide +kernel
def ev_c_91_1 : List (Nat × Instr × Nat) := [(34, .iload_n 2, 1), (35, .ireturn, 1)]
set_option maxRecDepth 100000 in
theorem ev_d_91_1 : ∀ q ∈ ev_c_91_1, decode prog_7_method_10_code q.1 = .ok (q.2.1, q.2.2) := by decide +kernel
def ev_c_91 : List (Nat × List (Nat × Instr × Nat)) := [(0, ev_c_91_0), (1, ev_c_91_1)]
set_option maxRecDepth 100000 in
theorem ev_d_91 : ∀ q ∈ ev_c_91, ∀ z ∈ q.2, decode prog_7_method_10_code z.1 = .ok (z.2.1, z.2.2) := List.forall_mem_cons.mpr ⟨ev_d_91_0, List.forall_mem_cons.mpr ⟨ev_d_91_1, fun _ h => absurd h List.not_mem_nil⟩⟩
def ev_c_92_0 : List (Nat × Instr × Nat) := [(0, .iconst 0, 1), (1, .istore_n 2, 1), (2, .iconst 0, 1), (3, .istore_n 3, 1), (4, .iload_n 3, 1), (5, .aload_n 0, 1), (6, .getfield 50, 3), (9, .if_icmp .ge 37, 3), (12, .aload_n 0, 1), (13, .getfield 11, 3), (16, .iload_n 3, 1), (17, .aaload, 1), (18, .getfield 80, 3), (21, .iload_n 1, 1), (22, .if_icmp .ne 18, 3), (25, .aload_n 0, 1), (26, .getfield 11, 3), (29, .iload_n 3, 1), (30, .aaload, 1), (31, .invokevirtual 76, 3)]
set_option maxRecDepth 100000 in
theorem ev_d_92_0 : ∀ q ∈ ev_c_92_0, decode prog_7_method_11_code q.1 = .ok (q.2.1, q.2.2) := by decide +kernel
def ev_c_92_1 : List (Nat × Instr × Nat) := [(34, .ifCond .eq 6, 3), (37, .iinc 2 1, 3), (40, .iinc 3 1, 3), (43, .goto (-39), 3), (46, .iload_n 2, 1), (47, .ireturn, 1)]
set_option maxRecDepth 100000 in
theorem ev_d_92_1 : ∀ q ∈ ev_c_92_1, decode prog_7_method_11_code q.1 = .ok (q.2.1, q.2.2) := by decide +kernel
def ev_c_92 : List (Nat × List (Nat × Instr × Nat)) := [(0, ev_c_92_0), (1, ev_c_92_1)]
set_option maxRecDepth 100000 in
theorem ev_d_92 : ∀ q ∈ ev_c_92, ∀ z ∈ q.2, decode prog_7_method_11_code z.1 = .ok (z.2.1, z.2.2) := List.forall_mem_cons.mpr ⟨ev_d_92_0, List.forall_mem_cons.mpr ⟨ev_d_92_1, fun _ h => absurd h List.not_mem_nil⟩⟩
def ev_c_93_0 : List (Nat × Instr × Nat) := [(0, .iconst 0, 1), (1, .istore_n 2, 1), (2, .iload_n 2, 1), (3, .aload_n 0, 1), (4, .getfield 50, 3), (7, .if_icmp .ge 36, 3), (10, .aload_n 0, 1), (11, .getfield 11, 3), (14, .iload_n 2, 1), (15, .aaload, 1), (16, .getfield 80, 3), (19, .iload_n 1, 1), (20, .if_icmp .ne 17, 3), (23, .aload_n 0, 1), (24, .getfield 11, 3), (27, .iload_n 2, 1), (28, .aaload, 1), (29, .invokevirtual 76, 3)]
set_option maxRecDepth 100000 in
theorem ev_d_93_0 : ∀ q ∈ ev_c_93_0, decode prog_7_method_12_code q.1 = .ok (q.2.1, q.2.2) := by decide +kernel
def ev_c_93_1 : List (Nat × Instr × Nat) := [(32, .ifCond .ne 5, 3), (35, .iload_n 2, 1), (36, .ireturn, 1), (37, .iinc 2 1, 3), (40, .goto (-38), 3), (43, .iconst (-1), 1), (44, .ireturn, 1)]
set_option maxRecDepth 100000 in
theorem ev_d_93_1 : ∀ q ∈ ev_c_93_1, decode prog_7_method_12_code q.1 = .ok (q.2.1, q.2.2) := by decide +kernel
def ev_c_93 : List (Nat × List (Nat × Instr × Nat)) := [(0, ev_c_93_0), (1, ev_c_93_1)]
set_option maxRecDepth 100000 in
theorem ev_d_93 : ∀ q ∈ ev_c_93, ∀ z ∈ q.2, decode prog_7_method_12_code z.1 = .ok (z.2.1, z.2.2) := List.forall_mem_cons.mpr ⟨ev_d_93_0, List.forall_mem_cons.mpr ⟨ev_d_93_1, fun _ h => absurd h List.not_mem_nil⟩⟩
def ev_c_94_0 : List (Nat × Instr × Nat) := [(0, .aload_n 0, 1), (1, .getfield 22, 3), (4, .iload_n 2, 1), (5, .bipush 6, 2), (7, .imul, 1), (8, .aload_n 0, 1), (9, .getfield 18, 3), (12, .iload_n 2, 1), (13, .iaload, 1), (14, .iadd, 1), (15, .iload_n 1, 1), (16, .iastore, 1), (17, .aload_n 0, 1), (18, .getfield 18, 3), (21, .iload_n 2, 1), (22, .dup2, 1), (23, .iaload, 1), (24, .iconst 1, 1), (25, .iadd, 1), (26, .iastore, 1), (27, .aload_n 0, 1), (28, .getfield 11, 3), (31, .iload_n 1, 1)]
set_option maxRecDepth 100000 in
theorem ev_d_94_0 : ∀ q ∈ ev_c_94_0, decode prog_7_method_17_code q.1 = .ok (q.2.1, q.2.2) := by decide +kernel
def ev_c_94_1 : List (Nat × Instr × Nat) := [(32, .aaload, 1), (33, .iconst 1, 1), (34, .iload_n 2, 1), (35, .invokevirtual 95, 3), (38, .aload_n 0, 1), (39, .getfield 18, 3), (42, .iload_n 2, 1), (43, .iaload, 1), (44, .ireturn, 1)]
set_option maxRecDepth 100000 in
theorem ev_d_94_1 : ∀ q ∈ ev_c_94_1, decode prog_7_method_17_code q.1 = .ok (q.2.1, q.2.2) := by decide +kernel
def ev_c_94 : List (Nat × List (Nat × Instr × Nat)) := [(0, ev_c_94_0), (1, ev_c_94_1)]
set_option maxRecDepth 100000 in
theorem ev_d_94 : ∀ q ∈ ev_c_94, ∀ z ∈ q.2, decode prog_7_method_17_code z.1 = .ok (z.2.1, z.2.2) := List.forall_mem_cons.mpr ⟨ev_d_94_0, List.forall_mem_cons.mpr ⟨ev_d_94_1, fun _ h => absurd h List.not_mem_nil⟩⟩
def ev_c_95_0 : List (Nat × Instr × Nat) := [(0, .aload_n 0, 1), (1, .getfield 25, 3), (4, .iload_n 2, 1), (5, .iload_n 1, 1), (6, .iastore, 1), (7, .aload_n 0, 1), (8, .getfield 11, 3), (11, .iload_n 1, 1), (12, .aaload, 1), (13, .iconst 2, 1), (14, .iload_n 2, 1), (15, .invokevirtual 95, 3), (18, .return_, 1)]
set_option maxRecDepth 100000 in
theorem ev_d_95_0 : ∀ q ∈ ev_c_95_0, decode prog_7_method_18_code q.1 = .ok (q.2.1, q.2.2) := by decide +kernel
def ev_c_95 : List (Nat × List (Nat × Instr × Nat)) := [(0, ev_c_95_0)]
set_option maxRecDepth 100000 in
theorem ev_d_95 : ∀ q ∈ ev_c_95, ∀ z ∈ q.2, decode prog_7_method_18_code z.1 = .ok (z.2.1, z.2.2) := List.forall_mem_cons.mpr ⟨ev_d_95_0, fun _ h => absurd h List.not_mem_nil⟩
def ev_c_96_0 : List (Nat × Instr × Nat) := [(0, .aload_n 0, 1), (1, .getfield 18, 3), (4, .iload_n 1, 1), (5, .iaload, 1), (6, .istore_n 2, 1), (7, .iconst 0, 1), (8, .istore_n 3, 1), (9, .iload_n 3, 1), (10, .iload_n 2, 1), (11, .if_icmp .ge 20, 3), (14, .aload_n 0, 1), (15, .iload_n 1, 1), (16, .iload_n 3, 1), (17, .invokevirtual 105, 3), (20, .iconst 0, 1), (21, .iconst (-1), 1), (22, .invokevirtual 95, 3), (25, .iinc 3 1, 3), (28, .goto (-19), 3), (31, .aload_n 0, 1)]
set_option maxRecDepth 100000 in
theorem ev_d_96_0 : ∀ q ∈ ev_c_96_0, decode prog_7_method_21_code q.1 = .ok (q.2.1, q.2.2) := by decide +kernel
def ev_c_96_1 : List (Nat × Instr × Nat) := [(32, .getfield 18, 3), (35, .iload_n 1, 1), (36, .iconst 0, 1), (37, .iastore, 1), (38, .iload_n 2, 1), (39, .ireturn, 1)]
set_option maxRecDepth 100000 in
theorem ev_d_96_1 : ∀ q ∈ ev_c_96_1, decode prog_7_method_21_code q.1 = .ok (q.2.1, q.2.2) := by decide +kernel
def ev_c_96 : List (Nat × List (Nat × Instr × Nat)) := [(0, ev_c_96_0), (1, ev_c_96_1)]
set_option maxRecDepth 100000 in
theorem ev_d_96 : ∀ q ∈ ev_c_96, ∀ z ∈ q.2, decode prog_7_method_21_code z.1 = .ok (z.2.1, z.2.2) := List.forall_mem_cons.mpr ⟨ev_d_96_0, List.forall_mem_cons.mpr ⟨ev_d_96_1, fun _ h => absurd h List.not_mem_nil⟩⟩
def ev_c_97_0 : List (Nat × Instr × Nat) := [(0, .bipush 7, 2), (2, .istore_n 1, 1), (3, .iload_n 1, 1), (4, .ifCond .lt 21, 3), (7, .aload_n 0, 1), (8, .getfield 25, 3), (11, .iload_n 1, 1), (12, .iaload, 1), (13, .iconst (-1), 1), (14, .if_icmp .eq 5, 3), (17, .iload_n 1, 1), (18, .ireturn, 1), (19, .iinc 1 (-1), 3), (22, .goto (-19), 3), (25, .iconst (-1), 1), (26, .ireturn, 1)]
set_option maxRecDepth 100000 in
theorem ev_d_97_0 : ∀ q ∈ ev_c_97_0, decode prog_7_method_22_code q.1 = .ok (q.2.1, q.2.2) := by decide +kernel
def ev_c_97 : List (Nat × List (Nat × Instr × Nat)) := [(0, ev_c_97_0)]
set_option maxRecDepth 100000 in
theorem ev_d_97 : ∀ q ∈ ev_c_97, ∀ z ∈ q.2, decode prog_7_method_22_code z.1 = .ok (z.2.1, z.2.2) := List.forall_mem_cons.mpr ⟨ev_d_97_0, fun _ h => absurd h List.not_mem_nil⟩
def ev_c_98_0 : List (Nat × Instr × Nat) := [(0, .aload_n 0, 1), (1, .getfield 47, 3), (4, .istore_n 2, 1), (5, .iconst 0, 1), (6, .istore_n 3, 1), (7, .iload_n 3, 1), (8, .iload_n 1, 1), (9, .if_icmp .ge 44, 3), (12, .aload_n 0, 1), (13, .iconst 1, 1), (14, .aload_n 0, 1), (15, .getfield 35, 3), (18, .iconst 3, 1), (19, .idiv, 1), (20, .iadd, 1), (21, .invokevirtual 109, 3), (24, .aload_n 0, 1), (25, .getfield 35, 3), (28, .bipush 7, 2), (30, .if_icmp .lt 7, 3)]
set_option maxRecDepth 100000 in
theorem ev_d_98_0 : ∀ q ∈ ev_c_98_0, decode prog_7_method_23_code q.1 = .ok (q.2.1, q.2.2) := by decide +kernel
def ev_c_98_1 : List (Nat × Instr × Nat) := [(33, .aload_n 0, 1), (34, .invokevirtual 113, 3), (37, .aload_n 0, 1), (38, .dup, 1), (39, .getfield 31, 3), (42, .iconst 1, 1), (43, .iadd, 1), (44, .putfield 31, 3), (47, .iinc 3 1, 3), (50, .goto (-43), 3), (53, .aload_n 0, 1), (54, .getfield 47, 3), (57, .iload_n 2, 1), (58, .isub, 1), (59, .ireturn, 1)]
set_option maxRecDepth 100000 in
theorem ev_d_98_1 : ∀ q ∈ ev_c_98_1, decode prog_7_method_23_code q.1 = .ok (q.2.1, q.2.2) := by decide +kernel
def ev_c_98 : List (Nat × List (Nat × Instr × Nat)) := [(0, ev_c_98_0), (1, ev_c_98_1)]
set_option maxRecDepth 100000 in
theorem ev_d_98 : ∀ q ∈ ev_c_98, ∀ z ∈ q.2, decode prog_7_method_23_code z.1 = .ok (z.2.1, z.2.2) := List.forall_mem_cons.mpr ⟨ev_d_98_0, List.forall_mem_cons.mpr ⟨ev_d_98_1, fun _ h => absurd h List.not_mem_nil⟩⟩
def ev_c_99_0 : List (Nat × Instr × Nat) := [(0, .iconst 0, 1), (1, .istore_n 2, 1), (2, .iload_n 2, 1), (3, .aload_n 0, 1), (4, .getfield 50, 3), (7, .if_icmp .ge 46, 3), (10, .aload_n 0, 1), (11, .getfield 11, 3), (14, .iload_n 2, 1), (15, .aaload, 1), (16, .getfield 73, 3), (19, .iconst 2, 1), (20, .if_icmp .ne 27, 3), (23, .aload_n 0, 1), (24, .getfield 11, 3), (27, .iload_n 2, 1), (28, .aaload, 1), (29, .iconst 0, 1), (30, .aload_n 0, 1), (31, .getfield 11, 3)]
set_option maxRecDepth 100000 in
theorem ev_d_99_0 : ∀ q ∈ ev_c_99_0, decode prog_7_method_24_code q.1 = .ok (q.2.1, q.2.2) := by decide +kernel
def ev_c_99_1 : List (Nat × Instr × Nat) := [(34, .iload_n 2, 1), (35, .aaload, 1), (36, .getfield 92, 3), (39, .iload_n 1, 1), (40, .isub, 1), (41, .invokestatic 116, 3), (44, .putfield 92, 3), (47, .iinc 2 1, 3), (50, .goto (-48), 3), (53, .return_, 1)]
set_option maxRecDepth 100000 in
theorem ev_d_99_1 : ∀ q ∈ ev_c_99_1, decode prog_7_method_24_code q.1 = .ok (q.2.1, q.2.2) := by decide +kernel
def ev_c_99 : List (Nat × List (Nat × Instr × Nat)) := [(0, ev_c_99_0), (1, ev_c_99_1)]
set_option maxRecDepth 100000 in
theorem ev_d_99 : ∀ q ∈ ev_c_99, ∀ z ∈ q.2, decode prog_7_method_24_code z.1 = .ok (z.2.1, z.2.2) := List.forall_mem_cons.mpr ⟨ev_d_99_0, List.forall_mem_cons.mpr ⟨ev_d_99_1, fun _ h => absurd h List.not_mem_nil⟩⟩
def ev_c_100_0 : List (Nat × Instr × Nat) := [(0, .aload_n 0, 1), (1, .invokevirtual 122, 3), (4, .istore_n 1, 1), (5, .iload_n 1, 1), (6, .iconst (-1), 1), (7, .if_icmp .ne 4, 3), (10, .return_, 1), (11, .aload_n 0, 1), (12, .getfield 11, 3), (15, .aload_n 0, 1), (16, .getfield 25, 3), (19, .iload_n 1, 1), (20, .iaload, 1), (21, .aaload, 1), (22, .astore_n 2, 1), (23, .aload_n 0, 1), (24, .getfield 25, 3), (27, .iload_n 1, 1), (28, .iconst (-1), 1), (29, .iastore, 1), (30, .aload_n 2, 1), (31, .iconst 0, 1)]
set_option maxRecDepth 100000 in
theorem ev_d_100_0 : ∀ q ∈ ev_c_100_0, decode prog_7_method_25_code q.1 = .ok (q.2.1, q.2.2) := by decide +kernel
def ev_c_100_1 : List (Nat × Instr × Nat) := [(32, .iconst (-1), 1), (33, .invokevirtual 95, 3), (36, .aload_n 2, 1), (37, .invokevirtual 126, 3), (40, .aload_n 0, 1), (41, .dup, 1), (42, .getfield 47, 3), (45, .iconst 1, 1), (46, .iadd, 1), (47, .putfield 47, 3), (50, .return_, 1)]
set_option maxRecDepth 100000 in
theorem ev_d_100_1 : ∀ q ∈ ev_c_100_1, decode prog_7_method_25_code q.1 = .ok (q.2.1, q.2.2) := by decide +kernel
def ev_c_100 : List (Nat × List (Nat × Instr × Nat)) := [(0, ev_c_100_0), (1, ev_c_100_1)]
set_option maxRecDepth 100000 in
theorem ev_d_100 : ∀ q ∈ ev_c_100, ∀ z ∈ q.2, decode prog_7_method_25_code z.1 = .ok (z.2.1, z.2.2) := List.forall_mem_cons.mpr ⟨ev_d_100_0, List.forall_mem_cons.mpr ⟨ev_d_100_1, fun _ h => absurd h List.not_mem_nil⟩⟩
def ev_c_101_0 : List (Nat × Instr × Nat) := [(0, .aload_n 0, 1), (1, .getfield 11, 3), (4, .iload_n 1, 1), (5, .aaload, 1), (6, .getfield 73, 3), (9, .iconst 2, 1), (10, .if_icmp .eq 5, 3), (13, .iconst (-1), 1), (14, .ireturn, 1), (15, .iload_n 2, 1), (16, .bipush 7, 2), (18, .if_icmp .lt 19, 3), (21, .aload_n 0, 1), (22, .aload_n 0, 1), (23, .getfield 11, 3), (26, .iload_n 1, 1), (27, .aaload, 1), (28, .getfield 99, 3), (31, .invokevirtual 129, 3)]
set_option maxRecDepth 100000 in
theorem ev_d_101_0 : ∀ q ∈ ev_c_101_0, decode prog_7_method_26_code q.1 = .ok (q.2.1, q.2.2) := by decide +kernel
def ev_c_101_1 : List (Nat × Instr × Nat) := [(34, .goto 5, 3), (37, .bipush 99, 2), (39, .istore_n 3, 1), (40, .iconst 0, 1), (41, .istore 4, 2), (43, .aload_n 0, 1), (44, .getfield 11, 3), (47, .iload_n 1, 1), (48, .aaload, 1), (49, .getfield 92, 3), (52, .istore 5, 2), (54, .iload 5, 2), (56, .ifCond .le 25, 3), (59, .iload 4, 2), (61, .iload_n 3, 1), (62, .if_icmp .gt 19, 3)]
set_option maxRecDepth 100000 in
theorem ev_d_101_1 : ∀ q ∈ ev_c_101_1, decode prog_7_method_26_code q.1 = .ok (q.2.1, q.2.2) := by decide +kernel
def ev_c_101_2 : List (Nat × Instr × Nat) := [(65, .iinc 4 1, 3), (68, .iload 5, 2), (70, .iconst 1, 1), (71, .iload_n 2, 1), (72, .iconst 3, 1), (73, .idiv, 1), (74, .iadd, 1), (75, .isub, 1), (76, .istore 5, 2), (78, .goto (-24), 3), (81, .iload 4, 2), (83, .iload_n 3, 1), (84, .if_icmp .gt 8, 3), (87, .iload 4, 2), (89, .goto 4, 3), (92, .iconst (-1), 1), (93, .ireturn, 1)]
set_option maxRecDepth 100000 in
theorem ev_d_101_2 : ∀ q ∈ ev_c_101_2, decode prog_7_method_26_code q.1 = .ok (q.2.1, q.2.2) := by decide +kernel
def ev_c_101 : List (Nat × List (Nat × Instr × Nat)) := [(0, ev_c_101_0), (1, ev_c_101_1), (2, ev_c_101_2)]
set_option maxRecDepth 100000 in
theorem ev_d_101 : ∀ q ∈ ev_c_101, ∀ z ∈ q.2, decode prog_7_method_26_code z.1 = .ok (z.2.1, z.2.2) := List.forall_mem_cons.mpr ⟨ev_d_101_0, List.forall_mem_cons.mpr ⟨ev_d_101_1, List.forall_mem_cons.mpr ⟨ev_d_101_2, fun _ h => absurd h List.not_mem_nil⟩⟩⟩
def ev_c_102_0 : List (Nat × Instr × Nat) := [(0, .iconst 1, 1), (1, .istore_n 2, 1), (2, .iload_n 1, 1), (3, .iconst 1, 1), (4, .iadd, 1), (5, .istore_n 3, 1), (6, .iload_n 3, 1), (7, .bipush 8, 2), (9, .if_icmp .ge 22, 3), (12, .aload_n 0, 1), (13, .getfield 25, 3), (16, .iload_n 3, 1), (17, .iaload, 1), (18, .iconst (-1), 1), (19, .if_icmp .eq 6, 3), (22, .iinc 2 1, 3), (25, .iinc 3 1, 3), (28, .goto (-22), 3), (31, .iload_n 2, 1)]
set_option maxRecDepth 100000 in
theorem ev_d_102_0 : ∀ q ∈ ev_c_102_0, decode prog_7_method_27_code q.1 = .ok (q.2.1, q.2.2) := by decide +kernel
def ev_c_102_1 : List (Nat × Instr × Nat) := [(32, .ireturn, 1)]
set_option maxRecDepth 100000 in
theorem ev_d_102_1 : ∀ q ∈ ev_c_102_1, decode prog_7_method_27_code q.1 = .ok (q.2.1, q.2.2) := by decide +kernel
def ev_c_102 : List (Nat × List (Nat × Instr × Nat)) := [(0, ev_c_102_0), (1, ev_c_102_1)]
set_option maxRecDepth 100000 in
theorem ev_d_102 : ∀ q ∈ ev_c_102, ∀ z ∈ q.2, decode prog_7_method_27_code z.1 = .ok (z.2.1, z.2.2) := List.forall_mem_cons.mpr ⟨ev_d_102_0, List.forall_mem_cons.mpr ⟨ev_d_102_1, fun _ h => absurd h List.not_mem_nil⟩⟩
def ev_c_103_0 : List (Nat × Instr × Nat) := [(0, .aload_n 0, 1), (1, .invokespecial 3, 3), (4, .aload_n 0, 1), (5, .bipush 100, 2), (7, .newarray .int, 2), (9, .putfield 9, 3), (12, .return_, 1)]
set_option maxRecDepth 100000 in
theorem ev_d_103_0 : ∀ q ∈ ev_c_103_0, decode prog_8_method_1_code q.1 = .ok (q.2.1, q.2.2) := by decide +kernel
def ev_c_103 : List (Nat × List (Nat × Instr × Nat)) := [(0, ev_c_103_0)]
set_option maxRecDepth 100000 in
theorem ev_d_103 : ∀ q ∈ ev_c_103, ∀ z ∈ q.2, decode prog_8_method_1_code z.1 = .ok (z.2.1, z.2.2) := List.forall_mem_cons.mpr ⟨ev_d_103_0, fun _ h => absurd h List.not_mem_nil⟩
def ev_c_104_0 : List (Nat × Instr × Nat) := [(0, .aload_n 0, 1), (1, .invokespecial 1, 3), (4, .aload_n 0, 1), (5, .sipush 500, 3), (8, .newarray .byte, 2), (10, .putfield 9, 3), (13, .aload_n 0, 1), (14, .iconst 0, 1), (15, .putfield 13, 3), (18, .aload_n 0, 1), (19, .iconst 0, 1), (20, .putfield 17, 3), (23, .aload_n 0, 1), (24, .iconst (-1), 1), (25, .putfield 20, 3), (28, .aload_n 0, 1), (29, .iconst 0, 1), (30, .putfield 23, 3)]
set_option maxRecDepth 100000 in
theorem ev_d_104_0 : ∀ q ∈ ev_c_104_0, decode prog_1_method_1_code q.1 = .ok (q.2.1, q.2.2) := by decide +kernel
def ev_c_104_1 : List (Nat × Instr × Nat) := [(33, .aload_n 0, 1), (34, .new 27, 3), (37, .dup, 1), (38, .invokespecial 29, 3), (41, .putfield 30, 3), (44, .aload_n 0, 1), (45, .new 27, 3), (48, .dup, 1), (49, .invokespecial 29, 3), (52, .putfield 34, 3), (55, .aload_n 0, 1), (56, .new 37, 3), (59, .dup, 1), (60, .invokespecial 39, 3), (63, .putfield 40, 3)]
set_option maxRecDepth 100000 in
theorem ev_d_104_1 : ∀ q ∈ ev_c_104_1, decode prog_1_method_1_code q.1 = .ok (q.2.1, q.2.2) := by decide +kernel
def ev_c_104_2 : List (Nat × Instr × Nat) := [(66, .aload_n 0, 1), (67, .new 44, 3), (70, .dup, 1), (71, .invokespecial 46, 3), (74, .putfield 47, 3), (77, .aload_n 0, 1), (78, .new 51, 3), (81, .dup, 1), (82, .invokespecial 53, 3), (85, .putfield 54, 3), (88, .return_, 1)]
set_option maxRecDepth 100000 in
theorem ev_d_104_2 : ∀ q ∈ ev_c_104_2, decode prog_1_method_1_code q.1 = .ok (q.2.1, q.2.2) := by decide +kernel
def ev_c_104 : List (Nat × List (Nat × Instr × Nat)) := [(0, ev_c_104_0), (1, ev_c_104_1), (2, ev_c_104_2)]
set_option maxRecDepth 100000 in
theorem ev_d_104 : ∀ q ∈ ev_c_104, ∀ z ∈ q.2, decode prog_1_method_1_code z.1 = .ok (z.2.1, z.2.2) := List.forall_mem_cons.mpr ⟨ev_d_104_0, List.forall_mem_cons.mpr ⟨ev_d_104_1, List.forall_mem_cons.mpr ⟨ev_d_104_2, fun _ h => absurd h List.not_mem_nil⟩⟩⟩
def ev_c_105_0 : List (Nat × Instr × Nat) := [(0, .aload_n 0, 1), (1, .getfield 13, 3), (4, .bipush 20, 2), (6, .iadd, 1), (7, .sipush 500, 3), (10, .if_icmp .le 5, 3), (13, .iconst (-1), 1), (14, .ireturn, 1), (15, .aload_n 0, 1), (16, .iload_n 1, 1), (17, .invokevirtual 58, 3), (20, .aload_n 0, 1), (21, .iload_n 2, 1), (22, .invokevirtual 58, 3), (25, .aload_n 0, 1), (26, .iload_n 3, 1), (27, .invokevirtual 58, 3), (30, .aload_n 0, 1), (31, .iload 4, 2)]
set_option maxRecDepth 100000 in
theorem ev_d_105_0 : ∀ q ∈ ev_c_105_0, decode prog_1_method_2_code q.1 = .ok (q.2.1, q.2.2) := by decide +kernel
def ev_c_105_1 : List (Nat × Instr × Nat) := [(33, .invokevirtual 58, 3), (36, .aload_n 0, 1), (37, .iload 5, 2), (39, .invokevirtual 58, 3), (42, .aload_n 0, 1), (43, .getfield 13, 3), (46, .ireturn, 1)]
set_option maxRecDepth 100000 in
theorem ev_d_105_1 : ∀ q ∈ ev_c_105_1, decode prog_1_method_2_code q.1 = .ok (q.2.1, q.2.2) := by decide +kernel
def ev_c_105 : List (Nat × List (Nat × Instr × Nat)) := [(0, ev_c_105_0), (1, ev_c_105_1)]
set_option maxRecDepth 100000 in
theorem ev_d_105 : ∀ q ∈ ev_c_105, ∀ z ∈ q.2, decode prog_1_method_2_code z.1 = .ok (z.2.1, z.2.2) := List.forall_mem_cons.mpr ⟨ev_d_105_0, List.forall_mem_cons.mpr ⟨ev_d_105_1, fun _ h => absurd h List.not_mem_nil⟩⟩
def ev_c_106_0 : List (Nat × Instr × Nat) := [(0, .iload_n 1, 1), (1, .ifCond .lt 11, 3), (4, .iload_n 1, 1), (5, .aload_n 0, 1), (6, .getfield 13, 3), (9, .if_icmp .le 13, 3), (12, .new 62, 3), (15, .dup, 1), (16, .ldc 64, 2), (18, .invokespecial 66, 3), (21, .athrow, 1), (22, .aload_n 0, 1), (23, .iconst 0, 1), (24, .putfield 13, 3), (27, .aload_n 0, 1), (28, .getfield 40, 3), (31, .aload_n 0, 1)]
set_option maxRecDepth 100000 in
theorem ev_d_106_0 : ∀ q ∈ ev_c_106_0, decode prog_1_method_3_code q.1 = .ok (q.2.1, q.2.2) := by decide +kernel
def ev_c_106_1 : List (Nat × Instr × Nat) := [(32, .getfield 9, 3), (35, .iload_n 1, 1), (36, .aload_n 0, 1), (37, .getfield 34, 3), (40, .invokevirtual 69, 3), (43, .aload_n 0, 1), (44, .aload_n 0, 1), (45, .getfield 40, 3), (48, .getfield 73, 3), (51, .putfield 17, 3), (54, .aload_n 0, 1), (55, .aload_n 0, 1), (56, .getfield 40, 3), (59, .getfield 76, 3), (62, .putfield 20, 3)]
set_option maxRecDepth 100000 in
theorem ev_d_106_1 : ∀ q ∈ ev_c_106_1, decode prog_1_method_3_code q.1 = .ok (q.2.1, q.2.2) := by decide +kernel
def ev_c_106_2 : List (Nat × Instr × Nat) := [(65, .aload_n 0, 1), (66, .getfield 17, 3), (69, .ifCond .eq 13, 3), (72, .new 77, 3), (75, .dup, 1), (76, .ldc 79, 2), (78, .invokespecial 81, 3), (81, .athrow, 1), (82, .aload_n 0, 1), (83, .getfield 30, 3), (86, .astore_n 2, 1), (87, .aload_n 0, 1), (88, .aload_n 0, 1), (89, .getfield 34, 3), (92, .putfield 30, 3), (95, .aload_n 0, 1)]
set_option maxRecDepth 100000 in
theorem ev_d_106_2 : ∀ q ∈ ev_c_106_2, decode prog_1_method_3_code q.1 = .ok (q.2.1, q.2.2) := by decide +kernel
def ev_c_106_3 : List (Nat × Instr × Nat) := [(96, .aload_n 2, 1), (97, .putfield 34, 3), (100, .aload_n 0, 1), (101, .iconst 1, 1), (102, .putfield 23, 3), (105, .aload_n 0, 1), (106, .getfield 47, 3), (109, .invokevirtual 82, 3), (112, .aload_n 0, 1), (113, .getfield 30, 3), (116, .getfield 85, 3), (119, .getfield 89, 3), (122, .ireturn, 1)]
set_option maxRecDepth 100000 in
theorem ev_d_106_3 : ∀ q ∈ ev_c_106_3, decode prog_1_method_3_code q.1 = .ok (q.2.1, q.2.2) := by decide +kernel
def ev_c_106 : List (Nat × List (Nat × Instr × Nat)) := [(0, ev_c_106_0), (1, ev_c_106_1), (2, ev_c_106_2), (3, ev_c_106_3)]
set_option maxRecDepth 100000 in
theorem ev_d_106 : ∀ q ∈ ev_c_106, ∀ z ∈ q.2, decode prog_1_method_3_code z.1 = .ok (z.2.1, z.2.2) := List.forall_mem_cons.mpr ⟨ev_d_106_0, List.forall_mem_cons.mpr ⟨ev_d_106_1, List.forall_mem_cons.mpr ⟨ev_d_106_2, List.forall_mem_cons.mpr ⟨ev_d_106_3, fun _ h => absurd h List.not_mem_nil⟩⟩⟩⟩
def ev_c_107_0 : List (Nat × Instr × Nat) := [(0, .aload_n 0, 1), (1, .invokevirtual 94, 3), (4, .iload_n 1, 1), (5, .iconst 0, 1), (6, .bipush 15, 2), (8, .invokestatic 97, 3), (11, .aload_n 0, 1), (12, .getfield 30, 3), (15, .getfield 101, 3), (18, .astore_n 2, 1), (19, .aload_n 0, 1), (20, .getfield 30, 3), (23, .getfield 85, 3), (26, .astore_n 3, 1), (27, .iload_n 1, 1), (28, .tableswitch 155 0 14 #[76, 81, 86, 91, 96, 101, 106, 111, 117, 123, 129, 135, 140, 145, 150], 76)]
set_option maxRecDepth 100000 in
theorem ev_d_107_0 : ∀ q ∈ ev_c_107_0, decode prog_1_method_7_code q.1 = .ok (q.2.1, q.2.2) := by decide +kernel
def ev_c_107_3 : List (Nat × Instr × Nat) := [(104, .aload_n 2, 1), (105, .getfield 105, 3), (108, .ireturn, 1), (109, .aload_n 2, 1), (110, .getfield 110, 3), (113, .ireturn, 1), (114, .aload_n 2, 1), (115, .getfield 113, 3), (118, .ireturn, 1), (119, .aload_n 2, 1), (120, .getfield 116, 3), (123, .ireturn, 1), (124, .aload_n 3, 1), (125, .getfield 89, 3)]
set_option maxRecDepth 100000 in
theorem ev_d_107_3 : ∀ q ∈ ev_c_107_3, decode prog_1_method_7_code q.1 = .ok (q.2.1, q.2.2) := by decide +kernel
def ev_c_107_4 : List (Nat × Instr × Nat) := [(128, .ireturn, 1), (129, .aload_n 3, 1), (130, .getfield 119, 3), (133, .ireturn, 1), (134, .aload_n 3, 1), (135, .getfield 122, 3), (138, .ireturn, 1), (139, .aload_n 3, 1), (140, .iconst 0, 1), (141, .invokevirtual 125, 3), (144, .ireturn, 1), (145, .aload_n 3, 1), (146, .iconst 1, 1), (147, .invokevirtual 125, 3), (150, .ireturn, 1), (151, .aload_n 3, 1), (152, .iconst 2, 1), (153, .invokevirtual 125, 3), (156, .ireturn, 1), (157, .aload_n 3, 1), (158, .iconst 3, 1), (159, .invokevirtual 125, 3)]
set_option maxRecDepth 100000 in
theorem ev_d_107_4 : ∀ q ∈ ev_c_107_4, decode prog_1_method_7_code q.1 = .ok (q.2.1, q.2.2) := by decide +kernel
def ev_c_107_5 : List (Nat × Instr × Nat) := [(162, .ireturn, 1), (163, .aload_n 3, 1), (164, .getfield 129, 3), (167, .ireturn, 1), (168, .aload_n 3, 1), (169, .getfield 132, 3), (172, .ireturn, 1), (173, .aload_n 3, 1), (174, .getfield 135, 3), (177, .ireturn, 1), (178, .aload_n 3, 1), (179, .getfield 138, 3), (182, .ireturn, 1), (183, .aload_n 3, 1), (184, .invokevirtual 141, 3), (187, .ireturn, 1)]
set_option maxRecDepth 100000 in
theorem ev_d_107_5 : ∀ q ∈ ev_c_107_5, decode prog_1_method_7_code q.1 = .ok (q.2.1, q.2.2) := by decide +kernel
def ev_c_107 : List (Nat × List (Nat × Instr × Nat)) := [(0, ev_c_107_0), (3, ev_c_107_3), (4, ev_c_107_4), (5, ev_c_107_5)]
set_option maxRecDepth 100000 in
theorem ev_d_107 : ∀ q ∈ ev_c_107, ∀ z ∈ q.2, decode prog_1_method_7_code z.1 = .ok (z.2.1, z.2.2) := List.forall_mem_cons.mpr ⟨ev_d_107_0, List.forall_mem_cons.mpr ⟨ev_d_107_3, List.forall_mem_cons.mpr ⟨ev_d_107_4, List.forall_mem_cons.mpr ⟨ev_d_107_5, fun _ h => absurd h List.not_mem_nil⟩⟩⟩⟩
def ev_c_108_0 : List (Nat × Instr × Nat) := [(0, .aload_n 0, 1), (1, .iload_n 1, 1), (2, .invokevirtual 157, 3), (5, .iload_n 2, 1), (6, .iconst 0, 1), (7, .bipush 6, 2), (9, .invokestatic 97, 3), (12, .iload_n 2, 1), (13, .tableswitch 122 0 5 #[39, 52, 65, 78, 90, 102], 39)]
set_option maxRecDepth 100000 in
theorem ev_d_108_0 : ∀ q ∈ ev_c_108_0, decode prog_1_method_9_code q.1 = .ok (q.2.1, q.2.2) := by decide +kernel
def ev_c_108_1 : List (Nat × Instr × Nat) := [(52, .aload_n 0, 1), (53, .getfield 30, 3), (56, .getfield 101, 3), (59, .getfield 160, 3), (62, .iload_n 1, 1), (63, .iaload, 1)]
set_option maxRecDepth 100000 in
theorem ev_d_108_1 : ∀ q ∈ ev_c_108_1, decode prog_1_method_9_code q.1 = .ok (q.2.1, q.2.2) := by decide +kernel
def ev_c_108_2 : List (Nat × Instr × Nat) := [(64, .ireturn, 1), (65, .aload_n 0, 1), (66, .getfield 30, 3), (69, .getfield 101, 3), (72, .getfield 163, 3), (75, .iload_n 1, 1), (76, .iaload, 1), (77, .ireturn, 1), (78, .aload_n 0, 1), (79, .getfield 30, 3), (82, .getfield 101, 3), (85, .getfield 166, 3), (88, .iload_n 1, 1), (89, .iaload, 1), (90, .ireturn, 1), (91, .aload_n 0, 1), (92, .getfield 30, 3), (95, .getfield 85, 3)]
set_option maxRecDepth 100000 in
theorem ev_d_108_2 : ∀ q ∈ ev_c_108_2, decode prog_1_method_9_code q.1 = .ok (q.2.1, q.2.2) := by decide +kernel
def ev_c_108_3 : List (Nat × Instr × Nat) := [(98, .iload_n 1, 1), (99, .invokevirtual 169, 3), (102, .ireturn, 1), (103, .aload_n 0, 1), (104, .getfield 30, 3), (107, .getfield 85, 3), (110, .iload_n 1, 1), (111, .invokevirtual 172, 3), (114, .ireturn, 1), (115, .aload_n 0, 1), (116, .getfield 30, 3), (119, .getfield 85, 3), (122, .iload_n 1, 1), (123, .invokevirtual 175, 3), (126, .ifCond .eq 7, 3)]
set_option maxRecDepth 100000 in
theorem ev_d_108_3 : ∀ q ∈ ev_c_108_3, decode prog_1_method_9_code q.1 = .ok (q.2.1, q.2.2) := by decide +kernel
def ev_c_108_4 : List (Nat × Instr × Nat) := [(129, .iconst 1, 1), (130, .goto 4, 3), (133, .iconst 0, 1), (134, .ireturn, 1), (135, .aload_n 0, 1), (136, .getfield 30, 3), (139, .iload_n 1, 1), (140, .invokevirtual 179, 3), (143, .ireturn, 1)]
set_option maxRecDepth 100000 in
theorem ev_d_108_4 : ∀ q ∈ ev_c_108_4, decode prog_1_method_9_code q.1 = .ok (q.2.1, q.2.2) := by decide +kernel
def ev_c_108 : List (Nat × List (Nat × Instr × Nat)) := [(0, ev_c_108_0), (1, ev_c_108_1), (2, ev_c_108_2), (3, ev_c_108_3), (4, ev_c_108_4)]
set_option maxRecDepth 100000 in
theorem ev_d_108 : ∀ q ∈ ev_c_108, ∀ z ∈ q.2, decode prog_1_method_9_code z.1 = .ok (z.2.1, z.2.2) := List.forall_mem_cons.mpr ⟨ev_d_108_0, List.forall_mem_cons.mpr ⟨ev_d_108_1, List.forall_mem_cons.mpr ⟨ev_d_108_2, List.forall_mem_cons.mpr ⟨ev_d_108_3, List.forall_mem_cons.mpr ⟨ev_d_108_4, fun _ h => absurd h List.not_mem_nil⟩⟩⟩⟩⟩
def ev_c_109_0 : List (Nat × Instr × Nat) := [(0, .aload_n 0, 1), (1, .iload_n 1, 1), (2, .invokevirtual 182, 3), (5, .iload_n 2, 1), (6, .iconst 0, 1), (7, .bipush 9, 2), (9, .invokestatic 97, 3), (12, .aload_n 0, 1), (13, .getfield 30, 3), (16, .getfield 85, 3), (19, .getfield 185, 3), (22, .iload_n 1, 1), (23, .aaload, 1), (24, .astore_n 3, 1), (25, .iload_n 2, 1), (26, .tableswitch 95 0 8 #[50, 55, 60, 65, 70, 75, 80, 85, 90], 50)]
set_option maxRecDepth 100000 in
theorem ev_d_109_0 : ∀ q ∈ ev_c_109_0, decode prog_1_method_10_code q.1 = .ok (q.2.1, q.2.2) := by decide +kernel
def ev_c_109_2 : List (Nat × Instr × Nat) := [(76, .aload_n 3, 1), (77, .getfield 189, 3), (80, .ireturn, 1), (81, .aload_n 3, 1), (82, .getfield 194, 3), (85, .ireturn, 1), (86, .aload_n 3, 1), (87, .getfield 195, 3), (90, .ireturn, 1), (91, .aload_n 3, 1), (92, .getfield 198, 3), (95, .ireturn, 1)]
set_option maxRecDepth 100000 in
theorem ev_d_109_2 : ∀ q ∈ ev_c_109_2, decode prog_1_method_10_code q.1 = .ok (q.2.1, q.2.2) := by decide +kernel
def ev_c_109_3 : List (Nat × Instr × Nat) := [(96, .aload_n 3, 1), (97, .getfield 201, 3), (100, .ireturn, 1), (101, .aload_n 3, 1), (102, .getfield 204, 3), (105, .ireturn, 1), (106, .aload_n 3, 1), (107, .getfield 207, 3), (110, .ireturn, 1), (111, .aload_n 3, 1), (112, .getfield 210, 3), (115, .ireturn, 1), (116, .aload_n 3, 1), (117, .getfield 213, 3), (120, .ireturn, 1), (121, .aload_n 3, 1), (122, .getfield 216, 3), (125, .ireturn, 1)]
set_option maxRecDepth 100000 in
theorem ev_d_109_3 : ∀ q ∈ ev_c_109_3, decode prog_1_method_10_code q.1 = .ok (q.2.1, q.2.2) := by decide +kernel
def ev_c_109 : List (Nat × List (Nat × Instr × Nat)) := [(0, ev_c_109_0), (2, ev_c_109_2), (3, ev_c_109_3)]
set_option maxRecDepth 100000 in
theorem ev_d_109 : ∀ q ∈ ev_c_109, ∀ z ∈ q.2, decode prog_1_method_10_code z.1 = .ok (z.2.1, z.2.2) := List.forall_mem_cons.mpr ⟨ev_d_109_0, List.forall_mem_cons.mpr ⟨ev_d_109_2, List.forall_mem_cons.mpr ⟨ev_d_109_3, fun _ h => absurd h List.not_mem_nil⟩⟩⟩
def ev_c_110_0 : List (Nat × Instr × Nat) := [(0, .aload_n 0, 1), (1, .iload_n 1, 1), (2, .invokevirtual 219, 3), (5, .iload_n 2, 1), (6, .iconst 0, 1), (7, .iconst 4, 1), (8, .invokestatic 97, 3), (11, .iload_n 2, 1), (12, .tableswitch 76 0 3 #[32, 45, 58, 67], 32)]
set_option maxRecDepth 100000 in
theorem ev_d_110_0 : ∀ q ∈ ev_c_110_0, decode prog_1_method_11_code q.1 = .ok (q.2.1, q.2.2) := by decide +kernel
def ev_c_110_1 : List (Nat × Instr × Nat) := [(44, .aload_n 0, 1), (45, .getfield 30, 3), (48, .getfield 101, 3), (51, .getfield 222, 3), (54, .iload_n 1, 1), (55, .iaload, 1), (56, .ireturn, 1), (57, .aload_n 0, 1), (58, .getfield 30, 3), (61, .getfield 85, 3)]
set_option maxRecDepth 100000 in
theorem ev_d_110_1 : ∀ q ∈ ev_c_110_1, decode prog_1_method_11_code q.1 = .ok (q.2.1, q.2.2) := by decide +kernel
def ev_c_110_2 : List (Nat × Instr × Nat) := [(64, .getfield 225, 3), (67, .iload_n 1, 1), (68, .iaload, 1), (69, .ireturn, 1), (70, .aload_n 0, 1), (71, .getfield 30, 3), (74, .iload_n 1, 1), (75, .invokevirtual 228, 3), (78, .ireturn, 1), (79, .aload_n 0, 1), (80, .getfield 30, 3), (83, .iload_n 1, 1), (84, .invokevirtual 231, 3), (87, .ireturn, 1), (88, .aload_n 0, 1), (89, .getfield 30, 3), (92, .iload_n 1, 1), (93, .invokevirtual 234, 3)]
set_option maxRecDepth 100000 in
theorem ev_d_110_2 : ∀ q ∈ ev_c_110_2, decode prog_1_method_11_code q.1 = .ok (q.2.1, q.2.2) := by decide +kernel
def ev_c_110_3 : List (Nat × Instr × Nat) := [(96, .ireturn, 1)]
set_option maxRecDepth 100000 in
theorem ev_d_110_3 : ∀ q ∈ ev_c_110_3, decode prog_1_method_11_code q.1 = .ok (q.2.1, q.2.2) := by decide +kernel
def ev_c_110 : List (Nat × List (Nat × Instr × Nat)) := [(0, ev_c_110_0), (1, ev_c_110_1), (2, ev_c_110_2), (3, ev_c_110_3)]
set_option maxRecDepth 100000 in
theorem ev_d_110 : ∀ q ∈ ev_c_110, ∀ z ∈ q.2, decode prog_1_method_11_code z.1 = .ok (z.2.1, z.2.2) := List.forall_mem_cons.mpr ⟨ev_d_110_0, List.forall_mem_cons.mpr ⟨ev_d_110_1, List.forall_mem_cons.mpr ⟨ev_d_110_2, List.forall_mem_cons.mpr ⟨ev_d_110_3, fun _ h => absurd h List.not_mem_nil⟩⟩⟩⟩
def ev_c_111_0 : List (Nat × Instr × Nat) := [(0, .aload_n 0, 1), (1, .iload_n 1, 1), (2, .invokevirtual 219, 3), (5, .iload_n 2, 1), (6, .ifCond .lt 34, 3), (9, .iload_n 2, 1), (10, .aload_n 0, 1), (11, .getfield 30, 3), (14, .getfield 85, 3), (17, .getfield 225, 3), (20, .iload_n 1, 1), (21, .iaload, 1), (22, .if_icmp .ge 18, 3), (25, .aload_n 0, 1), (26, .getfield 30, 3), (29, .getfield 85, 3)]
set_option maxRecDepth 100000 in
theorem ev_d_111_0 : ∀ q ∈ ev_c_111_0, decode prog_1_method_12_code q.1 = .ok (q.2.1, q.2.2) := by decide +kernel
def ev_c_111_1 : List (Nat × Instr × Nat) := [(32, .iload_n 1, 1), (33, .iload_n 2, 1), (34, .invokevirtual 237, 3), (37, .goto 4, 3), (40, .iconst (-1), 1), (41, .ireturn, 1)]
set_option maxRecDepth 100000 in
theorem ev_d_111_1 : ∀ q ∈ ev_c_111_1, decode prog_1_method_12_code q.1 = .ok (q.2.1, q.2.2) := by decide +kernel
def ev_c_111 : List (Nat × List (Nat × Instr × Nat)) := [(0, ev_c_111_0), (1, ev_c_111_1)]
set_option maxRecDepth 100000 in
theorem ev_d_111 : ∀ q ∈ ev_c_111, ∀ z ∈ q.2, decode prog_1_method_12_code z.1 = .ok (z.2.1, z.2.2) := List.forall_mem_cons.mpr ⟨ev_d_111_0, List.forall_mem_cons.mpr ⟨ev_d_111_1, fun _ h => absurd h List.not_mem_nil⟩⟩
def ev_c_112_0 : List (Nat × Instr × Nat) := [(0, .aload_n 0, 1), (1, .invokevirtual 94, 3), (4, .aload_n 0, 1), (5, .getfield 30, 3), (8, .getfield 101, 3), (11, .getfield 116, 3), (14, .aload_n 0, 1), (15, .getfield 30, 3), (18, .getfield 85, 3), (21, .iconst 2, 1), (22, .invokevirtual 125, 3), (25, .isub, 1), (26, .ireturn, 1)]
set_option maxRecDepth 100000 in
theorem ev_d_112_0 : ∀ q ∈ ev_c_112_0, decode prog_1_method_14_code q.1 = .ok (q.2.1, q.2.2) := by decide +kernel
def ev_c_112 : List (Nat × List (Nat × Instr × Nat)) := [(0, ev_c_112_0)]
set_option maxRecDepth 100000 in
theorem ev_d_112 : ∀ q ∈ ev_c_112, ∀ z ∈ q.2, decode prog_1_method_14_code z.1 = .ok (z.2.1, z.2.2) := List.forall_mem_cons.mpr ⟨ev_d_112_0, fun _ h => absurd h List.not_mem_nil⟩
def ev_c_113_0 : List (Nat × Instr × Nat) := [(0, .aload_n 0, 1), (1, .invokevirtual 94, 3), (4, .aload_n 0, 1), (5, .getfield 30, 3), (8, .invokevirtual 248, 3), (11, .ireturn, 1)]
set_option maxRecDepth 100000 in
theorem ev_d_113_0 : ∀ q ∈ ev_c_113_0, decode prog_1_method_16_code q.1 = .ok (q.2.1, q.2.2) := by decide +kernel
def ev_c_113 : List (Nat × List (Nat × Instr × Nat)) := [(0, ev_c_113_0)]
set_option maxRecDepth 100000 in
theorem ev_d_113 : ∀ q ∈ ev_c_113, ∀ z ∈ q.2, decode prog_1_method_16_code z.1 = .ok (z.2.1, z.2.2) := List.forall_mem_cons.mpr ⟨ev_d_113_0, fun _ h => absurd h List.not_mem_nil⟩
def ev_c_114_0 : List (Nat × Instr × Nat) := [(0, .aload_n 0, 1), (1, .iload_n 1, 1), (2, .invokevirtual 182, 3), (5, .aload_n 0, 1), (6, .getfield 30, 3), (9, .getfield 85, 3), (12, .getfield 185, 3), (15, .iload_n 1, 1), (16, .aaload, 1), (17, .invokevirtual 251, 3), (20, .ireturn, 1)]
set_option maxRecDepth 100000 in
theorem ev_d_114_0 : ∀ q ∈ ev_c_114_0, decode prog_1_method_17_code q.1 = .ok (q.2.1, q.2.2) := by decide +kernel
def ev_c_114 : List (Nat × List (Nat × Instr × Nat)) := [(0, ev_c_114_0)]
set_option maxRecDepth 100000 in
theorem ev_d_114 : ∀ q ∈ ev_c_114, ∀ z ∈ q.2, decode prog_1_method_17_code z.1 = .ok (z.2.1, z.2.2) := List.forall_mem_cons.mpr ⟨ev_d_114_0, fun _ h => absurd h List.not_mem_nil⟩
def ev_c_115_0 : List (Nat × Instr × Nat) := [(0, .aload_n 0, 1), (1, .iload_n 1, 1), (2, .invokevirtual 157, 3), (5, .aload_n 0, 1), (6, .getfield 30, 3), (9, .getfield 85, 3), (12, .iload_n 1, 1), (13, .invokevirtual 257, 3), (16, .ireturn, 1)]
set_option maxRecDepth 100000 in
theorem ev_d_115_0 : ∀ q ∈ ev_c_115_0, decode prog_1_method_19_code q.1 = .ok (q.2.1, q.2.2) := by decide +kernel
def ev_c_115 : List (Nat × List (Nat × Instr × Nat)) := [(0, ev_c_115_0)]
set_option maxRecDepth 100000 in
theorem ev_d_115 : ∀ q ∈ ev_c_115, ∀ z ∈ q.2, decode prog_1_method_19_code z.1 = .ok (z.2.1, z.2.2) := List.forall_mem_cons.mpr ⟨ev_d_115_0, fun _ h => absurd h List.not_mem_nil⟩
def ev_c_116_0 : List (Nat × Instr × Nat) := [(0, .aload_n 0, 1), (1, .iload_n 1, 1), (2, .invokevirtual 182, 3), (5, .aload_n 0, 1), (6, .iload_n 2, 1), (7, .invokevirtual 219, 3), (10, .aload_n 0, 1), (11, .getfield 30, 3), (14, .iload_n 1, 1), (15, .iload_n 2, 1), (16, .invokevirtual 260, 3), (19, .ireturn, 1)]
set_option maxRecDepth 100000 in
theorem ev_d_116_0 : ∀ q ∈ ev_c_116_0, decode prog_1_method_20_code q.1 = .ok (q.2.1, q.2.2) := by decide +kernel
def ev_c_116 : List (Nat × List (Nat × Instr × Nat)) := [(0, ev_c_116_0)]
set_option maxRecDepth 100000 in
theorem ev_d_116 : ∀ q ∈ ev_c_116, ∀ z ∈ q.2, decode prog_1_method_20_code z.1 = .ok (z.2.1, z.2.2) := List.forall_mem_cons.mpr ⟨ev_d_116_0, fun _ h => absurd h List.not_mem_nil⟩
def ev_c_117_0 : List (Nat × Instr × Nat) := [(0, .aload_n 0, 1), (1, .iload_n 1, 1), (2, .invokevirtual 219, 3), (5, .iload_n 2, 1), (6, .invokestatic 263, 3), (9, .aload_n 0, 1), (10, .getfield 30, 3), (13, .iload_n 1, 1), (14, .iload_n 2, 1), (15, .invokevirtual 266, 3), (18, .ireturn, 1)]
set_option maxRecDepth 100000 in
theorem ev_d_117_0 : ∀ q ∈ ev_c_117_0, decode prog_1_method_21_code q.1 = .ok (q.2.1, q.2.2) := by decide +kernel
def ev_c_117 : List (Nat × List (Nat × Instr × Nat)) := [(0, ev_c_117_0)]
set_option maxRecDepth 100000 in
theorem ev_d_117 : ∀ q ∈ ev_c_117, ∀ z ∈ q.2, decode prog_1_method_21_code z.1 = .ok (z.2.1, z.2.2) := List.forall_mem_cons.mpr ⟨ev_d_117_0, fun _ h => absurd h List.not_mem_nil⟩
def ev_c_118_0 : List (Nat × Instr × Nat) := [(0, .aload_n 0, 1), (1, .iload_n 1, 1), (2, .invokevirtual 182, 3), (5, .iload_n 2, 1), (6, .invokestatic 263, 3), (9, .aload_n 0, 1), (10, .getfield 30, 3), (13, .getfield 85, 3), (16, .getfield 185, 3), (19, .iload_n 1, 1), (20, .aaload, 1), (21, .iload_n 2, 1), (22, .invokevirtual 269, 3), (25, .ireturn, 1)]
set_option maxRecDepth 100000 in
theorem ev_d_118_0 : ∀ q ∈ ev_c_118_0, decode prog_1_method_22_code q.1 = .ok (q.2.1, q.2.2) := by decide +kernel
def ev_c_118 : List (Nat × List (Nat × Instr × Nat)) := [(0, ev_c_118_0)]
set_option maxRecDepth 100000 in
theorem ev_d_118 : ∀ q ∈ ev_c_118, ∀ z ∈ q.2, decode prog_1_method_22_code z.1 = .ok (z.2.1, z.2.2) := List.forall_mem_cons.mpr ⟨ev_d_118_0, fun _ h => absurd h List.not_mem_nil⟩
def ev_c_119_0 : List (Nat × Instr × Nat) := [(0, .aload_n 0, 1), (1, .iload_n 1, 1), (2, .invokevirtual 182, 3), (5, .aload_n 0, 1), (6, .getfield 30, 3), (9, .getfield 85, 3), (12, .getfield 185, 3), (15, .iload_n 1, 1), (16, .aaload, 1), (17, .invokevirtual 272, 3), (20, .ireturn, 1)]
set_option maxRecDepth 100000 in
theorem ev_d_119_0 : ∀ q ∈ ev_c_119_0, decode prog_1_method_23_code q.1 = .ok (q.2.1, q.2.2) := by decide +kernel
def ev_c_119 : List (Nat × List (Nat × Instr × Nat)) := [(0, ev_c_119_0)]
set_option maxRecDepth 100000 in
theorem ev_d_119 : ∀ q ∈ ev_c_119, ∀ z ∈ q.2, decode prog_1_method_23_code z.1 = .ok (z.2.1, z.2.2) := List.forall_mem_cons.mpr ⟨ev_d_119_0, fun _ h => absurd h List.not_mem_nil⟩
def ev_c_120_0 : List (Nat × Instr × Nat) := [(0, .aload_n 0, 1), (1, .iload_n 1, 1), (2, .invokevirtual 219, 3), (5, .iload_n 2, 1), (6, .invokestatic 263, 3), (9, .aload_n 0, 1), (10, .getfield 30, 3), (13, .iload_n 1, 1), (14, .aload_n 0, 1), (15, .getfield 30, 3), (18, .iload_n 1, 1), (19, .iload_n 2, 1), (20, .invokevirtual 275, 3), (23, .invokevirtual 278, 3), (26, .ireturn, 1)]
set_option maxRecDepth 100000 in
theorem ev_d_120_0 : ∀ q ∈ ev_c_120_0, decode prog_1_method_25_code q.1 = .ok (q.2.1, q.2.2) := by decide +kernel
def ev_c_120 : List (Nat × List (Nat × Instr × Nat)) := [(0, ev_c_120_0)]
set_option maxRecDepth 100000 in
theorem ev_d_120 : ∀ q ∈ ev_c_120, ∀ z ∈ q.2, decode prog_1_method_25_code z.1 = .ok (z.2.1, z.2.2) := List.forall_mem_cons.mpr ⟨ev_d_120_0, fun _ h => absurd h List.not_mem_nil⟩
def ev_c_121_0 : List (Nat × Instr × Nat) := [(0, .aload_n 0, 1), (1, .iload_n 1, 1), (2, .invokevirtual 219, 3), (5, .aload_n 0, 1), (6, .getfield 30, 3), (9, .iload_n 1, 1), (10, .invokevirtual 284, 3), (13, .ireturn, 1)]
set_option maxRecDepth 100000 in
theorem ev_d_121_0 : ∀ q ∈ ev_c_121_0, decode prog_1_method_27_code q.1 = .ok (q.2.1, q.2.2) := by decide +kernel
def ev_c_121 : List (Nat × List (Nat × Instr × Nat)) := [(0, ev_c_121_0)]
set_option maxRecDepth 100000 in
theorem ev_d_121 : ∀ q ∈ ev_c_121, ∀ z ∈ q.2, decode prog_1_method_27_code z.1 = .ok (z.2.1, z.2.2) := List.forall_mem_cons.mpr ⟨ev_d_121_0, fun _ h => absurd h List.not_mem_nil⟩
def ev_c_122_0 : List (Nat × Instr × Nat) := [(0, .aload_n 0, 1), (1, .iload_n 1, 1), (2, .invokevirtual 219, 3), (5, .iload_n 2, 1), (6, .invokestatic 263, 3), (9, .aload_n 0, 1), (10, .getfield 30, 3), (13, .iload_n 1, 1), (14, .iload_n 2, 1), (15, .invokevirtual 287, 3), (18, .ireturn, 1)]
set_option maxRecDepth 100000 in
theorem ev_d_122_0 : ∀ q ∈ ev_c_122_0, decode prog_1_method_28_code q.1 = .ok (q.2.1, q.2.2) := by decide +kernel
def ev_c_122 : List (Nat × List (Nat × Instr × Nat)) := [(0, ev_c_122_0)]
set_option maxRecDepth 100000 in
theorem ev_d_122 : ∀ q ∈ ev_c_122, ∀ z ∈ q.2, decode prog_1_method_28_code z.1 = .ok (z.2.1, z.2.2) := List.forall_mem_cons.mpr ⟨ev_d_122_0, fun _ h => absurd h List.not_mem_nil⟩
def ev_c_123_0 : List (Nat × Instr × Nat) := [(0, .aload_n 0, 1), (1, .iload_n 1, 1), (2, .invokevirtual 182, 3), (5, .aload_n 0, 1), (6, .getfield 30, 3), (9, .getfield 85, 3), (12, .iload_n 1, 1), (13, .aload_n 0, 1), (14, .getfield 30, 3), (17, .getfield 85, 3), (20, .getfield 122, 3), (23, .invokevirtual 303, 3), (26, .ireturn, 1)]
set_option maxRecDepth 100000 in
theorem ev_d_123_0 : ∀ q ∈ ev_c_123_0, decode prog_1_method_33_code q.1 = .ok (q.2.1, q.2.2) := by decide +kernel
def ev_c_123 : List (Nat × List (Nat × Instr × Nat)) := [(0, ev_c_123_0)]
set_option maxRecDepth 100000 in
theorem ev_d_123 : ∀ q ∈ ev_c_123, ∀ z ∈ q.2, decode prog_1_method_33_code z.1 = .ok (z.2.1, z.2.2) := List.forall_mem_cons.mpr ⟨ev_d_123_0, fun _ h => absurd h List.not_mem_nil⟩
def ev_c_124_0 : List (Nat × Instr × Nat) := [(0, .aload_n 0, 1), (1, .iload_n 1, 1), (2, .invokevirtual 182, 3), (5, .iload_n 2, 1), (6, .iconst 0, 1), (7, .bipush 9, 2), (9, .invokestatic 97, 3), (12, .aload_n 0, 1), (13, .getfield 30, 3), (16, .getfield 85, 3), (19, .iload_n 1, 1), (20, .iload_n 2, 1), (21, .invokevirtual 303, 3), (24, .ireturn, 1)]
set_option maxRecDepth 100000 in
theorem ev_d_124_0 : ∀ q ∈ ev_c_124_0, decode prog_1_method_34_code q.1 = .ok (q.2.1, q.2.2) := by decide +kernel
def ev_c_124 : List (Nat × List (Nat × Instr × Nat)) := [(0, ev_c_124_0)]
set_option maxRecDepth 100000 in
theorem ev_d_124 : ∀ q ∈ ev_c_124, ∀ z ∈ q.2, decode prog_1_method_34_code z.1 = .ok (z.2.1, z.2.2) := List.forall_mem_cons.mpr ⟨ev_d_124_0, fun _ h => absurd h List.not_mem_nil⟩
def ev_c_125_0 : List (Nat × Instr × Nat) := [(0, .aload_n 0, 1), (1, .invokevirtual 94, 3), (4, .iload_n 1, 1), (5, .iconst 0, 1), (6, .bipush 99, 2), (8, .invokestatic 97, 3), (11, .aload_n 0, 1), (12, .getfield 30, 3), (15, .getfield 85, 3), (18, .getfield 122, 3), (21, .bipush 7, 2), (23, .if_icmp .lt 21, 3), (26, .iload_n 1, 1), (27, .aload_n 0, 1), (28, .getfield 30, 3), (31, .getfield 85, 3)]
set_option maxRecDepth 100000 in
theorem ev_d_125_0 : ∀ q ∈ ev_c_125_0, decode prog_1_method_35_code q.1 = .ok (q.2.1, q.2.2) := by decide +kernel
def ev_c_125_1 : List (Nat × Instr × Nat) := [(34, .iconst 2, 1), (35, .invokevirtual 125, 3), (38, .invokestatic 306, 3), (41, .goto 4, 3), (44, .iconst 0, 1), (45, .ireturn, 1)]
set_option maxRecDepth 100000 in
theorem ev_d_125_1 : ∀ q ∈ ev_c_125_1, decode prog_1_method_35_code q.1 = .ok (q.2.1, q.2.2) := by decide +kernel
def ev_c_125 : List (Nat × List (Nat × Instr × Nat)) := [(0, ev_c_125_0), (1, ev_c_125_1)]
set_option maxRecDepth 100000 in
theorem ev_d_125 : ∀ q ∈ ev_c_125, ∀ z ∈ q.2, decode prog_1_method_35_code z.1 = .ok (z.2.1, z.2.2) := List.forall_mem_cons.mpr ⟨ev_d_125_0, List.forall_mem_cons.mpr ⟨ev_d_125_1, fun _ h => absurd h List.not_mem_nil⟩⟩
def ev_c_126_0 : List (Nat × Instr × Nat) := [(0, .aload_n 0, 1), (1, .iload_n 1, 1), (2, .invokevirtual 157, 3), (5, .iload_n 2, 1), (6, .iconst 0, 1), (7, .bipush 99, 2), (9, .invokestatic 97, 3), (12, .aload_n 0, 1), (13, .getfield 30, 3), (16, .iload_n 1, 1), (17, .iload_n 2, 1), (18, .invokevirtual 311, 3), (21, .ireturn, 1)]
set_option maxRecDepth 100000 in
theorem ev_d_126_0 : ∀ q ∈ ev_c_126_0, decode prog_1_method_36_code q.1 = .ok (q.2.1, q.2.2) := by decide +kernel
def ev_c_126 : List (Nat × List (Nat × Instr × Nat)) := [(0, ev_c_126_0)]
set_option maxRecDepth 100000 in
theorem ev_d_126 : ∀ q ∈ ev_c_126, ∀ z ∈ q.2, decode prog_1_method_36_code z.1 = .ok (z.2.1, z.2.2) := List.forall_mem_cons.mpr ⟨ev_d_126_0, fun _ h => absurd h List.not_mem_nil⟩
def ev_c_127_0 : List (Nat × Instr × Nat) := [(0, .aload_n 0, 1), (1, .iload_n 1, 1), (2, .invokevirtual 182, 3), (5, .iload_n 2, 1), (6, .invokestatic 263, 3), (9, .aload_n 0, 1), (10, .getfield 30, 3), (13, .getfield 85, 3), (16, .getfield 185, 3), (19, .iload_n 1, 1), (20, .aaload, 1), (21, .iload_n 2, 1), (22, .invokevirtual 320, 3), (25, .ireturn, 1)]
set_option maxRecDepth 100000 in
theorem ev_d_127_0 : ∀ q ∈ ev_c_127_0, decode prog_1_method_39_code q.1 = .ok (q.2.1, q.2.2) := by decide +kernel
def ev_c_127 : List (Nat × List (Nat × Instr × Nat)) := [(0, ev_c_127_0)]
set_option maxRecDepth 100000 in
theorem ev_d_127 : ∀ q ∈ ev_c_127, ∀ z ∈ q.2, decode prog_1_method_39_code z.1 = .ok (z.2.1, z.2.2) := List.forall_mem_cons.mpr ⟨ev_d_127_0, fun _ h => absurd h List.not_mem_nil⟩
def ev_c_128_0 : List (Nat × Instr × Nat) := [(0, .aload_n 0, 1), (1, .iload_n 1, 1), (2, .invokevirtual 182, 3), (5, .aload_n 0, 1), (6, .iload_n 2, 1), (7, .invokevirtual 219, 3), (10, .aload_n 0, 1), (11, .getfield 30, 3), (14, .iload_n 1, 1), (15, .iload_n 2, 1), (16, .invokevirtual 260, 3), (19, .ifCond .ne 7, 3), (22, .iconst 1, 1), (23, .goto 4, 3), (26, .iconst 0, 1), (27, .invokestatic 348, 3), (30, .aload_n 0, 1), (31, .getfield 47, 3)]
set_option maxRecDepth 100000 in
theorem ev_d_128_0 : ∀ q ∈ ev_c_128_0, decode prog_1_method_47_code q.1 = .ok (q.2.1, q.2.2) := by decide +kernel
def ev_c_128_1 : List (Nat × Instr × Nat) := [(34, .aload_n 0, 1), (35, .getfield 30, 3), (38, .getfield 85, 3), (41, .invokevirtual 352, 3), (44, .aload_n 0, 1), (45, .getfield 30, 3), (48, .getfield 85, 3), (51, .iload_n 1, 1), (52, .iload_n 2, 1), (53, .invokevirtual 356, 3), (56, .ireturn, 1)]
set_option maxRecDepth 100000 in
theorem ev_d_128_1 : ∀ q ∈ ev_c_128_1, decode prog_1_method_47_code q.1 = .ok (q.2.1, q.2.2) := by decide +kernel
def ev_c_128 : List (Nat × List (Nat × Instr × Nat)) := [(0, ev_c_128_0), (1, ev_c_128_1)]
set_option maxRecDepth 100000 in
theorem ev_d_128 : ∀ q ∈ ev_c_128, ∀ z ∈ q.2, decode prog_1_method_47_code z.1 = .ok (z.2.1, z.2.2) := List.forall_mem_cons.mpr ⟨ev_d_128_0, List.forall_mem_cons.mpr ⟨ev_d_128_1, fun _ h => absurd h List.not_mem_nil⟩⟩
def ev_c_129_0 : List (Nat × Instr × Nat) := [(0, .aload_n 0, 1), (1, .iload_n 1, 1), (2, .invokevirtual 219, 3), (5, .iload_n 2, 1), (6, .invokestatic 263, 3), (9, .aload_n 0, 1), (10, .getfield 30, 3), (13, .iload_n 1, 1), (14, .iload_n 2, 1), (15, .invokevirtual 266, 3), (18, .ifCond .ne 7, 3), (21, .iconst 1, 1), (22, .goto 4, 3), (25, .iconst 0, 1), (26, .invokestatic 348, 3), (29, .aload_n 0, 1), (30, .getfield 47, 3)]
set_option maxRecDepth 100000 in
theorem ev_d_129_0 : ∀ q ∈ ev_c_129_0, decode prog_1_method_48_code q.1 = .ok (q.2.1, q.2.2) := by decide +kernel
def ev_c_129_1 : List (Nat × Instr × Nat) := [(33, .aload_n 0, 1), (34, .getfield 30, 3), (37, .getfield 85, 3), (40, .invokevirtual 352, 3), (43, .aload_n 0, 1), (44, .getfield 30, 3), (47, .iload_n 1, 1), (48, .iload_n 2, 1), (49, .invokevirtual 359, 3), (52, .ireturn, 1)]
set_option maxRecDepth 100000 in
theorem ev_d_129_1 : ∀ q ∈ ev_c_129_1, decode prog_1_method_48_code q.1 = .ok (q.2.1, q.2.2) := by decide +kernel
def ev_c_129 : List (Nat × List (Nat × Instr × Nat)) := [(0, ev_c_129_0), (1, ev_c_129_1)]
set_option maxRecDepth 100000 in
theorem ev_d_129 : ∀ q ∈ ev_c_129, ∀ z ∈ q.2, decode prog_1_method_48_code z.1 = .ok (z.2.1, z.2.2) := List.forall_mem_cons.mpr ⟨ev_d_129_0, List.forall_mem_cons.mpr ⟨ev_d_129_1, fun _ h => absurd h List.not_mem_nil⟩⟩
