/-! code, by wip/gen/gen.py -/
def ev_c_130_0 : List (Nat × Instr × Nat) := [(0, .aload_n 0, 1), (1, .invokevirtual 94, 3), (4, .aload_n 0, 1), (5, .getfield 47, 3), (8, .aload_n 0, 1), (9, .getfield 30, 3), (12, .getfield 85, 3), (15, .invokevirtual 352, 3), (18, .aload_n 0, 1), (19, .getfield 30, 3), (22, .invokevirtual 368, 3), (25, .ireturn, 1)]
set_option maxRecDepth 100000 in
theorem ev_d_130_0 : ∀ q ∈ ev_c_130_0, decode prog_1_method_50_code q.1 = .ok (q.2.1, q.2.2) := by decide +kernel
def ev_c_130 : List (Nat × List (Nat × Instr × Nat)) := [(0, ev_c_130_0)]
set_option maxRecDepth 100000 in
theorem ev_d_130 : ∀ q ∈ ev_c_130, ∀ z ∈ q.2, decode prog_1_method_50_code z.1 = .ok (z.2.1, z.2.2) := List.forall_mem_cons.mpr ⟨ev_d_130_0, fun _ h => absurd h List.not_mem_nil⟩
def ev_c_131_0 : List (Nat × Instr × Nat) := [(0, .aload_n 0, 1), (1, .iload_n 1, 1), (2, .invokevirtual 182, 3), (5, .iload_n 2, 1), (6, .invokestatic 263, 3), (9, .aload_n 0, 1), (10, .getfield 30, 3), (13, .getfield 85, 3), (16, .getfield 185, 3), (19, .iload_n 1, 1), (20, .aaload, 1), (21, .astore_n 3, 1), (22, .aload_n 3, 1), (23, .iload_n 2, 1), (24, .invokevirtual 269, 3), (27, .ifCond .ne 7, 3), (30, .iconst 1, 1), (31, .goto 4, 3)]
set_option maxRecDepth 100000 in
theorem ev_d_131_0 : ∀ q ∈ ev_c_131_0, decode prog_1_method_53_code q.1 = .ok (q.2.1, q.2.2) := by decide +kernel
def ev_c_131_1 : List (Nat × Instr × Nat) := [(34, .iconst 0, 1), (35, .invokestatic 348, 3), (38, .aload_n 0, 1), (39, .getfield 47, 3), (42, .aload_n 0, 1), (43, .getfield 30, 3), (46, .getfield 85, 3), (49, .invokevirtual 352, 3), (52, .aload_n 3, 1), (53, .iload_n 2, 1), (54, .invokevirtual 377, 3), (57, .aload_n 3, 1), (58, .getfield 204, 3), (61, .ireturn, 1)]
set_option maxRecDepth 100000 in
theorem ev_d_131_1 : ∀ q ∈ ev_c_131_1, decode prog_1_method_53_code q.1 = .ok (q.2.1, q.2.2) := by decide +kernel
def ev_c_131 : List (Nat × List (Nat × Instr × Nat)) := [(0, ev_c_131_0), (1, ev_c_131_1)]
set_option maxRecDepth 100000 in
theorem ev_d_131 : ∀ q ∈ ev_c_131, ∀ z ∈ q.2, decode prog_1_method_53_code z.1 = .ok (z.2.1, z.2.2) := List.forall_mem_cons.mpr ⟨ev_d_131_0, List.forall_mem_cons.mpr ⟨ev_d_131_1, fun _ h => absurd h List.not_mem_nil⟩⟩
def ev_c_132_0 : List (Nat × Instr × Nat) := [(0, .aload_n 0, 1), (1, .iload_n 1, 1), (2, .invokevirtual 182, 3), (5, .aload_n 0, 1), (6, .getfield 30, 3), (9, .getfield 85, 3), (12, .getfield 185, 3), (15, .iload_n 1, 1), (16, .aaload, 1), (17, .astore_n 2, 1), (18, .aload_n 2, 1), (19, .invokevirtual 272, 3), (22, .ifCond .ne 7, 3), (25, .iconst 1, 1), (26, .goto 4, 3), (29, .iconst 0, 1), (30, .invokestatic 348, 3)]
set_option maxRecDepth 100000 in
theorem ev_d_132_0 : ∀ q ∈ ev_c_132_0, decode prog_1_method_54_code q.1 = .ok (q.2.1, q.2.2) := by decide +kernel
def ev_c_132_1 : List (Nat × Instr × Nat) := [(33, .aload_n 0, 1), (34, .getfield 47, 3), (37, .aload_n 0, 1), (38, .getfield 30, 3), (41, .getfield 85, 3), (44, .invokevirtual 352, 3), (47, .aload_n 2, 1), (48, .invokevirtual 380, 3), (51, .ireturn, 1)]
set_option maxRecDepth 100000 in
theorem ev_d_132_1 : ∀ q ∈ ev_c_132_1, decode prog_1_method_54_code q.1 = .ok (q.2.1, q.2.2) := by decide +kernel
def ev_c_132 : List (Nat × List (Nat × Instr × Nat)) := [(0, ev_c_132_0), (1, ev_c_132_1)]
set_option maxRecDepth 100000 in
theorem ev_d_132 : ∀ q ∈ ev_c_132, ∀ z ∈ q.2, decode prog_1_method_54_code z.1 = .ok (z.2.1, z.2.2) := List.forall_mem_cons.mpr ⟨ev_d_132_0, List.forall_mem_cons.mpr ⟨ev_d_132_1, fun _ h => absurd h List.not_mem_nil⟩⟩
def ev_c_133_0 : List (Nat × Instr × Nat) := [(0, .aload_n 0, 1), (1, .iload_n 1, 1), (2, .invokevirtual 157, 3), (5, .aload_n 0, 1), (6, .getfield 30, 3), (9, .iload_n 1, 1), (10, .invokevirtual 383, 3), (13, .invokestatic 348, 3), (16, .aload_n 0, 1), (17, .getfield 47, 3), (20, .aload_n 0, 1), (21, .getfield 30, 3), (24, .getfield 85, 3), (27, .invokevirtual 352, 3), (30, .aload_n 0, 1), (31, .getfield 30, 3)]
set_option maxRecDepth 100000 in
theorem ev_d_133_0 : ∀ q ∈ ev_c_133_0, decode prog_1_method_55_code q.1 = .ok (q.2.1, q.2.2) := by decide +kernel
def ev_c_133_1 : List (Nat × Instr × Nat) := [(34, .iload_n 1, 1), (35, .invokevirtual 386, 3), (38, .ireturn, 1)]
set_option maxRecDepth 100000 in
theorem ev_d_133_1 : ∀ q ∈ ev_c_133_1, decode prog_1_method_55_code q.1 = .ok (q.2.1, q.2.2) := by decide +kernel
def ev_c_133 : List (Nat × List (Nat × Instr × Nat)) := [(0, ev_c_133_0), (1, ev_c_133_1)]
set_option maxRecDepth 100000 in
theorem ev_d_133 : ∀ q ∈ ev_c_133, ∀ z ∈ q.2, decode prog_1_method_55_code z.1 = .ok (z.2.1, z.2.2) := List.forall_mem_cons.mpr ⟨ev_d_133_0, List.forall_mem_cons.mpr ⟨ev_d_133_1, fun _ h => absurd h List.not_mem_nil⟩⟩
def ev_c_134_0 : List (Nat × Instr × Nat) := [(0, .aload_n 0, 1), (1, .invokevirtual 94, 3), (4, .iload_n 1, 1), (5, .iconst 1, 1), (6, .bipush 50, 2), (8, .invokestatic 97, 3), (11, .aload_n 0, 1), (12, .getfield 47, 3), (15, .aload_n 0, 1), (16, .getfield 30, 3), (19, .getfield 85, 3), (22, .invokevirtual 352, 3), (25, .aload_n 0, 1), (26, .getfield 30, 3), (29, .getfield 85, 3)]
set_option maxRecDepth 100000 in
theorem ev_d_134_0 : ∀ q ∈ ev_c_134_0, decode prog_1_method_56_code q.1 = .ok (q.2.1, q.2.2) := by decide +kernel
def ev_c_134_1 : List (Nat × Instr × Nat) := [(32, .iload_n 1, 1), (33, .invokevirtual 389, 3), (36, .ireturn, 1)]
set_option maxRecDepth 100000 in
theorem ev_d_134_1 : ∀ q ∈ ev_c_134_1, decode prog_1_method_56_code q.1 = .ok (q.2.1, q.2.2) := by decide +kernel
def ev_c_134 : List (Nat × List (Nat × Instr × Nat)) := [(0, ev_c_134_0), (1, ev_c_134_1)]
set_option maxRecDepth 100000 in
theorem ev_d_134 : ∀ q ∈ ev_c_134, ∀ z ∈ q.2, decode prog_1_method_56_code z.1 = .ok (z.2.1, z.2.2) := List.forall_mem_cons.mpr ⟨ev_d_134_0, List.forall_mem_cons.mpr ⟨ev_d_134_1, fun _ h => absurd h List.not_mem_nil⟩⟩
def ev_c_135_0 : List (Nat × Instr × Nat) := [(0, .aload_n 0, 1), (1, .invokevirtual 94, 3), (4, .iload_n 1, 1), (5, .iconst 0, 1), (6, .bipush 9, 2), (8, .invokestatic 97, 3), (11, .aload_n 0, 1), (12, .getfield 47, 3), (15, .aload_n 0, 1), (16, .getfield 30, 3), (19, .getfield 85, 3), (22, .invokevirtual 352, 3), (25, .aload_n 0, 1), (26, .getfield 30, 3), (29, .getfield 85, 3)]
set_option maxRecDepth 100000 in
theorem ev_d_135_0 : ∀ q ∈ ev_c_135_0, decode prog_1_method_57_code q.1 = .ok (q.2.1, q.2.2) := by decide +kernel
def ev_c_135_1 : List (Nat × Instr × Nat) := [(32, .getfield 122, 3), (35, .istore_n 2, 1), (36, .aload_n 0, 1), (37, .getfield 30, 3), (40, .getfield 85, 3), (43, .iload_n 1, 1), (44, .putfield 122, 3), (47, .iload_n 2, 1), (48, .ireturn, 1)]
set_option maxRecDepth 100000 in
theorem ev_d_135_1 : ∀ q ∈ ev_c_135_1, decode prog_1_method_57_code q.1 = .ok (q.2.1, q.2.2) := by decide +kernel
def ev_c_135 : List (Nat × List (Nat × Instr × Nat)) := [(0, ev_c_135_0), (1, ev_c_135_1)]
set_option maxRecDepth 100000 in
theorem ev_d_135 : ∀ q ∈ ev_c_135, ∀ z ∈ q.2, decode prog_1_method_57_code z.1 = .ok (z.2.1, z.2.2) := List.forall_mem_cons.mpr ⟨ev_d_135_0, List.forall_mem_cons.mpr ⟨ev_d_135_1, fun _ h => absurd h List.not_mem_nil⟩⟩
def ev_c_136_0 : List (Nat × Instr × Nat) := [(0, .aload_n 0, 1), (1, .getfield 47, 3), (4, .getfield 399, 3), (7, .ireturn, 1)]
set_option maxRecDepth 100000 in
theorem ev_d_136_0 : ∀ q ∈ ev_c_136_0, decode prog_1_method_60_code q.1 = .ok (q.2.1, q.2.2) := by decide +kernel
def ev_c_136 : List (Nat × List (Nat × Instr × Nat)) := [(0, ev_c_136_0)]
set_option maxRecDepth 100000 in
theorem ev_d_136 : ∀ q ∈ ev_c_136, ∀ z ∈ q.2, decode prog_1_method_60_code z.1 = .ok (z.2.1, z.2.2) := List.forall_mem_cons.mpr ⟨ev_d_136_0, fun _ h => absurd h List.not_mem_nil⟩
def ev_c_137_0 : List (Nat × Instr × Nat) := [(0, .aload_n 0, 1), (1, .invokevirtual 94, 3), (4, .iload_n 1, 1), (5, .invokestatic 410, 3), (8, .aload_n 0, 1), (9, .getfield 47, 3), (12, .iload_n 1, 1), (13, .aload_n 0, 1), (14, .getfield 30, 3), (17, .getfield 85, 3), (20, .invokevirtual 413, 3), (23, .aload_n 0, 1), (24, .getfield 30, 3), (27, .getfield 85, 3), (30, .getfield 119, 3)]
set_option maxRecDepth 100000 in
theorem ev_d_137_0 : ∀ q ∈ ev_c_137_0, decode prog_1_method_61_code q.1 = .ok (q.2.1, q.2.2) := by decide +kernel
def ev_c_137_1 : List (Nat × Instr × Nat) := [(33, .ireturn, 1)]
set_option maxRecDepth 100000 in
theorem ev_d_137_1 : ∀ q ∈ ev_c_137_1, decode prog_1_method_61_code q.1 = .ok (q.2.1, q.2.2) := by decide +kernel
def ev_c_137 : List (Nat × List (Nat × Instr × Nat)) := [(0, ev_c_137_0), (1, ev_c_137_1)]
set_option maxRecDepth 100000 in
theorem ev_d_137 : ∀ q ∈ ev_c_137, ∀ z ∈ q.2, decode prog_1_method_61_code z.1 = .ok (z.2.1, z.2.2) := List.forall_mem_cons.mpr ⟨ev_d_137_0, List.forall_mem_cons.mpr ⟨ev_d_137_1, fun _ h => absurd h List.not_mem_nil⟩⟩
def ev_c_138_0 : List (Nat × Instr × Nat) := [(0, .iload_n 1, 1), (1, .invokestatic 410, 3), (4, .aload_n 0, 1), (5, .getfield 47, 3), (8, .getfield 417, 3), (11, .iload_n 1, 1), (12, .baload, 1), (13, .ifCond .ne 14, 3), (16, .new 402, 3), (19, .dup, 1), (20, .ldc_w 421, 3), (23, .invokespecial 406, 3), (26, .athrow, 1), (27, .aload_n 0, 1), (28, .getfield 47, 3), (31, .iload_n 1, 1)]
set_option maxRecDepth 100000 in
theorem ev_d_138_0 : ∀ q ∈ ev_c_138_0, decode prog_1_method_62_code q.1 = .ok (q.2.1, q.2.2) := by decide +kernel
def ev_c_138_1 : List (Nat × Instr × Nat) := [(32, .aload_n 0, 1), (33, .getfield 30, 3), (36, .getfield 85, 3), (39, .invokevirtual 423, 3), (42, .aload_n 0, 1), (43, .getfield 30, 3), (46, .getfield 85, 3), (49, .getfield 119, 3), (52, .ireturn, 1)]
set_option maxRecDepth 100000 in
theorem ev_d_138_1 : ∀ q ∈ ev_c_138_1, decode prog_1_method_62_code q.1 = .ok (q.2.1, q.2.2) := by decide +kernel
def ev_c_138 : List (Nat × List (Nat × Instr × Nat)) := [(0, ev_c_138_0), (1, ev_c_138_1)]
set_option maxRecDepth 100000 in
theorem ev_d_138 : ∀ q ∈ ev_c_138, ∀ z ∈ q.2, decode prog_1_method_62_code z.1 = .ok (z.2.1, z.2.2) := List.forall_mem_cons.mpr ⟨ev_d_138_0, List.forall_mem_cons.mpr ⟨ev_d_138_1, fun _ h => absurd h List.not_mem_nil⟩⟩
def ev_c_139_0 : List (Nat × Instr × Nat) := [(0, .aload_n 0, 1), (1, .getfield 23, 3), (4, .ifCond .ne 14, 3), (7, .new 402, 3), (10, .dup, 1), (11, .ldc_w 426, 3), (14, .invokespecial 406, 3), (17, .athrow, 1), (18, .return_, 1)]
set_option maxRecDepth 100000 in
theorem ev_d_139_0 : ∀ q ∈ ev_c_139_0, decode prog_1_method_63_code q.1 = .ok (q.2.1, q.2.2) := by decide +kernel
def ev_c_139 : List (Nat × List (Nat × Instr × Nat)) := [(0, ev_c_139_0)]
set_option maxRecDepth 100000 in
theorem ev_d_139 : ∀ q ∈ ev_c_139, ∀ z ∈ q.2, decode prog_1_method_63_code z.1 = .ok (z.2.1, z.2.2) := List.forall_mem_cons.mpr ⟨ev_d_139_0, fun _ h => absurd h List.not_mem_nil⟩
def ev_c_140_0 : List (Nat × Instr × Nat) := [(0, .aload_n 0, 1), (1, .invokevirtual 94, 3), (4, .iload_n 1, 1), (5, .ifCond .lt 17, 3), (8, .iload_n 1, 1), (9, .aload_n 0, 1), (10, .getfield 30, 3), (13, .getfield 85, 3), (16, .getfield 89, 3), (19, .if_icmp .lt 14, 3), (22, .new 62, 3), (25, .dup, 1), (26, .ldc_w 428, 3), (29, .invokespecial 66, 3)]
set_option maxRecDepth 100000 in
theorem ev_d_140_0 : ∀ q ∈ ev_c_140_0, decode prog_1_method_64_code q.1 = .ok (q.2.1, q.2.2) := by decide +kernel
def ev_c_140_1 : List (Nat × Instr × Nat) := [(32, .athrow, 1), (33, .return_, 1)]
set_option maxRecDepth 100000 in
theorem ev_d_140_1 : ∀ q ∈ ev_c_140_1, decode prog_1_method_64_code q.1 = .ok (q.2.1, q.2.2) := by decide +kernel
def ev_c_140 : List (Nat × List (Nat × Instr × Nat)) := [(0, ev_c_140_0), (1, ev_c_140_1)]
set_option maxRecDepth 100000 in
theorem ev_d_140 : ∀ q ∈ ev_c_140, ∀ z ∈ q.2, decode prog_1_method_64_code z.1 = .ok (z.2.1, z.2.2) := List.forall_mem_cons.mpr ⟨ev_d_140_0, List.forall_mem_cons.mpr ⟨ev_d_140_1, fun _ h => absurd h List.not_mem_nil⟩⟩
def ev_c_141_0 : List (Nat × Instr × Nat) := [(0, .aload_n 0, 1), (1, .invokevirtual 94, 3), (4, .iload_n 1, 1), (5, .ifCond .lt 17, 3), (8, .iload_n 1, 1), (9, .aload_n 0, 1), (10, .getfield 30, 3), (13, .getfield 101, 3), (16, .getfield 113, 3), (19, .if_icmp .lt 14, 3), (22, .new 62, 3), (25, .dup, 1), (26, .ldc_w 430, 3), (29, .invokespecial 66, 3)]
set_option maxRecDepth 100000 in
theorem ev_d_141_0 : ∀ q ∈ ev_c_141_0, decode prog_1_method_65_code q.1 = .ok (q.2.1, q.2.2) := by decide +kernel
def ev_c_141_1 : List (Nat × Instr × Nat) := [(32, .athrow, 1), (33, .return_, 1)]
set_option maxRecDepth 100000 in
theorem ev_d_141_1 : ∀ q ∈ ev_c_141_1, decode prog_1_method_65_code q.1 = .ok (q.2.1, q.2.2) := by decide +kernel
def ev_c_141 : List (Nat × List (Nat × Instr × Nat)) := [(0, ev_c_141_0), (1, ev_c_141_1)]
set_option maxRecDepth 100000 in
theorem ev_d_141 : ∀ q ∈ ev_c_141, ∀ z ∈ q.2, decode prog_1_method_65_code z.1 = .ok (z.2.1, z.2.2) := List.forall_mem_cons.mpr ⟨ev_d_141_0, List.forall_mem_cons.mpr ⟨ev_d_141_1, fun _ h => absurd h List.not_mem_nil⟩⟩
def ev_c_142_0 : List (Nat × Instr × Nat) := [(0, .aload_n 0, 1), (1, .invokevirtual 94, 3), (4, .iload_n 1, 1), (5, .ifCond .lt 17, 3), (8, .iload_n 1, 1), (9, .aload_n 0, 1), (10, .getfield 30, 3), (13, .getfield 101, 3), (16, .getfield 110, 3), (19, .if_icmp .lt 14, 3), (22, .new 62, 3), (25, .dup, 1), (26, .ldc_w 432, 3), (29, .invokespecial 66, 3)]
set_option maxRecDepth 100000 in
theorem ev_d_142_0 : ∀ q ∈ ev_c_142_0, decode prog_1_method_66_code q.1 = .ok (q.2.1, q.2.2) := by decide +kernel
def ev_c_142_1 : List (Nat × Instr × Nat) := [(32, .athrow, 1), (33, .return_, 1)]
set_option maxRecDepth 100000 in
theorem ev_d_142_1 : ∀ q ∈ ev_c_142_1, decode prog_1_method_66_code q.1 = .ok (q.2.1, q.2.2) := by decide +kernel
def ev_c_142 : List (Nat × List (Nat × Instr × Nat)) := [(0, ev_c_142_0), (1, ev_c_142_1)]
set_option maxRecDepth 100000 in
theorem ev_d_142 : ∀ q ∈ ev_c_142, ∀ z ∈ q.2, decode prog_1_method_66_code z.1 = .ok (z.2.1, z.2.2) := List.forall_mem_cons.mpr ⟨ev_d_142_0, List.forall_mem_cons.mpr ⟨ev_d_142_1, fun _ h => absurd h List.not_mem_nil⟩⟩
def ev_c_143_0 : List (Nat × Instr × Nat) := [(0, .iload_n 0, 1), (1, .ifCond .lt 8, 3), (4, .iload_n 0, 1), (5, .iconst 2, 1), (6, .if_icmp .lt 14, 3), (9, .new 62, 3), (12, .dup, 1), (13, .ldc_w 434, 3), (16, .invokespecial 66, 3), (19, .athrow, 1), (20, .return_, 1)]
set_option maxRecDepth 100000 in
theorem ev_d_143_0 : ∀ q ∈ ev_c_143_0, decode prog_1_method_67_code q.1 = .ok (q.2.1, q.2.2) := by decide +kernel
def ev_c_143 : List (Nat × List (Nat × Instr × Nat)) := [(0, ev_c_143_0)]
set_option maxRecDepth 100000 in
theorem ev_d_143 : ∀ q ∈ ev_c_143, ∀ z ∈ q.2, decode prog_1_method_67_code z.1 = .ok (z.2.1, z.2.2) := List.forall_mem_cons.mpr ⟨ev_d_143_0, fun _ h => absurd h List.not_mem_nil⟩
def ev_c_144_0 : List (Nat × Instr × Nat) := [(0, .iload_n 0, 1), (1, .iconst 0, 1), (2, .iconst 3, 1), (3, .invokestatic 97, 3), (6, .return_, 1)]
set_option maxRecDepth 100000 in
theorem ev_d_144_0 : ∀ q ∈ ev_c_144_0, decode prog_1_method_68_code q.1 = .ok (q.2.1, q.2.2) := by decide +kernel
def ev_c_144 : List (Nat × List (Nat × Instr × Nat)) := [(0, ev_c_144_0)]
set_option maxRecDepth 100000 in
theorem ev_d_144 : ∀ q ∈ ev_c_144, ∀ z ∈ q.2, decode prog_1_method_68_code z.1 = .ok (z.2.1, z.2.2) := List.forall_mem_cons.mpr ⟨ev_d_144_0, fun _ h => absurd h List.not_mem_nil⟩
def ev_c_145_0 : List (Nat × Instr × Nat) := [(0, .iload_n 0, 1), (1, .iload_n 1, 1), (2, .if_icmp .lt 8, 3), (5, .iload_n 0, 1), (6, .iload_n 2, 1), (7, .if_icmp .le 14, 3), (10, .new 77, 3), (13, .dup, 1), (14, .ldc_w 436, 3), (17, .invokespecial 81, 3), (20, .athrow, 1), (21, .return_, 1)]
set_option maxRecDepth 100000 in
theorem ev_d_145_0 : ∀ q ∈ ev_c_145_0, decode prog_1_method_69_code q.1 = .ok (q.2.1, q.2.2) := by decide +kernel
def ev_c_145 : List (Nat × List (Nat × Instr × Nat)) := [(0, ev_c_145_0)]
set_option maxRecDepth 100000 in
theorem ev_d_145 : ∀ q ∈ ev_c_145, ∀ z ∈ q.2, decode prog_1_method_69_code z.1 = .ok (z.2.1, z.2.2) := List.forall_mem_cons.mpr ⟨ev_d_145_0, fun _ h => absurd h List.not_mem_nil⟩
def ev_c_146_0 : List (Nat × Instr × Nat) := [(0, .iload_n 0, 1), (1, .ifCond .ne 14, 3), (4, .new 77, 3), (7, .dup, 1), (8, .ldc_w 438, 3), (11, .invokespecial 81, 3), (14, .athrow, 1), (15, .return_, 1)]
set_option maxRecDepth 100000 in
theorem ev_d_146_0 : ∀ q ∈ ev_c_146_0, decode prog_1_method_70_code q.1 = .ok (q.2.1, q.2.2) := by decide +kernel
def ev_c_146 : List (Nat × List (Nat × Instr × Nat)) := [(0, ev_c_146_0)]
set_option maxRecDepth 100000 in
theorem ev_d_146 : ∀ q ∈ ev_c_146, ∀ z ∈ q.2, decode prog_1_method_70_code z.1 = .ok (z.2.1, z.2.2) := List.forall_mem_cons.mpr ⟨ev_d_146_0, fun _ h => absurd h List.not_mem_nil⟩
def ev_c_147_0 : List (Nat × Instr × Nat) := [(0, .bipush 24, 2), (2, .istore_n 2, 1), (3, .iload_n 2, 1), (4, .ifCond .lt 32, 3), (7, .aload_n 0, 1), (8, .getfield 9, 3), (11, .aload_n 0, 1), (12, .getfield 13, 3), (15, .iload_n 1, 1), (16, .iload_n 2, 1), (17, .ishr, 1), (18, .i2b, 1), (19, .bastore, 1), (20, .aload_n 0, 1), (21, .dup, 1), (22, .getfield 13, 3), (25, .iconst 1, 1), (26, .iadd, 1), (27, .putfield 13, 3), (30, .iinc 2 (-8), 3)]
set_option maxRecDepth 100000 in
theorem ev_d_147_0 : ∀ q ∈ ev_c_147_0, decode prog_1_method_71_code q.1 = .ok (q.2.1, q.2.2) := by decide +kernel
def ev_c_147_1 : List (Nat × Instr × Nat) := [(33, .goto (-30), 3), (36, .return_, 1)]
set_option maxRecDepth 100000 in
theorem ev_d_147_1 : ∀ q ∈ ev_c_147_1, decode prog_1_method_71_code q.1 = .ok (q.2.1, q.2.2) := by decide +kernel
def ev_c_147 : List (Nat × List (Nat × Instr × Nat)) := [(0, ev_c_147_0), (1, ev_c_147_1)]
set_option maxRecDepth 100000 in
theorem ev_d_147 : ∀ q ∈ ev_c_147, ∀ z ∈ q.2, decode prog_1_method_71_code z.1 = .ok (z.2.1, z.2.2) := List.forall_mem_cons.mpr ⟨ev_d_147_0, List.forall_mem_cons.mpr ⟨ev_d_147_1, fun _ h => absurd h List.not_mem_nil⟩⟩
def ev_c_148_0 : List (Nat × Instr × Nat) := [(0, .aload_n 0, 1), (1, .invokespecial 1, 3), (4, .aload_n 0, 1), (5, .new 7, 3), (8, .dup, 1), (9, .invokespecial 9, 3), (12, .putfield 10, 3), (15, .return_, 1)]
set_option maxRecDepth 100000 in
theorem ev_d_148_0 : ∀ q ∈ ev_c_148_0, decode prog_10_method_1_code q.1 = .ok (q.2.1, q.2.2) := by decide +kernel
def ev_c_148 : List (Nat × List (Nat × Instr × Nat)) := [(0, ev_c_148_0)]
set_option maxRecDepth 100000 in
theorem ev_d_148 : ∀ q ∈ ev_c_148, ∀ z ∈ q.2, decode prog_10_method_1_code z.1 = .ok (z.2.1, z.2.2) := List.forall_mem_cons.mpr ⟨ev_d_148_0, fun _ h => absurd h List.not_mem_nil⟩
def ev_c_149_0 : List (Nat × Instr × Nat) := [(0, .iconst 0, 1), (1, .istore_n 2, 1), (2, .iconst 0, 1), (3, .istore_n 3, 1), (4, .iload_n 3, 1), (5, .aload_n 0, 1), (6, .getfield 10, 3), (9, .invokevirtual 58, 3), (12, .if_icmp .ge 30, 3), (15, .aload_n 0, 1), (16, .getfield 10, 3), (19, .iload_n 3, 1), (20, .invokevirtual 62, 3), (23, .checkcast 66, 3), (26, .getfield 76, 3), (29, .iload_n 1, 1), (30, .if_icmp .ne 6, 3)]
set_option maxRecDepth 100000 in
theorem ev_d_149_0 : ∀ q ∈ ev_c_149_0, decode prog_10_method_3_code q.1 = .ok (q.2.1, q.2.2) := by decide +kernel
def ev_c_149_1 : List (Nat × Instr × Nat) := [(33, .iinc 2 1, 3), (36, .iinc 3 1, 3), (39, .goto (-35), 3), (42, .iload_n 2, 1), (43, .ireturn, 1)]
set_option maxRecDepth 100000 in
theorem ev_d_149_1 : ∀ q ∈ ev_c_149_1, decode prog_10_method_3_code q.1 = .ok (q.2.1, q.2.2) := by decide +kernel
def ev_c_149 : List (Nat × List (Nat × Instr × Nat)) := [(0, ev_c_149_0), (1, ev_c_149_1)]
set_option maxRecDepth 100000 in
theorem ev_d_149 : ∀ q ∈ ev_c_149, ∀ z ∈ q.2, decode prog_10_method_3_code z.1 = .ok (z.2.1, z.2.2) := List.forall_mem_cons.mpr ⟨ev_d_149_0, List.forall_mem_cons.mpr ⟨ev_d_149_1, fun _ h => absurd h List.not_mem_nil⟩⟩
def ev_c_150_0 : List (Nat × Instr × Nat) := [(0, .iconst 0, 1), (1, .istore_n 3, 1), (2, .iconst 0, 1), (3, .istore 4, 2), (5, .iload 4, 2), (7, .aload_n 0, 1), (8, .getfield 42, 3), (11, .arraylength, 1), (12, .if_icmp .ge 37, 3), (15, .iload_n 1, 1), (16, .iload 4, 2), (18, .ishr, 1), (19, .iconst 1, 1), (20, .iand, 1), (21, .iconst 1, 1), (22, .if_icmp .ne 21, 3), (25, .aload_n 0, 1), (26, .getfield 42, 3), (29, .iload 4, 2), (31, .iaload, 1)]
set_option maxRecDepth 100000 in
theorem ev_d_150_0 : ∀ q ∈ ev_c_150_0, decode prog_10_method_6_code q.1 = .ok (q.2.1, q.2.2) := by decide +kernel
def ev_c_150_1 : List (Nat × Instr × Nat) := [(32, .iload_n 2, 1), (33, .if_icmp .gt 10, 3), (36, .iload_n 3, 1), (37, .iconst 1, 1), (38, .iload 4, 2), (40, .ishl, 1), (41, .ior, 1), (42, .istore_n 3, 1), (43, .iinc 4 1, 3), (46, .goto (-41), 3), (49, .iload_n 3, 1), (50, .ireturn, 1)]
set_option maxRecDepth 100000 in
theorem ev_d_150_1 : ∀ q ∈ ev_c_150_1, decode prog_10_method_6_code q.1 = .ok (q.2.1, q.2.2) := by decide +kernel
def ev_c_150 : List (Nat × List (Nat × Instr × Nat)) := [(0, ev_c_150_0), (1, ev_c_150_1)]
set_option maxRecDepth 100000 in
theorem ev_d_150 : ∀ q ∈ ev_c_150, ∀ z ∈ q.2, decode prog_10_method_6_code z.1 = .ok (z.2.1, z.2.2) := List.forall_mem_cons.mpr ⟨ev_d_150_0, List.forall_mem_cons.mpr ⟨ev_d_150_1, fun _ h => absurd h List.not_mem_nil⟩⟩
def ev_c_151_0 : List (Nat × Instr × Nat) := [(0, .iconst 0, 1), (1, .istore_n 3, 1), (2, .iconst 0, 1), (3, .istore 4, 2), (5, .iload 4, 2), (7, .aload_n 0, 1), (8, .getfield 10, 3), (11, .invokevirtual 58, 3), (14, .if_icmp .ge 62, 3), (17, .aload_n 0, 1), (18, .getfield 10, 3), (21, .iload 4, 2), (23, .invokevirtual 62, 3), (26, .checkcast 66, 3), (29, .getfield 76, 3)]
set_option maxRecDepth 100000 in
theorem ev_d_151_0 : ∀ q ∈ ev_c_151_0, decode prog_10_method_7_code q.1 = .ok (q.2.1, q.2.2) := by decide +kernel
def ev_c_151_1 : List (Nat × Instr × Nat) := [(32, .iload_n 1, 1), (33, .if_icmp .ne 37, 3), (36, .iload_n 3, 1), (37, .aload_n 0, 1), (38, .getfield 10, 3), (41, .iload 4, 2), (43, .invokevirtual 62, 3), (46, .checkcast 66, 3), (49, .getfield 94, 3), (52, .aload_n 0, 1), (53, .getfield 10, 3), (56, .iload 4, 2), (58, .invokevirtual 62, 3), (61, .checkcast 66, 3)]
set_option maxRecDepth 100000 in
theorem ev_d_151_1 : ∀ q ∈ ev_c_151_1, decode prog_10_method_7_code q.1 = .ok (q.2.1, q.2.2) := by decide +kernel
def ev_c_151_2 : List (Nat × Instr × Nat) := [(64, .getfield 97, 3), (67, .ior, 1), (68, .ior, 1), (69, .istore_n 3, 1), (70, .iinc 4 1, 3), (73, .goto (-68), 3), (76, .aload_n 0, 1), (77, .iload_n 3, 1), (78, .iload_n 2, 1), (79, .invokevirtual 100, 3), (82, .ireturn, 1)]
set_option maxRecDepth 100000 in
theorem ev_d_151_2 : ∀ q ∈ ev_c_151_2, decode prog_10_method_7_code q.1 = .ok (q.2.1, q.2.2) := by decide +kernel
def ev_c_151 : List (Nat × List (Nat × Instr × Nat)) := [(0, ev_c_151_0), (1, ev_c_151_1), (2, ev_c_151_2)]
set_option maxRecDepth 100000 in
theorem ev_d_151 : ∀ q ∈ ev_c_151, ∀ z ∈ q.2, decode prog_10_method_7_code z.1 = .ok (z.2.1, z.2.2) := List.forall_mem_cons.mpr ⟨ev_d_151_0, List.forall_mem_cons.mpr ⟨ev_d_151_1, List.forall_mem_cons.mpr ⟨ev_d_151_2, fun _ h => absurd h List.not_mem_nil⟩⟩⟩
def ev_c_152_0 : List (Nat × Instr × Nat) := [(0, .aload_n 0, 1), (1, .iload_n 1, 1), (2, .iload_n 2, 1), (3, .invokevirtual 103, 3), (6, .istore_n 3, 1), (7, .iconst 0, 1), (8, .istore 4, 2), (10, .iconst 0, 1), (11, .istore 5, 2), (13, .iload 5, 2), (15, .aload_n 0, 1), (16, .getfield 10, 3), (19, .invokevirtual 58, 3), (22, .if_icmp .ge 126, 3), (25, .aload_n 0, 1), (26, .getfield 10, 3), (29, .iload 5, 2), (31, .invokevirtual 62, 3)]
set_option maxRecDepth 100000 in
theorem ev_d_152_0 : ∀ q ∈ ev_c_152_0, decode prog_10_method_8_code q.1 = .ok (q.2.1, q.2.2) := by decide +kernel
def ev_c_152_1 : List (Nat × Instr × Nat) := [(34, .checkcast 66, 3), (37, .astore 6, 2), (39, .aload 6, 2), (41, .getfield 76, 3), (44, .iload_n 1, 1), (45, .if_icmp .eq 6, 3), (48, .goto 94, 3), (51, .aload 6, 2), (53, .getfield 97, 3), (56, .istore 7, 2), (58, .aload 6, 2), (60, .dup, 1), (61, .getfield 97, 3)]
set_option maxRecDepth 100000 in
theorem ev_d_152_1 : ∀ q ∈ ev_c_152_1, decode prog_10_method_8_code q.1 = .ok (q.2.1, q.2.2) := by decide +kernel
def ev_c_152_2 : List (Nat × Instr × Nat) := [(64, .iload_n 3, 1), (65, .aload 6, 2), (67, .getfield 94, 3), (70, .iconst (-1), 1), (71, .ixor, 1), (72, .iand, 1), (73, .ior, 1), (74, .putfield 97, 3), (77, .aload 6, 2), (79, .getfield 97, 3), (82, .iload 7, 2), (84, .if_icmp .eq 6, 3), (87, .iinc 4 1, 3), (90, .aload 6, 2), (92, .iconst 0, 1), (93, .aload 6, 2), (95, .getfield 106, 3)]
set_option maxRecDepth 100000 in
theorem ev_d_152_2 : ∀ q ∈ ev_c_152_2, decode prog_10_method_8_code q.1 = .ok (q.2.1, q.2.2) := by decide +kernel
def ev_c_152_3 : List (Nat × Instr × Nat) := [(98, .iconst 1, 1), (99, .isub, 1), (100, .iload_n 2, 1), (101, .isub, 1), (102, .iload_n 2, 1), (103, .isub, 1), (104, .invokestatic 109, 3), (107, .putfield 106, 3), (110, .aload 6, 2), (112, .bipush 9, 2), (114, .putfield 112, 3), (117, .aload 6, 2), (119, .bipush 9, 2), (121, .aload 6, 2), (123, .getfield 115, 3), (126, .iconst 1, 1), (127, .iadd, 1)]
set_option maxRecDepth 100000 in
theorem ev_d_152_3 : ∀ q ∈ ev_c_152_3, decode prog_10_method_8_code q.1 = .ok (q.2.1, q.2.2) := by decide +kernel
def ev_c_152_4 : List (Nat × Instr × Nat) := [(128, .iload_n 2, 1), (129, .iadd, 1), (130, .invokestatic 82, 3), (133, .putfield 115, 3), (136, .aload 6, 2), (138, .iconst (-1), 1), (139, .putfield 76, 3), (142, .iinc 5 1, 3), (145, .goto (-132), 3), (148, .aload_n 0, 1), (149, .dup, 1), (150, .getfield 33, 3), (153, .iconst 1, 1), (154, .iadd, 1), (155, .putfield 33, 3), (158, .iload 4, 2)]
set_option maxRecDepth 100000 in
theorem ev_d_152_4 : ∀ q ∈ ev_c_152_4, decode prog_10_method_8_code q.1 = .ok (q.2.1, q.2.2) := by decide +kernel
def ev_c_152_5 : List (Nat × Instr × Nat) := [(160, .ireturn, 1)]
set_option maxRecDepth 100000 in
theorem ev_d_152_5 : ∀ q ∈ ev_c_152_5, decode prog_10_method_8_code q.1 = .ok (q.2.1, q.2.2) := by decide +kernel
def ev_c_152 : List (Nat × List (Nat × Instr × Nat)) := [(0, ev_c_152_0), (1, ev_c_152_1), (2, ev_c_152_2), (3, ev_c_152_3), (4, ev_c_152_4), (5, ev_c_152_5)]
set_option maxRecDepth 100000 in
theorem ev_d_152 : ∀ q ∈ ev_c_152, ∀ z ∈ q.2, decode prog_10_method_8_code z.1 = .ok (z.2.1, z.2.2) := List.forall_mem_cons.mpr ⟨ev_d_152_0, List.forall_mem_cons.mpr ⟨ev_d_152_1, List.forall_mem_cons.mpr ⟨ev_d_152_2, List.forall_mem_cons.mpr ⟨ev_d_152_3, List.forall_mem_cons.mpr ⟨ev_d_152_4, List.forall_mem_cons.mpr ⟨ev_d_152_5, fun _ h => absurd h List.not_mem_nil⟩⟩⟩⟩⟩⟩
def ev_c_153_0 : List (Nat × Instr × Nat) := [(0, .aload_n 0, 1), (1, .invokespecial 1, 3), (4, .aload_n 0, 1), (5, .iconst (-1), 1), (6, .putfield 7, 3), (9, .aload_n 0, 1), (10, .iconst (-1), 1), (11, .putfield 13, 3), (14, .return_, 1)]
set_option maxRecDepth 100000 in
theorem ev_d_153_0 : ∀ q ∈ ev_c_153_0, decode prog_11_method_1_code q.1 = .ok (q.2.1, q.2.2) := by decide +kernel
def ev_c_153 : List (Nat × List (Nat × Instr × Nat)) := [(0, ev_c_153_0)]
set_option maxRecDepth 100000 in
theorem ev_d_153 : ∀ q ∈ ev_c_153, ∀ z ∈ q.2, decode prog_11_method_1_code z.1 = .ok (z.2.1, z.2.2) := List.forall_mem_cons.mpr ⟨ev_d_153_0, fun _ h => absurd h List.not_mem_nil⟩
def ev_c_154_0 : List (Nat × Instr × Nat) := [(0, .aload_n 1, 1), (1, .iconst 5, 1), (2, .iaload, 1), (3, .istore_n 3, 1), (4, .aload_n 1, 1), (5, .iload_n 3, 1), (6, .iconst 4, 1), (7, .idiv, 1), (8, .aload_n 1, 1), (9, .iload_n 3, 1), (10, .iconst 4, 1), (11, .idiv, 1), (12, .iaload, 1), (13, .bipush 8, 2), (15, .ishl, 1), (16, .iload_n 2, 1), (17, .ior, 1), (18, .iastore, 1), (19, .aload_n 1, 1), (20, .iconst 5, 1), (21, .dup2, 1), (22, .iaload, 1), (23, .iconst 1, 1), (24, .iadd, 1), (25, .iastore, 1), (26, .aload_n 1, 1), (27, .bipush 6, 2), (29, .dup2, 1), (30, .iaload, 1), (31, .iconst 1, 1)]
set_option maxRecDepth 100000 in
theorem ev_d_154_0 : ∀ q ∈ ev_c_154_0, decode method_2_code q.1 = .ok (q.2.1, q.2.2) := by decide +kernel
def ev_c_154_1 : List (Nat × Instr × Nat) := [(32, .iadd, 1), (33, .iastore, 1), (34, .aload_n 1, 1), (35, .iconst 5, 1), (36, .iaload, 1), (37, .bipush 20, 2), (39, .if_icmp .ne 8, 3), (42, .aload_n 0, 1), (43, .aload_n 1, 1), (44, .invokestatic 7, 3), (47, .return_, 1)]
set_option maxRecDepth 100000 in
theorem ev_d_154_1 : ∀ q ∈ ev_c_154_1, decode method_2_code q.1 = .ok (q.2.1, q.2.2) := by decide +kernel
def ev_c_154 : List (Nat × List (Nat × Instr × Nat)) := [(0, ev_c_154_0), (1, ev_c_154_1)]
set_option maxRecDepth 100000 in
theorem ev_d_154 : ∀ q ∈ ev_c_154, ∀ z ∈ q.2, decode method_2_code z.1 = .ok (z.2.1, z.2.2) := List.forall_mem_cons.mpr ⟨ev_d_154_0, List.forall_mem_cons.mpr ⟨ev_d_154_1, fun _ h => absurd h List.not_mem_nil⟩⟩
def ev_c_155_0 : List (Nat × Instr × Nat) := [(0, .aload_n 0, 1), (1, .aload_n 1, 1), (2, .iconst 0, 1), (3, .iaload, 1), (4, .aload_n 1, 1), (5, .iconst 1, 1), (6, .iaload, 1), (7, .aload_n 1, 1), (8, .iconst 2, 1), (9, .iaload, 1), (10, .aload_n 1, 1), (11, .iconst 3, 1), (12, .iaload, 1), (13, .aload_n 1, 1), (14, .iconst 4, 1), (15, .iaload, 1), (16, .invokevirtual 13, 3), (19, .istore_n 2, 1), (20, .aload_n 1, 1), (21, .iconst 5, 1), (22, .iconst 0, 1), (23, .iastore, 1), (24, .return_, 1)]
set_option maxRecDepth 100000 in
theorem ev_d_155_0 : ∀ q ∈ ev_c_155_0, decode method_3_code q.1 = .ok (q.2.1, q.2.2) := by decide +kernel
def ev_c_155 : List (Nat × List (Nat × Instr × Nat)) := [(0, ev_c_155_0)]
set_option maxRecDepth 100000 in
theorem ev_d_155 : ∀ q ∈ ev_c_155, ∀ z ∈ q.2, decode method_3_code z.1 = .ok (z.2.1, z.2.2) := List.forall_mem_cons.mpr ⟨ev_d_155_0, fun _ h => absurd h List.not_mem_nil⟩
def ev_c_156_0 : List (Nat × Instr × Nat) := [(0, .aload_n 1, 1), (1, .bipush 6, 2), (3, .iaload, 1), (4, .istore_n 2, 1), (5, .aload_n 1, 1), (6, .iconst 5, 1), (7, .iaload, 1), (8, .ifCond .le 13, 3), (11, .aload_n 0, 1), (12, .aload_n 1, 1), (13, .bipush 32, 2), (15, .invokestatic 21, 3), (18, .goto (-13), 3), (21, .aload_n 1, 1), (22, .bipush 6, 2), (24, .iconst 0, 1), (25, .iastore, 1), (26, .iload_n 2, 1), (27, .ireturn, 1)]
set_option maxRecDepth 100000 in
theorem ev_d_156_0 : ∀ q ∈ ev_c_156_0, decode method_5_code q.1 = .ok (q.2.1, q.2.2) := by decide +kernel
def ev_c_156 : List (Nat × List (Nat × Instr × Nat)) := [(0, ev_c_156_0)]
set_option maxRecDepth 100000 in
theorem ev_d_156 : ∀ q ∈ ev_c_156, ∀ z ∈ q.2, decode method_5_code z.1 = .ok (z.2.1, z.2.2) := List.forall_mem_cons.mpr ⟨ev_d_156_0, fun _ h => absurd h List.not_mem_nil⟩
def ev_c_157_0 : List (Nat × Instr × Nat) := [(0, .iload_n 1, 1), (1, .aload_n 0, 1), (2, .arraylength, 1), (3, .if_icmp .ge 9, 3), (6, .aload_n 0, 1), (7, .iload_n 1, 1), (8, .iaload, 1), (9, .goto 4, 3), (12, .iconst 0, 1), (13, .ireturn, 1)]
set_option maxRecDepth 100000 in
theorem ev_d_157_0 : ∀ q ∈ ev_c_157_0, decode method_7_code q.1 = .ok (q.2.1, q.2.2) := by decide +kernel
def ev_c_157 : List (Nat × List (Nat × Instr × Nat)) := [(0, ev_c_157_0)]
set_option maxRecDepth 100000 in
theorem ev_d_157 : ∀ q ∈ ev_c_157, ∀ z ∈ q.2, decode method_7_code z.1 = .ok (z.2.1, z.2.2) := List.forall_mem_cons.mpr ⟨ev_d_157_0, fun _ h => absurd h List.not_mem_nil⟩
def ev_c_158_0 : List (Nat × Instr × Nat) := [(0, .new 25, 3), (3, .dup, 1), (4, .invokespecial 27, 3), (7, .astore_n 1, 1), (8, .aload_n 0, 1), (9, .iconst 0, 1), (10, .invokestatic 28, 3), (13, .istore_n 2, 1), (14, .aload_n 1, 1), (15, .iconst 1, 1), (16, .iload_n 2, 1), (17, .iconst 3, 1), (18, .iand, 1), (19, .iadd, 1), (20, .putfield 32, 3), (23, .aload_n 1, 1), (24, .iconst 1, 1), (25, .iload_n 2, 1), (26, .iconst 2, 1), (27, .iushr, 1), (28, .iconst 3, 1), (29, .iand, 1), (30, .iadd, 1), (31, .newarray .int, 2)]
set_option maxRecDepth 100000 in
theorem ev_d_158_0 : ∀ q ∈ ev_c_158_0, decode method_8_code q.1 = .ok (q.2.1, q.2.2) := by decide +kernel
def ev_c_158_1 : List (Nat × Instr × Nat) := [(33, .putfield 36, 3), (36, .iconst 0, 1), (37, .istore_n 3, 1), (38, .iload_n 3, 1), (39, .aload_n 1, 1), (40, .getfield 36, 3), (43, .arraylength, 1), (44, .if_icmp .ge 29, 3), (47, .aload_n 1, 1), (48, .getfield 36, 3), (51, .iload_n 3, 1), (52, .aload_n 0, 1), (53, .iconst 1, 1), (54, .invokestatic 28, 3), (57, .iconst 3, 1), (58, .iload_n 3, 1), (59, .imul, 1), (60, .iushr, 1), (61, .bipush 7, 2), (63, .iand, 1)]
set_option maxRecDepth 100000 in
theorem ev_d_158_1 : ∀ q ∈ ev_c_158_1, decode method_8_code q.1 = .ok (q.2.1, q.2.2) := by decide +kernel
def ev_c_158_2 : List (Nat × Instr × Nat) := [(64, .iconst 5, 1), (65, .irem, 1), (66, .iastore, 1), (67, .iinc 3 1, 3), (70, .goto (-32), 3), (73, .aload_n 1, 1), (74, .iconst 1, 1), (75, .iload_n 2, 1), (76, .iconst 4, 1), (77, .iushr, 1), (78, .iconst 1, 1), (79, .iand, 1), (80, .iadd, 1), (81, .anewarray 40, 3), (84, .putfield 41, 3), (87, .iconst 0, 1), (88, .istore_n 3, 1), (89, .iload_n 3, 1), (90, .aload_n 1, 1), (91, .getfield 41, 3), (94, .arraylength, 1), (95, .if_icmp .ge 61, 3)]
set_option maxRecDepth 100000 in
theorem ev_d_158_2 : ∀ q ∈ ev_c_158_2, decode method_8_code q.1 = .ok (q.2.1, q.2.2) := by decide +kernel
def ev_c_158_3 : List (Nat × Instr × Nat) := [(98, .aload_n 0, 1), (99, .iconst 2, 1), (100, .iload_n 3, 1), (101, .iadd, 1), (102, .invokestatic 28, 3), (105, .istore 4, 2), (107, .aload_n 1, 1), (108, .getfield 41, 3), (111, .iload_n 3, 1), (112, .iconst 4, 1), (113, .newarray .int, 2), (115, .dup, 1), (116, .iconst 0, 1), (117, .iload 4, 2), (119, .bipush 7, 2), (121, .iand, 1), (122, .iastore, 1), (123, .dup, 1), (124, .iconst 1, 1), (125, .iconst 1, 1), (126, .iload 4, 2)]
set_option maxRecDepth 100000 in
theorem ev_d_158_3 : ∀ q ∈ ev_c_158_3, decode method_8_code q.1 = .ok (q.2.1, q.2.2) := by decide +kernel
def ev_c_158_4 : List (Nat × Instr × Nat) := [(128, .iconst 3, 1), (129, .iushr, 1), (130, .bipush 15, 2), (132, .iand, 1), (133, .iadd, 1), (134, .iastore, 1), (135, .dup, 1), (136, .iconst 2, 1), (137, .iload 4, 2), (139, .bipush 7, 2), (141, .iushr, 1), (142, .iconst 3, 1), (143, .iand, 1), (144, .iastore, 1), (145, .dup, 1), (146, .iconst 3, 1), (147, .iconst (-1), 1), (148, .iastore, 1), (149, .aastore, 1), (150, .iinc 3 1, 3), (153, .goto (-64), 3), (156, .aload_n 1, 1), (157, .iconst 1, 1), (158, .iload_n 2, 1), (159, .iconst 5, 1)]
set_option maxRecDepth 100000 in
theorem ev_d_158_4 : ∀ q ∈ ev_c_158_4, decode method_8_code q.1 = .ok (q.2.1, q.2.2) := by decide +kernel
def ev_c_158_5 : List (Nat × Instr × Nat) := [(160, .iushr, 1), (161, .iconst 1, 1), (162, .iand, 1), (163, .iadd, 1), (164, .newarray .int, 2), (166, .putfield 45, 3), (169, .iconst 0, 1), (170, .istore_n 3, 1), (171, .iload_n 3, 1), (172, .aload_n 1, 1), (173, .getfield 45, 3), (176, .arraylength, 1), (177, .if_icmp .ge 27, 3), (180, .aload_n 1, 1), (181, .getfield 45, 3), (184, .iload_n 3, 1), (185, .iconst 1, 1), (186, .iload_n 2, 1), (187, .bipush 6, 2), (189, .iconst 2, 1), (190, .iload_n 3, 1), (191, .imul, 1)]
set_option maxRecDepth 100000 in
theorem ev_d_158_5 : ∀ q ∈ ev_c_158_5, decode method_8_code q.1 = .ok (q.2.1, q.2.2) := by decide +kernel
def ev_c_158_6 : List (Nat × Instr × Nat) := [(192, .iadd, 1), (193, .iushr, 1), (194, .iconst 3, 1), (195, .iand, 1), (196, .iadd, 1), (197, .iastore, 1), (198, .iinc 3 1, 3), (201, .goto (-30), 3), (204, .aload_n 1, 1), (205, .iload_n 2, 1), (206, .bipush 10, 2), (208, .iushr, 1), (209, .bipush 15, 2), (211, .iand, 1), (212, .bipush 10, 2), (214, .irem, 1), (215, .putfield 48, 3), (218, .iconst 1, 1), (219, .iload_n 2, 1), (220, .bipush 14, 2), (222, .iushr, 1), (223, .iconst 3, 1)]
set_option maxRecDepth 100000 in
theorem ev_d_158_6 : ∀ q ∈ ev_c_158_6, decode method_8_code q.1 = .ok (q.2.1, q.2.2) := by decide +kernel
def ev_c_158_7 : List (Nat × Instr × Nat) := [(224, .iand, 1), (225, .iadd, 1), (226, .istore_n 3, 1), (227, .iconst 0, 1), (228, .istore 4, 2), (230, .iload 4, 2), (232, .iload_n 3, 1), (233, .if_icmp .ge 104, 3), (236, .aload_n 0, 1), (237, .iconst 4, 1), (238, .iload 4, 2), (240, .iadd, 1), (241, .invokestatic 28, 3), (244, .istore 5, 2), (246, .new 51, 3), (249, .dup, 1), (250, .invokespecial 53, 3), (253, .astore 6, 2), (255, .aload 6, 2)]
set_option maxRecDepth 100000 in
theorem ev_d_158_7 : ∀ q ∈ ev_c_158_7, decode method_8_code q.1 = .ok (q.2.1, q.2.2) := by decide +kernel
def ev_c_158_8 : List (Nat × Instr × Nat) := [(257, .iload 5, 2), (259, .iconst 1, 1), (260, .iand, 1), (261, .aload_n 1, 1), (262, .getfield 41, 3), (265, .arraylength, 1), (266, .irem, 1), (267, .putfield 54, 3), (270, .aload 6, 2), (272, .iconst 1, 1), (273, .iload 5, 2), (275, .iconst 1, 1), (276, .iushr, 1), (277, .bipush 15, 2), (279, .iand, 1), (280, .iconst 1, 1), (281, .aload_n 1, 1), (282, .getfield 36, 3), (285, .arraylength, 1), (286, .ishl, 1), (287, .iconst 1, 1)]
set_option maxRecDepth 100000 in
theorem ev_d_158_8 : ∀ q ∈ ev_c_158_8, decode method_8_code q.1 = .ok (q.2.1, q.2.2) := by decide +kernel
def ev_c_158_9 : List (Nat × Instr × Nat) := [(288, .isub, 1), (289, .irem, 1), (290, .iadd, 1), (291, .putfield 57, 3), (294, .aload 6, 2), (296, .iload 5, 2), (298, .iconst 5, 1), (299, .iushr, 1), (300, .iconst 3, 1), (301, .iand, 1), (302, .putfield 60, 3), (305, .aload 6, 2), (307, .iload 5, 2), (309, .bipush 7, 2), (311, .iushr, 1), (312, .bipush 7, 2), (314, .iand, 1), (315, .bipush 6, 2), (317, .irem, 1), (318, .putfield 63, 3)]
set_option maxRecDepth 100000 in
theorem ev_d_158_9 : ∀ q ∈ ev_c_158_9, decode method_8_code q.1 = .ok (q.2.1, q.2.2) := by decide +kernel
def ev_c_158_10 : List (Nat × Instr × Nat) := [(321, .aload_n 1, 1), (322, .getfield 66, 3), (325, .aload 6, 2), (327, .invokevirtual 70, 3), (330, .pop, 1), (331, .iinc 4 1, 3), (334, .goto (-104), 3), (337, .aload_n 1, 1), (338, .areturn, 1)]
set_option maxRecDepth 100000 in
theorem ev_d_158_10 : ∀ q ∈ ev_c_158_10, decode method_8_code q.1 = .ok (q.2.1, q.2.2) := by decide +kernel
def ev_c_158 : List (Nat × List (Nat × Instr × Nat)) := [(0, ev_c_158_0), (1, ev_c_158_1), (2, ev_c_158_2), (3, ev_c_158_3), (4, ev_c_158_4), (5, ev_c_158_5), (6, ev_c_158_6), (7, ev_c_158_7), (8, ev_c_158_8), (9, ev_c_158_9), (10, ev_c_158_10)]
set_option maxRecDepth 100000 in
theorem ev_d_158 : ∀ q ∈ ev_c_158, ∀ z ∈ q.2, decode method_8_code z.1 = .ok (z.2.1, z.2.2) := List.forall_mem_cons.mpr ⟨ev_d_158_0, List.forall_mem_cons.mpr ⟨ev_d_158_1, List.forall_mem_cons.mpr ⟨ev_d_158_2, List.forall_mem_cons.mpr ⟨ev_d_158_3, List.forall_mem_cons.mpr ⟨ev_d_158_4, List.forall_mem_cons.mpr ⟨ev_d_158_5, List.forall_mem_cons.mpr ⟨ev_d_158_6, List.forall_mem_cons.mpr ⟨ev_d_158_7, List.forall_mem_cons.mpr ⟨ev_d_158_8, List.forall_mem_cons.mpr ⟨ev_d_158_9, List.forall_mem_cons.mpr ⟨ev_d_158_10, fun _ h => absurd h List.not_mem_nil⟩⟩⟩⟩⟩⟩⟩⟩⟩⟩⟩
def ev_c_159_0 : List (Nat × Instr × Nat) := [(0, .new 76, 3), (3, .dup, 1), (4, .ldc 78, 2), (6, .invokespecial 80, 3), (9, .aload_n 0, 1), (10, .getfield 32, 3), (13, .invokevirtual 83, 3), (16, .astore_n 1, 1), (17, .iconst 0, 1), (18, .istore_n 2, 1), (19, .iload_n 2, 1), (20, .aload_n 0, 1), (21, .getfield 36, 3), (24, .arraylength, 1), (25, .if_icmp .ge 25, 3), (28, .aload_n 1, 1), (29, .ldc 86, 2), (31, .invokevirtual 88, 3)]
set_option maxRecDepth 100000 in
theorem ev_d_159_0 : ∀ q ∈ ev_c_159_0, decode method_9_code q.1 = .ok (q.2.1, q.2.2) := by decide +kernel
def ev_c_159_1 : List (Nat × Instr × Nat) := [(34, .aload_n 0, 1), (35, .getfield 36, 3), (38, .iload_n 2, 1), (39, .iaload, 1), (40, .invokevirtual 83, 3), (43, .pop, 1), (44, .iinc 2 1, 3), (47, .goto (-28), 3), (50, .iconst 0, 1), (51, .istore_n 2, 1), (52, .iload_n 2, 1), (53, .aload_n 0, 1), (54, .getfield 41, 3), (57, .arraylength, 1), (58, .if_icmp .ge 59, 3), (61, .aload_n 1, 1), (62, .ldc 91, 2)]
set_option maxRecDepth 100000 in
theorem ev_d_159_1 : ∀ q ∈ ev_c_159_1, decode method_9_code q.1 = .ok (q.2.1, q.2.2) := by decide +kernel
def ev_c_159_2 : List (Nat × Instr × Nat) := [(64, .invokevirtual 88, 3), (67, .aload_n 0, 1), (68, .getfield 41, 3), (71, .iload_n 2, 1), (72, .aaload, 1), (73, .iconst 0, 1), (74, .iaload, 1), (75, .invokevirtual 83, 3), (78, .bipush 32, 2), (80, .invokevirtual 93, 3), (83, .aload_n 0, 1), (84, .getfield 41, 3), (87, .iload_n 2, 1), (88, .aaload, 1), (89, .iconst 1, 1), (90, .iaload, 1), (91, .invokevirtual 83, 3), (94, .bipush 32, 2)]
set_option maxRecDepth 100000 in
theorem ev_d_159_2 : ∀ q ∈ ev_c_159_2, decode method_9_code q.1 = .ok (q.2.1, q.2.2) := by decide +kernel
def ev_c_159_3 : List (Nat × Instr × Nat) := [(96, .invokevirtual 93, 3), (99, .aload_n 0, 1), (100, .getfield 41, 3), (103, .iload_n 2, 1), (104, .aaload, 1), (105, .iconst 2, 1), (106, .iaload, 1), (107, .invokevirtual 83, 3), (110, .pop, 1), (111, .iinc 2 1, 3), (114, .goto (-62), 3), (117, .iconst 0, 1), (118, .istore_n 2, 1), (119, .iload_n 2, 1), (120, .aload_n 0, 1), (121, .getfield 45, 3), (124, .arraylength, 1), (125, .if_icmp .ge 25, 3)]
set_option maxRecDepth 100000 in
theorem ev_d_159_3 : ∀ q ∈ ev_c_159_3, decode method_9_code q.1 = .ok (q.2.1, q.2.2) := by decide +kernel
def ev_c_159_4 : List (Nat × Instr × Nat) := [(128, .aload_n 1, 1), (129, .ldc 96, 2), (131, .invokevirtual 88, 3), (134, .aload_n 0, 1), (135, .getfield 45, 3), (138, .iload_n 2, 1), (139, .iaload, 1), (140, .invokevirtual 83, 3), (143, .pop, 1), (144, .iinc 2 1, 3), (147, .goto (-28), 3), (150, .iconst 0, 1), (151, .istore_n 2, 1), (152, .iload_n 2, 1), (153, .aload_n 0, 1), (154, .getfield 66, 3), (157, .invokevirtual 98, 3)]
set_option maxRecDepth 100000 in
theorem ev_d_159_4 : ∀ q ∈ ev_c_159_4, decode method_9_code q.1 = .ok (q.2.1, q.2.2) := by decide +kernel
def ev_c_159_5 : List (Nat × Instr × Nat) := [(160, .if_icmp .ge 103, 3), (163, .aload_n 0, 1), (164, .getfield 66, 3), (167, .iload_n 2, 1), (168, .invokevirtual 102, 3), (171, .checkcast 51, 3), (174, .astore_n 3, 1), (175, .aload_n 1, 1), (176, .ldc 106, 2), (178, .invokevirtual 88, 3), (181, .aload_n 3, 1), (182, .getfield 54, 3), (185, .invokevirtual 83, 3), (188, .bipush 32, 2), (190, .invokevirtual 93, 3)]
set_option maxRecDepth 100000 in
theorem ev_d_159_5 : ∀ q ∈ ev_c_159_5, decode method_9_code q.1 = .ok (q.2.1, q.2.2) := by decide +kernel
def ev_c_159_6 : List (Nat × Instr × Nat) := [(193, .aload_n 3, 1), (194, .getfield 60, 3), (197, .invokevirtual 83, 3), (200, .bipush 32, 2), (202, .invokevirtual 93, 3), (205, .aload_n 3, 1), (206, .getfield 63, 3), (209, .invokevirtual 83, 3), (212, .pop, 1), (213, .iconst 0, 1), (214, .istore 4, 2), (216, .iload 4, 2), (218, .aload_n 0, 1), (219, .getfield 36, 3), (222, .arraylength, 1), (223, .if_icmp .ge 34, 3)]
set_option maxRecDepth 100000 in
theorem ev_d_159_6 : ∀ q ∈ ev_c_159_6, decode method_9_code q.1 = .ok (q.2.1, q.2.2) := by decide +kernel
def ev_c_159_7 : List (Nat × Instr × Nat) := [(226, .aload_n 3, 1), (227, .getfield 57, 3), (230, .iload 4, 2), (232, .ishr, 1), (233, .iconst 1, 1), (234, .iand, 1), (235, .iconst 1, 1), (236, .if_icmp .ne 15, 3), (239, .aload_n 1, 1), (240, .bipush 32, 2), (242, .invokevirtual 93, 3), (245, .iload 4, 2), (247, .invokevirtual 83, 3), (250, .pop, 1), (251, .iinc 4 1, 3), (254, .goto (-38), 3)]
set_option maxRecDepth 100000 in
theorem ev_d_159_7 : ∀ q ∈ ev_c_159_7, decode method_9_code q.1 = .ok (q.2.1, q.2.2) := by decide +kernel
def ev_c_159_8 : List (Nat × Instr × Nat) := [(257, .iinc 2 1, 3), (260, .goto (-108), 3), (263, .aload_n 1, 1), (264, .ldc 108, 2), (266, .invokevirtual 88, 3), (269, .aload_n 0, 1), (270, .getfield 48, 3), (273, .invokevirtual 83, 3), (276, .pop, 1), (277, .iconst 0, 1), (278, .istore_n 2, 1), (279, .iload_n 2, 1), (280, .aload_n 0, 1), (281, .getfield 66, 3), (284, .invokevirtual 98, 3), (287, .if_icmp .ge 87, 3)]
set_option maxRecDepth 100000 in
theorem ev_d_159_8 : ∀ q ∈ ev_c_159_8, decode method_9_code q.1 = .ok (q.2.1, q.2.2) := by decide +kernel
def ev_c_159_9 : List (Nat × Instr × Nat) := [(290, .iload_n 2, 1), (291, .iconst 2, 1), (292, .if_icmp .ge 82, 3), (295, .aload_n 0, 1), (296, .iconst 0, 1), (297, .invokevirtual 110, 3), (300, .aload_n 0, 1), (301, .getfield 45, 3), (304, .iconst 0, 1), (305, .iaload, 1), (306, .if_icmp .ne 6, 3), (309, .goto 59, 3), (312, .aload_n 1, 1), (313, .ldc 114, 2), (315, .invokevirtual 88, 3), (318, .iload_n 2, 1), (319, .invokevirtual 83, 3)]
set_option maxRecDepth 100000 in
theorem ev_d_159_9 : ∀ q ∈ ev_c_159_9, decode method_9_code q.1 = .ok (q.2.1, q.2.2) := by decide +kernel
def ev_c_159_10 : List (Nat × Instr × Nat) := [(322, .ldc 116, 2), (324, .invokevirtual 88, 3), (327, .pop, 1), (328, .aload_n 0, 1), (329, .getfield 66, 3), (332, .iload_n 2, 1), (333, .invokevirtual 102, 3), (336, .checkcast 51, 3), (339, .iconst 0, 1), (340, .putfield 118, 3), (343, .aload_n 0, 1), (344, .getfield 66, 3), (347, .iload_n 2, 1), (348, .invokevirtual 102, 3), (351, .checkcast 51, 3)]
set_option maxRecDepth 100000 in
theorem ev_d_159_10 : ∀ q ∈ ev_c_159_10, decode method_9_code q.1 = .ok (q.2.1, q.2.2) := by decide +kernel
def ev_c_159_11 : List (Nat × Instr × Nat) := [(354, .aload_n 0, 1), (355, .dup, 1), (356, .getfield 121, 3), (359, .dup_x1, 1), (360, .iconst 1, 1), (361, .iadd, 1), (362, .putfield 121, 3), (365, .putfield 124, 3), (368, .iinc 2 1, 3), (371, .goto (-92), 3), (374, .aload_n 1, 1), (375, .ldc 127, 2), (377, .invokevirtual 88, 3), (380, .pop, 1), (381, .aload_n 0, 1), (382, .iconst 0, 1), (383, .iconst 0, 1)]
set_option maxRecDepth 100000 in
theorem ev_d_159_11 : ∀ q ∈ ev_c_159_11, decode method_9_code q.1 = .ok (q.2.1, q.2.2) := by decide +kernel
def ev_c_159_12 : List (Nat × Instr × Nat) := [(384, .invokevirtual 129, 3), (387, .istore_n 2, 1), (388, .aload_n 1, 1), (389, .invokevirtual 133, 3), (392, .areturn, 1)]
set_option maxRecDepth 100000 in
theorem ev_d_159_12 : ∀ q ∈ ev_c_159_12, decode method_9_code q.1 = .ok (q.2.1, q.2.2) := by decide +kernel
def ev_c_159 : List (Nat × List (Nat × Instr × Nat)) := [(0, ev_c_159_0), (1, ev_c_159_1), (2, ev_c_159_2), (3, ev_c_159_3), (4, ev_c_159_4), (5, ev_c_159_5), (6, ev_c_159_6), (7, ev_c_159_7), (8, ev_c_159_8), (9, ev_c_159_9), (10, ev_c_159_10), (11, ev_c_159_11), (12, ev_c_159_12)]
set_option maxRecDepth 100000 in
theorem ev_d_159 : ∀ q ∈ ev_c_159, ∀ z ∈ q.2, decode method_9_code z.1 = .ok (z.2.1, z.2.2) := List.forall_mem_cons.mpr ⟨ev_d_159_0, List.forall_mem_cons.mpr ⟨ev_d_159_1, List.forall_mem_cons.mpr ⟨ev_d_159_2, List.forall_mem_cons.mpr ⟨ev_d_159_3, List.forall_mem_cons.mpr ⟨ev_d_159_4, List.forall_mem_cons.mpr ⟨ev_d_159_5, List.forall_mem_cons.mpr ⟨ev_d_159_6, List.forall_mem_cons.mpr ⟨ev_d_159_7, List.forall_mem_cons.mpr ⟨ev_d_159_8, List.forall_mem_cons.mpr ⟨ev_d_159_9, List.forall_mem_cons.mpr ⟨ev_d_159_10, List.forall_mem_cons.mpr ⟨ev_d_159_11, List.forall_mem_cons.mpr ⟨ev_d_159_12, fun _ h => absurd h List.not_mem_nil⟩⟩⟩⟩⟩⟩⟩⟩⟩⟩⟩⟩⟩
def ev_c_160_0 : List (Nat × Instr × Nat) := [(0, .iconst 0, 1), (1, .istore_n 3, 1), (2, .iload_n 3, 1), (3, .aload_n 2, 1), (4, .invokeinterface 137 1, 5), (9, .if_icmp .ge 21, 3), (12, .aload_n 0, 1), (13, .aload_n 1, 1), (14, .aload_n 2, 1), (15, .iload_n 3, 1), (16, .invokeinterface 142 2, 5), (21, .invokestatic 21, 3), (24, .iinc 3 1, 3), (27, .goto (-25), 3), (30, .aload_n 0, 1), (31, .aload_n 1, 1)]
set_option maxRecDepth 100000 in
theorem ev_d_160_0 : ∀ q ∈ ev_c_160_0, decode method_10_code q.1 = .ok (q.2.1, q.2.2) := by decide +kernel
def ev_c_160_1 : List (Nat × Instr × Nat) := [(32, .invokestatic 146, 3), (35, .ireturn, 1)]
set_option maxRecDepth 100000 in
theorem ev_d_160_1 : ∀ q ∈ ev_c_160_1, decode method_10_code q.1 = .ok (q.2.1, q.2.2) := by decide +kernel
def ev_c_160 : List (Nat × List (Nat × Instr × Nat)) := [(0, ev_c_160_0), (1, ev_c_160_1)]
set_option maxRecDepth 100000 in
theorem ev_d_160 : ∀ q ∈ ev_c_160, ∀ z ∈ q.2, decode method_10_code z.1 = .ok (z.2.1, z.2.2) := List.forall_mem_cons.mpr ⟨ev_d_160_0, List.forall_mem_cons.mpr ⟨ev_d_160_1, fun _ h => absurd h List.not_mem_nil⟩⟩
def ev_c_161_0 : List (Nat × Instr × Nat) := [(0, .iconst 0, 1), (1, .istore_n 1, 1), (2, .iload_n 1, 1), (3, .aload_n 0, 1), (4, .iconst 4, 1), (5, .invokevirtual 200, 3), (8, .if_icmp .ge 72, 3), (11, .aload_n 0, 1), (12, .iload_n 1, 1), (13, .iconst 1, 1), (14, .invokevirtual 177, 3), (17, .aload_n 0, 1), (18, .iload_n 1, 1), (19, .bipush 6, 2), (21, .invokevirtual 177, 3), (24, .iand, 1), (25, .ifCond .eq 5, 3), (28, .iconst 0, 1), (29, .ireturn, 1), (30, .aload_n 0, 1), (31, .iload_n 1, 1)]
set_option maxRecDepth 100000 in
theorem ev_d_161_0 : ∀ q ∈ ev_c_161_0, decode method_13_code q.1 = .ok (q.2.1, q.2.2) := by decide +kernel
def ev_c_161_1 : List (Nat × Instr × Nat) := [(32, .bipush 8, 2), (34, .invokevirtual 177, 3), (37, .iconst 3, 1), (38, .if_icmp .ne 36, 3), (41, .aload_n 0, 1), (42, .iload_n 1, 1), (43, .iconst 3, 1), (44, .invokevirtual 177, 3), (47, .aload_n 0, 1), (48, .iload_n 1, 1), (49, .iconst 4, 1), (50, .invokevirtual 177, 3), (53, .iadd, 1), (54, .aload_n 0, 1), (55, .iload_n 1, 1), (56, .iconst 5, 1), (57, .invokevirtual 177, 3), (60, .iadd, 1), (61, .aload_n 0, 1), (62, .iload_n 1, 1), (63, .bipush 6, 2)]
set_option maxRecDepth 100000 in
theorem ev_d_161_1 : ∀ q ∈ ev_c_161_1, decode method_13_code q.1 = .ok (q.2.1, q.2.2) := by decide +kernel
def ev_c_161_2 : List (Nat × Instr × Nat) := [(65, .invokevirtual 177, 3), (68, .iadd, 1), (69, .ifCond .eq 5, 3), (72, .iconst 0, 1), (73, .ireturn, 1), (74, .iinc 1 1, 3), (77, .goto (-75), 3), (80, .iconst 1, 1), (81, .ireturn, 1)]
set_option maxRecDepth 100000 in
theorem ev_d_161_2 : ∀ q ∈ ev_c_161_2, decode method_13_code q.1 = .ok (q.2.1, q.2.2) := by decide +kernel
def ev_c_161 : List (Nat × List (Nat × Instr × Nat)) := [(0, ev_c_161_0), (1, ev_c_161_1), (2, ev_c_161_2)]
set_option maxRecDepth 100000 in
theorem ev_d_161 : ∀ q ∈ ev_c_161, ∀ z ∈ q.2, decode method_13_code z.1 = .ok (z.2.1, z.2.2) := List.forall_mem_cons.mpr ⟨ev_d_161_0, List.forall_mem_cons.mpr ⟨ev_d_161_1, List.forall_mem_cons.mpr ⟨ev_d_161_2, fun _ h => absurd h List.not_mem_nil⟩⟩⟩
def ev_c_162_0 : List (Nat × Instr × Nat) := [(0, .aload_n 1, 1), (1, .lconst 0, 1), (2, .invokestatic 316, 3), (5, .iconst 0, 1), (6, .istore_n 2, 1), (7, .iload_n 2, 1), (8, .bipush 16, 2), (10, .if_icmp .ge 18, 3), (13, .aload_n 1, 1), (14, .iload_n 2, 1), (15, .aload_n 0, 1), (16, .iload_n 2, 1), (17, .invokevirtual 200, 3), (20, .i2l, 1), (21, .lastore, 1), (22, .iinc 2 1, 3), (25, .goto (-18), 3), (28, .iconst 0, 1), (29, .istore_n 2, 1), (30, .iload_n 2, 1), (31, .aload_n 0, 1)]
set_option maxRecDepth 100000 in
theorem ev_d_162_0 : ∀ q ∈ ev_c_162_0, decode method_14_code q.1 = .ok (q.2.1, q.2.2) := by decide +kernel
def ev_c_162_1 : List (Nat × Instr × Nat) := [(32, .iconst 4, 1), (33, .invokevirtual 200, 3), (36, .if_icmp .ge 47, 3), (39, .iconst 0, 1), (40, .istore_n 3, 1), (41, .iload_n 3, 1), (42, .bipush 10, 2), (44, .if_icmp .ge 33, 3), (47, .aload_n 1, 1), (48, .bipush 20, 2), (50, .iload_n 2, 1), (51, .iadd, 1), (52, .ldc2_w 320, 3), (55, .aload_n 1, 1), (56, .bipush 20, 2), (58, .iload_n 2, 1), (59, .iadd, 1), (60, .laload, 1), (61, .lmul, 1), (62, .aload_n 0, 1), (63, .iload_n 2, 1)]
set_option maxRecDepth 100000 in
theorem ev_d_162_1 : ∀ q ∈ ev_c_162_1, decode method_14_code q.1 = .ok (q.2.1, q.2.2) := by decide +kernel
def ev_c_162_2 : List (Nat × Instr × Nat) := [(64, .iload_n 3, 1), (65, .invokevirtual 177, 3), (68, .i2l, 1), (69, .ladd, 1), (70, .lastore, 1), (71, .iinc 3 1, 3), (74, .goto (-33), 3), (77, .iinc 2 1, 3), (80, .goto (-50), 3), (83, .iconst 0, 1), (84, .istore_n 2, 1), (85, .iload_n 2, 1), (86, .aload_n 0, 1), (87, .iconst 1, 1), (88, .invokevirtual 200, 3), (91, .if_icmp .ge 47, 3), (94, .iconst 0, 1), (95, .istore_n 3, 1)]
set_option maxRecDepth 100000 in
theorem ev_d_162_2 : ∀ q ∈ ev_c_162_2, decode method_14_code q.1 = .ok (q.2.1, q.2.2) := by decide +kernel
def ev_c_162_3 : List (Nat × Instr × Nat) := [(96, .iload_n 3, 1), (97, .bipush 7, 2), (99, .if_icmp .ge 33, 3), (102, .aload_n 1, 1), (103, .bipush 40, 2), (105, .iload_n 2, 1), (106, .iadd, 1), (107, .ldc2_w 320, 3), (110, .aload_n 1, 1), (111, .bipush 40, 2), (113, .iload_n 2, 1), (114, .iadd, 1), (115, .laload, 1), (116, .lmul, 1), (117, .aload_n 0, 1), (118, .iload_n 2, 1), (119, .iload_n 3, 1), (120, .invokevirtual 183, 3), (123, .i2l, 1), (124, .ladd, 1), (125, .lastore, 1), (126, .iinc 3 1, 3)]
set_option maxRecDepth 100000 in
theorem ev_d_162_3 : ∀ q ∈ ev_c_162_3, decode method_14_code q.1 = .ok (q.2.1, q.2.2) := by decide +kernel
def ev_c_162_4 : List (Nat × Instr × Nat) := [(129, .goto (-33), 3), (132, .iinc 2 1, 3), (135, .goto (-50), 3), (138, .iconst 0, 1), (139, .istore_n 2, 1), (140, .iload_n 2, 1), (141, .aload_n 0, 1), (142, .iconst 2, 1), (143, .invokevirtual 200, 3), (146, .if_icmp .ge 47, 3), (149, .iconst 0, 1), (150, .istore_n 3, 1), (151, .iload_n 3, 1), (152, .bipush 6, 2), (154, .if_icmp .ge 33, 3), (157, .aload_n 1, 1), (158, .bipush 50, 2)]
set_option maxRecDepth 100000 in
theorem ev_d_162_4 : ∀ q ∈ ev_c_162_4, decode method_14_code q.1 = .ok (q.2.1, q.2.2) := by decide +kernel
def ev_c_162_5 : List (Nat × Instr × Nat) := [(160, .iload_n 2, 1), (161, .iadd, 1), (162, .ldc2_w 320, 3), (165, .aload_n 1, 1), (166, .bipush 50, 2), (168, .iload_n 2, 1), (169, .iadd, 1), (170, .laload, 1), (171, .lmul, 1), (172, .aload_n 0, 1), (173, .iload_n 2, 1), (174, .iload_n 3, 1), (175, .invokevirtual 240, 3), (178, .i2l, 1), (179, .ladd, 1), (180, .lastore, 1), (181, .iinc 3 1, 3), (184, .goto (-33), 3), (187, .iinc 2 1, 3), (190, .goto (-50), 3)]
set_option maxRecDepth 100000 in
theorem ev_d_162_5 : ∀ q ∈ ev_c_162_5, decode method_14_code q.1 = .ok (q.2.1, q.2.2) := by decide +kernel
def ev_c_162_6 : List (Nat × Instr × Nat) := [(193, .return_, 1)]
set_option maxRecDepth 100000 in
theorem ev_d_162_6 : ∀ q ∈ ev_c_162_6, decode method_14_code q.1 = .ok (q.2.1, q.2.2) := by decide +kernel
def ev_c_162 : List (Nat × List (Nat × Instr × Nat)) := [(0, ev_c_162_0), (1, ev_c_162_1), (2, ev_c_162_2), (3, ev_c_162_3), (4, ev_c_162_4), (5, ev_c_162_5), (6, ev_c_162_6)]
set_option maxRecDepth 100000 in
theorem ev_d_162 : ∀ q ∈ ev_c_162, ∀ z ∈ q.2, decode method_14_code z.1 = .ok (z.2.1, z.2.2) := List.forall_mem_cons.mpr ⟨ev_d_162_0, List.forall_mem_cons.mpr ⟨ev_d_162_1, List.forall_mem_cons.mpr ⟨ev_d_162_2, List.forall_mem_cons.mpr ⟨ev_d_162_3, List.forall_mem_cons.mpr ⟨ev_d_162_4, List.forall_mem_cons.mpr ⟨ev_d_162_5, List.forall_mem_cons.mpr ⟨ev_d_162_6, fun _ h => absurd h List.not_mem_nil⟩⟩⟩⟩⟩⟩⟩
def ev_c_163_0 : List (Nat × Instr × Nat) := [(0, .aload_n 0, 1), (1, .invokespecial 1, 3), (4, .aload_n 0, 1), (5, .getstatic 39, 3), (8, .putfield 9, 3), (11, .return_, 1)]
set_option maxRecDepth 100000 in
theorem ev_d_163_0 : ∀ q ∈ ev_c_163_0, decode prog_39_method_2_code q.1 = .ok (q.2.1, q.2.2) := by decide +kernel
def ev_c_163 : List (Nat × List (Nat × Instr × Nat)) := [(0, ev_c_163_0)]
set_option maxRecDepth 100000 in
theorem ev_d_163 : ∀ q ∈ ev_c_163, ∀ z ∈ q.2, decode prog_39_method_2_code z.1 = .ok (z.2.1, z.2.2) := List.forall_mem_cons.mpr ⟨ev_d_163_0, fun _ h => absurd h List.not_mem_nil⟩
def ev_c_164_0 : List (Nat × Instr × Nat) := [(0, .aload_n 0, 1), (1, .dup, 1), (2, .getfield 63, 3), (5, .iconst 1, 1), (6, .iadd, 1), (7, .putfield 63, 3), (10, .aload_n 0, 1), (11, .aload_n 1, 1), (12, .aload_n 0, 1), (13, .getfield 9, 3), (16, .aload_n 0, 1), (17, .getfield 48, 3), (20, .invokevirtual 131, 3), (23, .iconst 1, 1), (24, .ireturn, 1)]
set_option maxRecDepth 100000 in
theorem ev_d_164_0 : ∀ q ∈ ev_c_164_0, decode prog_39_method_25_code q.1 = .ok (q.2.1, q.2.2) := by decide +kernel
def ev_c_164 : List (Nat × List (Nat × Instr × Nat)) := [(0, ev_c_164_0)]
set_option maxRecDepth 100000 in
theorem ev_d_164 : ∀ q ∈ ev_c_164, ∀ z ∈ q.2, decode prog_39_method_25_code z.1 = .ok (z.2.1, z.2.2) := List.forall_mem_cons.mpr ⟨ev_d_164_0, fun _ h => absurd h List.not_mem_nil⟩
def ev_c_165_0 : List (Nat × Instr × Nat) := [(0, .iload_n 3, 1), (1, .aload_n 2, 1), (2, .arraylength, 1), (3, .if_icmp .ne 8, 3), (6, .aload_n 0, 1), (7, .invokevirtual 129, 3), (10, .astore_n 2, 1), (11, .aload_n 2, 1), (12, .iload_n 3, 1), (13, .aload_n 1, 1), (14, .aastore, 1), (15, .aload_n 0, 1), (16, .iload_n 3, 1), (17, .iconst 1, 1), (18, .iadd, 1), (19, .putfield 48, 3), (22, .return_, 1)]
set_option maxRecDepth 100000 in
theorem ev_d_165_0 : ∀ q ∈ ev_c_165_0, decode prog_39_method_24_code q.1 = .ok (q.2.1, q.2.2) := by decide +kernel
def ev_c_165 : List (Nat × List (Nat × Instr × Nat)) := [(0, ev_c_165_0)]
set_option maxRecDepth 100000 in
theorem ev_d_165 : ∀ q ∈ ev_c_165, ∀ z ∈ q.2, decode prog_39_method_24_code z.1 = .ok (z.2.1, z.2.2) := List.forall_mem_cons.mpr ⟨ev_d_165_0, fun _ h => absurd h List.not_mem_nil⟩
def ev_c_166_0 : List (Nat × Instr × Nat) := [(0, .aload_n 0, 1), (1, .aload_n 0, 1), (2, .getfield 48, 3), (5, .iconst 1, 1), (6, .iadd, 1), (7, .invokevirtual 69, 3), (10, .areturn, 1)]
set_option maxRecDepth 100000 in
theorem ev_d_166_0 : ∀ q ∈ ev_c_166_0, decode prog_39_method_7_code q.1 = .ok (q.2.1, q.2.2) := by decide +kernel
def ev_c_166 : List (Nat × List (Nat × Instr × Nat)) := [(0, ev_c_166_0)]
set_option maxRecDepth 100000 in
theorem ev_d_166 : ∀ q ∈ ev_c_166, ∀ z ∈ q.2, decode prog_39_method_7_code z.1 = .ok (z.2.1, z.2.2) := List.forall_mem_cons.mpr ⟨ev_d_166_0, fun _ h => absurd h List.not_mem_nil⟩
def ev_c_167_0 : List (Nat × Instr × Nat) := [(0, .aload_n 0, 1), (1, .getfield 9, 3), (4, .arraylength, 1), (5, .istore_n 2, 1), (6, .iload_n 2, 1), (7, .ifCond .gt 13, 3), (10, .aload_n 0, 1), (11, .getfield 9, 3), (14, .getstatic 39, 3), (17, .if_acmp .eq 28, 3), (20, .iload_n 2, 1), (21, .iload_n 1, 1), (22, .iload_n 2, 1), (23, .isub, 1), (24, .iload_n 2, 1), (25, .iconst 1, 1), (26, .ishr, 1), (27, .invokestatic 73, 3), (30, .istore_n 3, 1), (31, .aload_n 0, 1)]
set_option maxRecDepth 100000 in
theorem ev_d_167_0 : ∀ q ∈ ev_c_167_0, decode prog_39_method_6_code q.1 = .ok (q.2.1, q.2.2) := by decide +kernel
def ev_c_167_1 : List (Nat × Instr × Nat) := [(32, .aload_n 0, 1), (33, .getfield 9, 3), (36, .iload_n 3, 1), (37, .invokestatic 66, 3), (40, .dup_x1, 1), (41, .putfield 9, 3), (44, .areturn, 1), (45, .aload_n 0, 1), (46, .bipush 10, 2), (48, .iload_n 1, 1), (49, .invokestatic 79, 3), (52, .anewarray 7, 3), (55, .dup_x1, 1), (56, .putfield 9, 3), (59, .areturn, 1)]
set_option maxRecDepth 100000 in
theorem ev_d_167_1 : ∀ q ∈ ev_c_167_1, decode prog_39_method_6_code q.1 = .ok (q.2.1, q.2.2) := by decide +kernel
def ev_c_167 : List (Nat × List (Nat × Instr × Nat)) := [(0, ev_c_167_0), (1, ev_c_167_1)]
set_option maxRecDepth 100000 in
theorem ev_d_167 : ∀ q ∈ ev_c_167, ∀ z ∈ q.2, decode prog_39_method_6_code z.1 = .ok (z.2.1, z.2.2) := List.forall_mem_cons.mpr ⟨ev_d_167_0, List.forall_mem_cons.mpr ⟨ev_d_167_1, fun _ h => absurd h List.not_mem_nil⟩⟩
def ev_c_168_0 : List (Nat × Instr × Nat) := [(0, .iload_n 1, 1), (1, .aload_n 0, 1), (2, .getfield 48, 3), (5, .invokestatic 118, 3), (8, .pop, 1), (9, .aload_n 0, 1), (10, .iload_n 1, 1), (11, .invokevirtual 123, 3), (14, .areturn, 1)]
set_option maxRecDepth 100000 in
theorem ev_d_168_0 : ∀ q ∈ ev_c_168_0, decode prog_39_method_20_code q.1 = .ok (q.2.1, q.2.2) := by decide +kernel
def ev_c_168 : List (Nat × List (Nat × Instr × Nat)) := [(0, ev_c_168_0)]
set_option maxRecDepth 100000 in
theorem ev_d_168 : ∀ q ∈ ev_c_168, ∀ z ∈ q.2, decode prog_39_method_20_code z.1 = .ok (z.2.1, z.2.2) := List.forall_mem_cons.mpr ⟨ev_d_168_0, fun _ h => absurd h List.not_mem_nil⟩
def ev_c_169_0 : List (Nat × Instr × Nat) := [(0, .aload_n 0, 1), (1, .getfield 9, 3), (4, .iload_n 1, 1), (5, .aaload, 1), (6, .areturn, 1)]
set_option maxRecDepth 100000 in
theorem ev_d_169_0 : ∀ q ∈ ev_c_169_0, decode prog_39_method_18_code q.1 = .ok (q.2.1, q.2.2) := by decide +kernel
def ev_c_169 : List (Nat × List (Nat × Instr × Nat)) := [(0, ev_c_169_0)]
set_option maxRecDepth 100000 in
theorem ev_d_169 : ∀ q ∈ ev_c_169, ∀ z ∈ q.2, decode prog_39_method_18_code z.1 = .ok (z.2.1, z.2.2) := List.forall_mem_cons.mpr ⟨ev_d_169_0, fun _ h => absurd h List.not_mem_nil⟩
def ev_c_170_0 : List (Nat × Instr × Nat) := [(0, .aload_n 0, 1), (1, .getfield 48, 3), (4, .ireturn, 1)]
set_option maxRecDepth 100000 in
theorem ev_d_170_0 : ∀ q ∈ ev_c_170_0, decode prog_39_method_8_code q.1 = .ok (q.2.1, q.2.2) := by decide +kernel
def ev_c_170 : List (Nat × List (Nat × Instr × Nat)) := [(0, ev_c_170_0)]
set_option maxRecDepth 100000 in
theorem ev_d_170 : ∀ q ∈ ev_c_170, ∀ z ∈ q.2, decode prog_39_method_8_code z.1 = .ok (z.2.1, z.2.2) := List.forall_mem_cons.mpr ⟨ev_d_170_0, fun _ h => absurd h List.not_mem_nil⟩
def ev_c_171_0 : List (Nat × Instr × Nat) := [(0, .aload_n 0, 1), (1, .invokespecial 1, 3), (4, .aload_n 0, 1), (5, .iconst 0, 1), (6, .putfield 7, 3), (9, .return_, 1)]
set_option maxRecDepth 100000 in
theorem ev_d_171_0 : ∀ q ∈ ev_c_171_0, decode prog_38_method_1_code q.1 = .ok (q.2.1, q.2.2) := by decide +kernel
def ev_c_171 : List (Nat × List (Nat × Instr × Nat)) := [(0, ev_c_171_0)]
set_option maxRecDepth 100000 in
theorem ev_d_171 : ∀ q ∈ ev_c_171, ∀ z ∈ q.2, decode prog_38_method_1_code z.1 = .ok (z.2.1, z.2.2) := List.forall_mem_cons.mpr ⟨ev_d_171_0, fun _ h => absurd h List.not_mem_nil⟩
def ev_c_172_0 : List (Nat × Instr × Nat) := [(0, .aload_n 0, 1), (1, .invokespecial 1, 3), (4, .return_, 1)]
set_option maxRecDepth 100000 in
theorem ev_d_172_0 : ∀ q ∈ ev_c_172_0, decode prog_37_method_1_code q.1 = .ok (q.2.1, q.2.2) := by decide +kernel
def ev_c_172 : List (Nat × List (Nat × Instr × Nat)) := [(0, ev_c_172_0)]
set_option maxRecDepth 100000 in
theorem ev_d_172 : ∀ q ∈ ev_c_172, ∀ z ∈ q.2, decode prog_37_method_1_code z.1 = .ok (z.2.1, z.2.2) := List.forall_mem_cons.mpr ⟨ev_d_172_0, fun _ h => absurd h List.not_mem_nil⟩
def ev_c_173_0 : List (Nat × Instr × Nat) := [(0, .aload_n 0, 1), (1, .aload_n 1, 1), (2, .invokespecial 7, 3), (5, .return_, 1)]
set_option maxRecDepth 100000 in
theorem ev_d_173_0 : ∀ q ∈ ev_c_173_0, decode prog_30_method_3_code q.1 = .ok (q.2.1, q.2.2) := by decide +kernel
def ev_c_173 : List (Nat × List (Nat × Instr × Nat)) := [(0, ev_c_173_0)]
set_option maxRecDepth 100000 in
theorem ev_d_173 : ∀ q ∈ ev_c_173, ∀ z ∈ q.2, decode prog_30_method_3_code z.1 = .ok (z.2.1, z.2.2) := List.forall_mem_cons.mpr ⟨ev_d_173_0, fun _ h => absurd h List.not_mem_nil⟩
def ev_c_174_0 : List (Nat × Instr × Nat) := [(0, .aload_n 0, 1), (1, .aload_n 1, 1), (2, .invokespecial 29, 3), (5, .pop, 1), (6, .aload_n 0, 1), (7, .areturn, 1)]
set_option maxRecDepth 100000 in
theorem ev_d_174_0 : ∀ q ∈ ev_c_174_0, decode prog_30_method_7_code q.1 = .ok (q.2.1, q.2.2) := by decide +kernel
def ev_c_174 : List (Nat × List (Nat × Instr × Nat)) := [(0, ev_c_174_0)]
set_option maxRecDepth 100000 in
theorem ev_d_174 : ∀ q ∈ ev_c_174, ∀ z ∈ q.2, decode prog_30_method_7_code z.1 = .ok (z.2.1, z.2.2) := List.forall_mem_cons.mpr ⟨ev_d_174_0, fun _ h => absurd h List.not_mem_nil⟩
def ev_c_175_0 : List (Nat × Instr × Nat) := [(0, .aload_n 0, 1), (1, .iload_n 1, 1), (2, .invokespecial 50, 3), (5, .pop, 1), (6, .aload_n 0, 1), (7, .areturn, 1)]
set_option maxRecDepth 100000 in
theorem ev_d_175_0 : ∀ q ∈ ev_c_175_0, decode prog_30_method_14_code q.1 = .ok (q.2.1, q.2.2) := by decide +kernel
def ev_c_175 : List (Nat × List (Nat × Instr × Nat)) := [(0, ev_c_175_0)]
set_option maxRecDepth 100000 in
theorem ev_d_175 : ∀ q ∈ ev_c_175, ∀ z ∈ q.2, decode prog_30_method_14_code z.1 = .ok (z.2.1, z.2.2) := List.forall_mem_cons.mpr ⟨ev_d_175_0, fun _ h => absurd h List.not_mem_nil⟩
def ev_c_176_0 : List (Nat × Instr × Nat) := [(0, .aload_n 0, 1), (1, .iload_n 1, 1), (2, .invokespecial 53, 3), (5, .pop, 1), (6, .aload_n 0, 1), (7, .areturn, 1)]
set_option maxRecDepth 100000 in
theorem ev_d_176_0 : ∀ q ∈ ev_c_176_0, decode prog_30_method_15_code q.1 = .ok (q.2.1, q.2.2) := by decide +kernel
def ev_c_176 : List (Nat × List (Nat × Instr × Nat)) := [(0, ev_c_176_0)]
set_option maxRecDepth 100000 in
theorem ev_d_176 : ∀ q ∈ ev_c_176, ∀ z ∈ q.2, decode prog_30_method_15_code z.1 = .ok (z.2.1, z.2.2) := List.forall_mem_cons.mpr ⟨ev_d_176_0, fun _ h => absurd h List.not_mem_nil⟩
def ev_c_177_0 : List (Nat × Instr × Nat) := [(0, .aload_n 0, 1), (1, .aload_n 1, 1), (2, .invokevirtual 23, 3), (5, .areturn, 1)]
set_option maxRecDepth 100000 in
theorem ev_d_177_0 : ∀ q ∈ ev_c_177_0, decode prog_30_method_80_code q.1 = .ok (q.2.1, q.2.2) := by decide +kernel
def ev_c_177 : List (Nat × List (Nat × Instr × Nat)) := [(0, ev_c_177_0)]
set_option maxRecDepth 100000 in
theorem ev_d_177 : ∀ q ∈ ev_c_177, ∀ z ∈ q.2, decode prog_30_method_80_code z.1 = .ok (z.2.1, z.2.2) := List.forall_mem_cons.mpr ⟨ev_d_177_0, fun _ h => absurd h List.not_mem_nil⟩
def ev_c_178_0 : List (Nat × Instr × Nat) := [(0, .new 18, 3), (3, .dup, 1), (4, .aload_n 0, 1), (5, .invokespecial 137, 3), (8, .areturn, 1)]
set_option maxRecDepth 100000 in
theorem ev_d_178_0 : ∀ q ∈ ev_c_178_0, decode prog_30_method_42_code q.1 = .ok (q.2.1, q.2.2) := by decide +kernel
def ev_c_178 : List (Nat × List (Nat × Instr × Nat)) := [(0, ev_c_178_0)]
set_option maxRecDepth 100000 in
theorem ev_d_178 : ∀ q ∈ ev_c_178, ∀ z ∈ q.2, decode prog_30_method_42_code z.1 = .ok (z.2.1, z.2.2) := List.forall_mem_cons.mpr ⟨ev_d_178_0, fun _ h => absurd h List.not_mem_nil⟩
def ev_c_179_0 : List (Nat × Instr × Nat) := [(0, .aload_n 0, 1), (1, .invokespecial 3, 3), (4, .aload_n 1, 1), (5, .invokevirtual 32, 3), (8, .istore_n 2, 1), (9, .iload_n 2, 1), (10, .ldc 38, 2), (12, .if_icmp .ge 10, 3), (15, .iload_n 2, 1), (16, .bipush 16, 2), (18, .iadd, 1), (19, .goto 5, 3), (22, .ldc 39, 2), (24, .istore_n 3, 1), (25, .aload_n 1, 1), (26, .invokevirtual 40, 3), (29, .istore 4, 2), (31, .aload_n 0, 1)]
set_option maxRecDepth 100000 in
theorem ev_d_179_0 : ∀ q ∈ ev_c_179_0, decode prog_14_method_3_code q.1 = .ok (q.2.1, q.2.2) := by decide +kernel
def ev_c_179_1 : List (Nat × Instr × Nat) := [(32, .iload 4, 2), (34, .putfield 22, 3), (37, .aload_n 0, 1), (38, .iload 4, 2), (40, .ifCond .ne 9, 3), (43, .iload_n 3, 1), (44, .newarray .byte, 2), (46, .goto 7, 3), (49, .iload_n 3, 1), (50, .invokestatic 26, 3), (53, .putfield 15, 3), (56, .aload_n 0, 1), (57, .aload_n 1, 1), (58, .invokevirtual 43, 3), (61, .pop, 1), (62, .return_, 1)]
set_option maxRecDepth 100000 in
theorem ev_d_179_1 : ∀ q ∈ ev_c_179_1, decode prog_14_method_3_code q.1 = .ok (q.2.1, q.2.2) := by decide +kernel
def ev_c_179 : List (Nat × List (Nat × Instr × Nat)) := [(0, ev_c_179_0), (1, ev_c_179_1)]
set_option maxRecDepth 100000 in
theorem ev_d_179 : ∀ q ∈ ev_c_179, ∀ z ∈ q.2, decode prog_14_method_3_code z.1 = .ok (z.2.1, z.2.2) := List.forall_mem_cons.mpr ⟨ev_d_179_0, List.forall_mem_cons.mpr ⟨ev_d_179_1, fun _ h => absurd h List.not_mem_nil⟩⟩
def ev_c_180_0 : List (Nat × Instr × Nat) := [(0, .aload_n 1, 1), (1, .ifnonnull 8, 3), (4, .aload_n 0, 1), (5, .invokevirtual 204, 3), (8, .areturn, 1), (9, .aload_n 1, 1), (10, .invokevirtual 32, 3), (13, .istore_n 2, 1), (14, .aload_n 0, 1), (15, .aload_n 0, 1), (16, .getfield 79, 3), (19, .iload_n 2, 1), (20, .iadd, 1), (21, .invokevirtual 100, 3), (24, .aload_n 0, 1), (25, .aload_n 0, 1), (26, .getfield 79, 3), (29, .aload_n 1, 1), (30, .invokevirtual 208, 3)]
set_option maxRecDepth 100000 in
theorem ev_d_180_0 : ∀ q ∈ ev_c_180_0, decode prog_14_method_22_code q.1 = .ok (q.2.1, q.2.2) := by decide +kernel
def ev_c_180_1 : List (Nat × Instr × Nat) := [(33, .aload_n 0, 1), (34, .dup, 1), (35, .getfield 79, 3), (38, .iload_n 2, 1), (39, .iadd, 1), (40, .putfield 79, 3), (43, .aload_n 0, 1), (44, .areturn, 1)]
set_option maxRecDepth 100000 in
theorem ev_d_180_1 : ∀ q ∈ ev_c_180_1, decode prog_14_method_22_code q.1 = .ok (q.2.1, q.2.2) := by decide +kernel
def ev_c_180 : List (Nat × List (Nat × Instr × Nat)) := [(0, ev_c_180_0), (1, ev_c_180_1)]
set_option maxRecDepth 100000 in
theorem ev_d_180 : ∀ q ∈ ev_c_180, ∀ z ∈ q.2, decode prog_14_method_22_code z.1 = .ok (z.2.1, z.2.2) := List.forall_mem_cons.mpr ⟨ev_d_180_0, List.forall_mem_cons.mpr ⟨ev_d_180_1, fun _ h => absurd h List.not_mem_nil⟩⟩
def ev_c_181_0 : List (Nat × Instr × Nat) := [(0, .aload_n 0, 1), (1, .aload_n 0, 1), (2, .getfield 79, 3), (5, .iconst 1, 1), (6, .iadd, 1), (7, .invokevirtual 100, 3), (10, .aload_n 0, 1), (11, .invokevirtual 83, 3), (14, .ifCond .eq 31, 3), (17, .iload_n 1, 1), (18, .invokestatic 191, 3), (21, .ifCond .eq 24, 3), (24, .aload_n 0, 1), (25, .getfield 15, 3), (28, .aload_n 0, 1), (29, .dup, 1), (30, .getfield 79, 3)]
set_option maxRecDepth 100000 in
theorem ev_d_181_0 : ∀ q ∈ ev_c_181_0, decode prog_14_method_31_code q.1 = .ok (q.2.1, q.2.2) := by decide +kernel
def ev_c_181_1 : List (Nat × Instr × Nat) := [(33, .dup_x1, 1), (34, .iconst 1, 1), (35, .iadd, 1), (36, .putfield 79, 3), (39, .iload_n 1, 1), (40, .i2b, 1), (41, .bastore, 1), (42, .goto 33, 3), (45, .aload_n 0, 1), (46, .invokevirtual 83, 3), (49, .ifCond .eq 7, 3), (52, .aload_n 0, 1), (53, .invokevirtual 195, 3), (56, .aload_n 0, 1), (57, .getfield 15, 3), (60, .aload_n 0, 1), (61, .dup, 1), (62, .getfield 79, 3)]
set_option maxRecDepth 100000 in
theorem ev_d_181_1 : ∀ q ∈ ev_c_181_1, decode prog_14_method_31_code q.1 = .ok (q.2.1, q.2.2) := by decide +kernel
def ev_c_181_2 : List (Nat × Instr × Nat) := [(65, .dup_x1, 1), (66, .iconst 1, 1), (67, .iadd, 1), (68, .putfield 79, 3), (71, .iload_n 1, 1), (72, .invokestatic 197, 3), (75, .aload_n 0, 1), (76, .areturn, 1)]
set_option maxRecDepth 100000 in
theorem ev_d_181_2 : ∀ q ∈ ev_c_181_2, decode prog_14_method_31_code q.1 = .ok (q.2.1, q.2.2) := by decide +kernel
def ev_c_181 : List (Nat × List (Nat × Instr × Nat)) := [(0, ev_c_181_0), (1, ev_c_181_1), (2, ev_c_181_2)]
set_option maxRecDepth 100000 in
theorem ev_d_181 : ∀ q ∈ ev_c_181, ∀ z ∈ q.2, decode prog_14_method_31_code z.1 = .ok (z.2.1, z.2.2) := List.forall_mem_cons.mpr ⟨ev_d_181_0, List.forall_mem_cons.mpr ⟨ev_d_181_1, List.forall_mem_cons.mpr ⟨ev_d_181_2, fun _ h => absurd h List.not_mem_nil⟩⟩⟩
def ev_c_182_0 : List (Nat × Instr × Nat) := [(0, .aload_n 0, 1), (1, .getfield 79, 3), (4, .istore_n 2, 1), (5, .iload_n 2, 1), (6, .iload_n 1, 1), (7, .invokestatic 245, 3), (10, .iadd, 1), (11, .istore_n 3, 1), (12, .aload_n 0, 1), (13, .iload_n 3, 1), (14, .invokevirtual 100, 3), (17, .aload_n 0, 1), (18, .invokevirtual 83, 3), (21, .ifCond .eq 16, 3), (24, .iload_n 1, 1), (25, .iload_n 3, 1), (26, .aload_n 0, 1), (27, .getfield 15, 3), (30, .invokestatic 248, 3)]
set_option maxRecDepth 100000 in
theorem ev_d_182_0 : ∀ q ∈ ev_c_182_0, decode prog_14_method_32_code q.1 = .ok (q.2.1, q.2.2) := by decide +kernel
def ev_c_182_1 : List (Nat × Instr × Nat) := [(33, .pop, 1), (34, .goto 14, 3), (37, .iload_n 1, 1), (38, .iload_n 2, 1), (39, .iload_n 3, 1), (40, .aload_n 0, 1), (41, .getfield 15, 3), (44, .invokestatic 251, 3), (47, .pop, 1), (48, .aload_n 0, 1), (49, .iload_n 3, 1), (50, .putfield 79, 3), (53, .aload_n 0, 1), (54, .areturn, 1)]
set_option maxRecDepth 100000 in
theorem ev_d_182_1 : ∀ q ∈ ev_c_182_1, decode prog_14_method_32_code q.1 = .ok (q.2.1, q.2.2) := by decide +kernel
def ev_c_182 : List (Nat × List (Nat × Instr × Nat)) := [(0, ev_c_182_0), (1, ev_c_182_1)]
set_option maxRecDepth 100000 in
theorem ev_d_182 : ∀ q ∈ ev_c_182, ∀ z ∈ q.2, decode prog_14_method_32_code z.1 = .ok (z.2.1, z.2.2) := List.forall_mem_cons.mpr ⟨ev_d_182_0, List.forall_mem_cons.mpr ⟨ev_d_182_1, fun _ h => absurd h List.not_mem_nil⟩⟩
def ev_c_183_0 : List (Nat × Instr × Nat) := [(0, .aload_n 0, 1), (1, .getfield 15, 3), (4, .arraylength, 1), (5, .aload_n 0, 1), (6, .getfield 22, 3), (9, .ishr, 1), (10, .istore_n 2, 1), (11, .iload_n 1, 1), (12, .iload_n 2, 1), (13, .isub, 1), (14, .ifCond .le 24, 3), (17, .aload_n 0, 1), (18, .aload_n 0, 1), (19, .getfield 15, 3), (22, .aload_n 0, 1), (23, .iload_n 1, 1), (24, .invokevirtual 104, 3), (27, .aload_n 0, 1), (28, .getfield 22, 3), (31, .ishl, 1)]
set_option maxRecDepth 100000 in
theorem ev_d_183_0 : ∀ q ∈ ev_c_183_0, decode prog_14_method_9_code q.1 = .ok (q.2.1, q.2.2) := by decide +kernel
def ev_c_183_1 : List (Nat × Instr × Nat) := [(32, .invokestatic 108, 3), (35, .putfield 15, 3), (38, .return_, 1)]
set_option maxRecDepth 100000 in
theorem ev_d_183_1 : ∀ q ∈ ev_c_183_1, decode prog_14_method_9_code q.1 = .ok (q.2.1, q.2.2) := by decide +kernel
def ev_c_183 : List (Nat × List (Nat × Instr × Nat)) := [(0, ev_c_183_0), (1, ev_c_183_1)]
set_option maxRecDepth 100000 in
theorem ev_d_183 : ∀ q ∈ ev_c_183, ∀ z ∈ q.2, decode prog_14_method_9_code z.1 = .ok (z.2.1, z.2.2) := List.forall_mem_cons.mpr ⟨ev_d_183_0, List.forall_mem_cons.mpr ⟨ev_d_183_1, fun _ h => absurd h List.not_mem_nil⟩⟩
def ev_c_184_0 : List (Nat × Instr × Nat) := [(0, .aload_n 0, 1), (1, .getfield 15, 3), (4, .arraylength, 1), (5, .istore_n 2, 1), (6, .iload_n 1, 1), (7, .aload_n 0, 1), (8, .getfield 22, 3), (11, .ishl, 1), (12, .istore_n 3, 1), (13, .iload_n 3, 1), (14, .iload_n 2, 1), (15, .isub, 1), (16, .istore 4, 2), (18, .iload_n 2, 1), (19, .iload 4, 2), (21, .iload_n 2, 1), (22, .iconst 2, 1), (23, .aload_n 0, 1), (24, .getfield 22, 3), (27, .ishl, 1), (28, .iadd, 1), (29, .invokestatic 114, 3)]
set_option maxRecDepth 100000 in
theorem ev_d_184_0 : ∀ q ∈ ev_c_184_0, decode prog_14_method_10_code q.1 = .ok (q.2.1, q.2.2) := by decide +kernel
def ev_c_184_1 : List (Nat × Instr × Nat) := [(32, .istore 5, 2), (34, .iload 5, 2), (36, .ldc 39, 2), (38, .if_icmp .ne 13, 3), (41, .new 120, 3), (44, .dup, 1), (45, .ldc 122, 2), (47, .invokespecial 124, 3), (50, .athrow, 1), (51, .iload 5, 2), (53, .aload_n 0, 1), (54, .getfield 22, 3), (57, .ishr, 1), (58, .ireturn, 1)]
set_option maxRecDepth 100000 in
theorem ev_d_184_1 : ∀ q ∈ ev_c_184_1, decode prog_14_method_10_code q.1 = .ok (q.2.1, q.2.2) := by decide +kernel
def ev_c_184 : List (Nat × List (Nat × Instr × Nat)) := [(0, ev_c_184_0), (1, ev_c_184_1)]
set_option maxRecDepth 100000 in
theorem ev_d_184 : ∀ q ∈ ev_c_184, ∀ z ∈ q.2, decode prog_14_method_10_code z.1 = .ok (z.2.1, z.2.2) := List.forall_mem_cons.mpr ⟨ev_d_184_0, List.forall_mem_cons.mpr ⟨ev_d_184_1, fun _ h => absurd h List.not_mem_nil⟩⟩
def ev_c_185_0 : List (Nat × Instr × Nat) := [(0, .aload_n 0, 1), (1, .aload_n 2, 1), (2, .invokevirtual 397, 3), (5, .aload_n 2, 1), (6, .aload_n 0, 1), (7, .getfield 15, 3), (10, .iload_n 1, 1), (11, .aload_n 0, 1), (12, .getfield 22, 3), (15, .invokevirtual 399, 3), (18, .return_, 1)]
set_option maxRecDepth 100000 in
theorem ev_d_185_0 : ∀ q ∈ ev_c_185_0, decode prog_14_method_73_code q.1 = .ok (q.2.1, q.2.2) := by decide +kernel
def ev_c_185 : List (Nat × List (Nat × Instr × Nat)) := [(0, ev_c_185_0)]
set_option maxRecDepth 100000 in
theorem ev_d_185 : ∀ q ∈ ev_c_185, ∀ z ∈ q.2, decode prog_14_method_73_code z.1 = .ok (z.2.1, z.2.2) := List.forall_mem_cons.mpr ⟨ev_d_185_0, fun _ h => absurd h List.not_mem_nil⟩
def ev_c_186_0 : List (Nat × Instr × Nat) := [(0, .getstatic 18, 3), (3, .ifCond .eq 18, 3), (6, .aload_n 0, 1), (7, .getfield 22, 3), (10, .aload_n 1, 1), (11, .invokevirtual 40, 3), (14, .if_icmp .eq 7, 3), (17, .aload_n 0, 1), (18, .invokevirtual 195, 3), (21, .return_, 1)]
set_option maxRecDepth 100000 in
theorem ev_d_186_0 : ∀ q ∈ ev_c_186_0, decode prog_14_method_71_code q.1 = .ok (q.2.1, q.2.2) := by decide +kernel
def ev_c_186 : List (Nat × List (Nat × Instr × Nat)) := [(0, ev_c_186_0)]
set_option maxRecDepth 100000 in
theorem ev_d_186 : ∀ q ∈ ev_c_186, ∀ z ∈ q.2, decode prog_14_method_71_code z.1 = .ok (z.2.1, z.2.2) := List.forall_mem_cons.mpr ⟨ev_d_186_0, fun _ h => absurd h List.not_mem_nil⟩
def ev_c_187_0 : List (Nat × Instr × Nat) := [(0, .getstatic 18, 3), (3, .ifCond .eq 14, 3), (6, .aload_n 0, 1), (7, .getfield 22, 3), (10, .ifCond .ne 7, 3), (13, .iconst 1, 1), (14, .goto 4, 3), (17, .iconst 0, 1), (18, .ireturn, 1)]
set_option maxRecDepth 100000 in
theorem ev_d_187_0 : ∀ q ∈ ev_c_187_0, decode prog_14_method_68_code q.1 = .ok (q.2.1, q.2.2) := by decide +kernel
def ev_c_187 : List (Nat × List (Nat × Instr × Nat)) := [(0, ev_c_187_0)]
set_option maxRecDepth 100000 in
theorem ev_d_187 : ∀ q ∈ ev_c_187, ∀ z ∈ q.2, decode prog_14_method_68_code z.1 = .ok (z.2.1, z.2.2) := List.forall_mem_cons.mpr ⟨ev_d_187_0, fun _ h => absurd h List.not_mem_nil⟩
def ev_c_188_0 : List (Nat × Instr × Nat) := [(0, .aload_n 0, 1), (1, .getfield 15, 3), (4, .areturn, 1)]
set_option maxRecDepth 100000 in
theorem ev_d_188_0 : ∀ q ∈ ev_c_188_0, decode prog_14_method_64_code q.1 = .ok (q.2.1, q.2.2) := by decide +kernel
def ev_c_188 : List (Nat × List (Nat × Instr × Nat)) := [(0, ev_c_188_0)]
set_option maxRecDepth 100000 in
theorem ev_d_188 : ∀ q ∈ ev_c_188, ∀ z ∈ q.2, decode prog_14_method_64_code z.1 = .ok (z.2.1, z.2.2) := List.forall_mem_cons.mpr ⟨ev_d_188_0, fun _ h => absurd h List.not_mem_nil⟩
def ev_c_189_0 : List (Nat × Instr × Nat) := [(0, .aload_n 0, 1), (1, .getfield 79, 3), (4, .ireturn, 1)]
set_option maxRecDepth 100000 in
theorem ev_d_189_0 : ∀ q ∈ ev_c_189_0, decode prog_14_method_6_code q.1 = .ok (q.2.1, q.2.2) := by decide +kernel
def ev_c_189 : List (Nat × List (Nat × Instr × Nat)) := [(0, ev_c_189_0)]
set_option maxRecDepth 100000 in
theorem ev_d_189 : ∀ q ∈ ev_c_189, ∀ z ∈ q.2, decode prog_14_method_6_code z.1 = .ok (z.2.1, z.2.2) := List.forall_mem_cons.mpr ⟨ev_d_189_0, fun _ h => absurd h List.not_mem_nil⟩
def ev_c_190_0 : List (Nat × Instr × Nat) := [(0, .aload_n 0, 1), (1, .aload_n 1, 1), (2, .aconst_null, 1), (3, .invokespecial 489, 3), (6, .return_, 1)]
set_option maxRecDepth 100000 in
theorem ev_d_190_0 : ∀ q ∈ ev_c_190_0, decode prog_29_method_53_code q.1 = .ok (q.2.1, q.2.2) := by decide +kernel
def ev_c_190 : List (Nat × List (Nat × Instr × Nat)) := [(0, ev_c_190_0)]
set_option maxRecDepth 100000 in
theorem ev_d_190 : ∀ q ∈ ev_c_190, ∀ z ∈ q.2, decode prog_29_method_53_code z.1 = .ok (z.2.1, z.2.2) := List.forall_mem_cons.mpr ⟨ev_d_190_0, fun _ h => absurd h List.not_mem_nil⟩
def ev_c_191_0 : List (Nat × Instr × Nat) := [(0, .aload_n 0, 1), (1, .invokespecial 1, 3), (4, .aload_n 1, 1), (5, .invokevirtual 552, 3), (8, .astore_n 3, 1), (9, .aload_n 1, 1), (10, .invokevirtual 549, 3), (13, .istore 4, 2), (15, .aload_n 1, 1), (16, .invokevirtual 1047, 3), (19, .ifCond .eq 22, 3), (22, .aload_n 0, 1), (23, .iconst 0, 1), (24, .putfield 15, 3), (27, .aload_n 0, 1), (28, .aload_n 3, 1), (29, .iconst 0, 1), (30, .iload 4, 2)]
set_option maxRecDepth 100000 in
theorem ev_d_191_0 : ∀ q ∈ ev_c_191_0, decode prog_29_method_150_code q.1 = .ok (q.2.1, q.2.2) := by decide +kernel
def ev_c_191_1 : List (Nat × Instr × Nat) := [(32, .invokestatic 54, 3), (35, .putfield 9, 3), (38, .goto 59, 3), (41, .getstatic 38, 3), (44, .ifCond .eq 35, 3), (47, .aload_n 1, 1), (48, .getfield 1048, 3), (51, .ifCond .eq 28, 3), (54, .aload_n 0, 1), (55, .aload_n 3, 1), (56, .iconst 0, 1), (57, .iload 4, 2), (59, .invokestatic 1051, 3), (62, .putfield 9, 3)]
set_option maxRecDepth 100000 in
theorem ev_d_191_1 : ∀ q ∈ ev_c_191_1, decode prog_29_method_150_code q.1 = .ok (q.2.1, q.2.2) := by decide +kernel
def ev_c_191_2 : List (Nat × Instr × Nat) := [(65, .aload_n 0, 1), (66, .aload_n 0, 1), (67, .getfield 9, 3), (70, .iload 4, 2), (72, .invokestatic 47, 3), (75, .putfield 15, 3), (78, .return_, 1), (79, .aload_n 0, 1), (80, .iconst 1, 1), (81, .putfield 15, 3), (84, .aload_n 0, 1), (85, .aload_n 3, 1), (86, .iconst 0, 1), (87, .iload 4, 2), (89, .iconst 1, 1), (90, .ishl, 1), (91, .invokestatic 54, 3), (94, .putfield 9, 3)]
set_option maxRecDepth 100000 in
theorem ev_d_191_2 : ∀ q ∈ ev_c_191_2, decode prog_29_method_150_code q.1 = .ok (q.2.1, q.2.2) := by decide +kernel
def ev_c_191_3 : List (Nat × Instr × Nat) := [(97, .return_, 1)]
set_option maxRecDepth 100000 in
theorem ev_d_191_3 : ∀ q ∈ ev_c_191_3, decode prog_29_method_150_code q.1 = .ok (q.2.1, q.2.2) := by decide +kernel
def ev_c_191 : List (Nat × List (Nat × Instr × Nat)) := [(0, ev_c_191_0), (1, ev_c_191_1), (2, ev_c_191_2), (3, ev_c_191_3)]
set_option maxRecDepth 100000 in
theorem ev_d_191 : ∀ q ∈ ev_c_191, ∀ z ∈ q.2, decode prog_29_method_150_code z.1 = .ok (z.2.1, z.2.2) := List.forall_mem_cons.mpr ⟨ev_d_191_0, List.forall_mem_cons.mpr ⟨ev_d_191_1, List.forall_mem_cons.mpr ⟨ev_d_191_2, List.forall_mem_cons.mpr ⟨ev_d_191_3, fun _ h => absurd h List.not_mem_nil⟩⟩⟩⟩
