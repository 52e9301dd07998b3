/-! code, by wip/gen/gen.py -/
def ev_c_401_0 : List (Nat × Instr × Nat) := [(0, .aload_n 3, 1), (1, .iconst 0, 1), (2, .aload_n 0, 1), (3, .iload_n 1, 1), (4, .iload_n 2, 1), (5, .invokevirtual 103, 3), (8, .i2l, 1), (9, .lastore, 1), (10, .goto 15, 3), (13, .astore 4, 2), (15, .iconst 1, 1), (16, .ireturn, 1), (17, .astore 4, 2), (19, .iconst 2, 1), (20, .ireturn, 1), (21, .astore 4, 2), (23, .iconst 3, 1), (24, .ireturn, 1), (25, .iconst 0, 1), (26, .ireturn, 1)]
set_option maxRecDepth 100000 in
theorem ev_d_401_0 : ∀ q ∈ ev_c_401_0, decode method_31_code q.1 = .ok (q.2.1, q.2.2) := fd_rows (by decide +kernel)
def ev_c_401 : List (Nat × List (Nat × Instr × Nat)) := [(0, ev_c_401_0)]
set_option maxRecDepth 100000 in
theorem ev_d_401 : ∀ q ∈ ev_c_401, ∀ z ∈ q.2, decode method_31_code z.1 = .ok (z.2.1, z.2.2) := List.forall_mem_cons.mpr ⟨ev_d_401_0, fun _ h => absurd h List.not_mem_nil⟩
def ev_c_402_0 : List (Nat × Instr × Nat) := [(0, .aload_n 2, 1), (1, .iconst 0, 1), (2, .aload_n 0, 1), (3, .iload_n 1, 1), (4, .invokevirtual 106, 3), (7, .i2l, 1), (8, .lastore, 1), (9, .goto 9, 3), (12, .astore_n 3, 1), (13, .iconst 1, 1), (14, .ireturn, 1), (15, .astore_n 3, 1), (16, .iconst 2, 1), (17, .ireturn, 1), (18, .iconst 0, 1), (19, .ireturn, 1)]
set_option maxRecDepth 100000 in
theorem ev_d_402_0 : ∀ q ∈ ev_c_402_0, decode method_32_code q.1 = .ok (q.2.1, q.2.2) := fd_rows (by decide +kernel)
def ev_c_402 : List (Nat × List (Nat × Instr × Nat)) := [(0, ev_c_402_0)]
set_option maxRecDepth 100000 in
theorem ev_d_402 : ∀ q ∈ ev_c_402, ∀ z ∈ q.2, decode method_32_code z.1 = .ok (z.2.1, z.2.2) := List.forall_mem_cons.mpr ⟨ev_d_402_0, fun _ h => absurd h List.not_mem_nil⟩
def ev_c_403_0 : List (Nat × Instr × Nat) := [(0, .aload_n 3, 1), (1, .iconst 0, 1), (2, .aload_n 0, 1), (3, .iload_n 1, 1), (4, .iload_n 2, 1), (5, .invokevirtual 109, 3), (8, .i2l, 1), (9, .lastore, 1), (10, .goto 15, 3), (13, .astore 4, 2), (15, .iconst 1, 1), (16, .ireturn, 1), (17, .astore 4, 2), (19, .iconst 2, 1), (20, .ireturn, 1), (21, .astore 4, 2), (23, .iconst 3, 1), (24, .ireturn, 1), (25, .iconst 0, 1), (26, .ireturn, 1)]
set_option maxRecDepth 100000 in
theorem ev_d_403_0 : ∀ q ∈ ev_c_403_0, decode method_33_code q.1 = .ok (q.2.1, q.2.2) := fd_rows (by decide +kernel)
def ev_c_403 : List (Nat × List (Nat × Instr × Nat)) := [(0, ev_c_403_0)]
set_option maxRecDepth 100000 in
theorem ev_d_403 : ∀ q ∈ ev_c_403, ∀ z ∈ q.2, decode method_33_code z.1 = .ok (z.2.1, z.2.2) := List.forall_mem_cons.mpr ⟨ev_d_403_0, fun _ h => absurd h List.not_mem_nil⟩
def ev_c_404_0 : List (Nat × Instr × Nat) := [(0, .aload_n 2, 1), (1, .iconst 0, 1), (2, .aload_n 0, 1), (3, .iload_n 1, 1), (4, .invokevirtual 112, 3), (7, .i2l, 1), (8, .lastore, 1), (9, .goto 9, 3), (12, .astore_n 3, 1), (13, .iconst 1, 1), (14, .ireturn, 1), (15, .astore_n 3, 1), (16, .iconst 2, 1), (17, .ireturn, 1), (18, .iconst 0, 1), (19, .ireturn, 1)]
set_option maxRecDepth 100000 in
theorem ev_d_404_0 : ∀ q ∈ ev_c_404_0, decode method_34_code q.1 = .ok (q.2.1, q.2.2) := fd_rows (by decide +kernel)
def ev_c_404 : List (Nat × List (Nat × Instr × Nat)) := [(0, ev_c_404_0)]
set_option maxRecDepth 100000 in
theorem ev_d_404 : ∀ q ∈ ev_c_404, ∀ z ∈ q.2, decode method_34_code z.1 = .ok (z.2.1, z.2.2) := List.forall_mem_cons.mpr ⟨ev_d_404_0, fun _ h => absurd h List.not_mem_nil⟩
def ev_c_405_0 : List (Nat × Instr × Nat) := [(0, .aload_n 1, 1), (1, .iconst 0, 1), (2, .aload_n 0, 1), (3, .invokevirtual 115, 3), (6, .i2l, 1), (7, .lastore, 1), (8, .goto 6, 3), (11, .astore_n 2, 1), (12, .iconst 1, 1), (13, .ireturn, 1), (14, .iconst 0, 1), (15, .ireturn, 1)]
set_option maxRecDepth 100000 in
theorem ev_d_405_0 : ∀ q ∈ ev_c_405_0, decode method_35_code q.1 = .ok (q.2.1, q.2.2) := fd_rows (by decide +kernel)
def ev_c_405 : List (Nat × List (Nat × Instr × Nat)) := [(0, ev_c_405_0)]
set_option maxRecDepth 100000 in
theorem ev_d_405 : ∀ q ∈ ev_c_405, ∀ z ∈ q.2, decode method_35_code z.1 = .ok (z.2.1, z.2.2) := List.forall_mem_cons.mpr ⟨ev_d_405_0, fun _ h => absurd h List.not_mem_nil⟩
def ev_c_406_0 : List (Nat × Instr × Nat) := [(0, .aload_n 3, 1), (1, .iconst 0, 1), (2, .aload_n 0, 1), (3, .iload_n 1, 1), (4, .iload_n 2, 1), (5, .invokevirtual 118, 3), (8, .i2l, 1), (9, .lastore, 1), (10, .goto 15, 3), (13, .astore 4, 2), (15, .iconst 1, 1), (16, .ireturn, 1), (17, .astore 4, 2), (19, .iconst 2, 1), (20, .ireturn, 1), (21, .astore 4, 2), (23, .iconst 3, 1), (24, .ireturn, 1), (25, .iconst 0, 1), (26, .ireturn, 1)]
set_option maxRecDepth 100000 in
theorem ev_d_406_0 : ∀ q ∈ ev_c_406_0, decode method_36_code q.1 = .ok (q.2.1, q.2.2) := fd_rows (by decide +kernel)
def ev_c_406 : List (Nat × List (Nat × Instr × Nat)) := [(0, ev_c_406_0)]
set_option maxRecDepth 100000 in
theorem ev_d_406 : ∀ q ∈ ev_c_406, ∀ z ∈ q.2, decode method_36_code z.1 = .ok (z.2.1, z.2.2) := List.forall_mem_cons.mpr ⟨ev_d_406_0, fun _ h => absurd h List.not_mem_nil⟩
def ev_c_407_0 : List (Nat × Instr × Nat) := [(0, .aload_n 1, 1), (1, .iconst 0, 1), (2, .aload_n 0, 1), (3, .invokevirtual 121, 3), (6, .f2d, 1), (7, .dastore, 1), (8, .goto 6, 3), (11, .astore_n 2, 1), (12, .iconst 1, 1), (13, .ireturn, 1), (14, .iconst 0, 1), (15, .ireturn, 1)]
set_option maxRecDepth 100000 in
theorem ev_d_407_0 : ∀ q ∈ ev_c_407_0, decode method_37_code q.1 = .ok (q.2.1, q.2.2) := fd_rows (by decide +kernel)
def ev_c_407 : List (Nat × List (Nat × Instr × Nat)) := [(0, ev_c_407_0)]
set_option maxRecDepth 100000 in
theorem ev_d_407 : ∀ q ∈ ev_c_407, ∀ z ∈ q.2, decode method_37_code z.1 = .ok (z.2.1, z.2.2) := List.forall_mem_cons.mpr ⟨ev_d_407_0, fun _ h => absurd h List.not_mem_nil⟩
def ev_c_408_0 : List (Nat × Instr × Nat) := [(0, .aload_n 1, 1), (1, .iconst 0, 1), (2, .aload_n 0, 1), (3, .invokevirtual 125, 3), (6, .dastore, 1), (7, .goto 6, 3), (10, .astore_n 2, 1), (11, .iconst 1, 1), (12, .ireturn, 1), (13, .iconst 0, 1), (14, .ireturn, 1)]
set_option maxRecDepth 100000 in
theorem ev_d_408_0 : ∀ q ∈ ev_c_408_0, decode method_38_code q.1 = .ok (q.2.1, q.2.2) := fd_rows (by decide +kernel)
def ev_c_408 : List (Nat × List (Nat × Instr × Nat)) := [(0, ev_c_408_0)]
set_option maxRecDepth 100000 in
theorem ev_d_408 : ∀ q ∈ ev_c_408, ∀ z ∈ q.2, decode method_38_code z.1 = .ok (z.2.1, z.2.2) := List.forall_mem_cons.mpr ⟨ev_d_408_0, fun _ h => absurd h List.not_mem_nil⟩
def ev_c_409_0 : List (Nat × Instr × Nat) := [(0, .aload_n 2, 1), (1, .iconst 0, 1), (2, .aload_n 0, 1), (3, .iload_n 1, 1), (4, .invokevirtual 129, 3), (7, .i2l, 1), (8, .lastore, 1), (9, .goto 9, 3), (12, .astore_n 3, 1), (13, .iconst 1, 1), (14, .ireturn, 1), (15, .astore_n 3, 1), (16, .iconst 2, 1), (17, .ireturn, 1), (18, .iconst 0, 1), (19, .ireturn, 1)]
set_option maxRecDepth 100000 in
theorem ev_d_409_0 : ∀ q ∈ ev_c_409_0, decode method_39_code q.1 = .ok (q.2.1, q.2.2) := fd_rows (by decide +kernel)
def ev_c_409 : List (Nat × List (Nat × Instr × Nat)) := [(0, ev_c_409_0)]
set_option maxRecDepth 100000 in
theorem ev_d_409 : ∀ q ∈ ev_c_409, ∀ z ∈ q.2, decode method_39_code z.1 = .ok (z.2.1, z.2.2) := List.forall_mem_cons.mpr ⟨ev_d_409_0, fun _ h => absurd h List.not_mem_nil⟩
def ev_c_410_0 : List (Nat × Instr × Nat) := [(0, .aload_n 2, 1), (1, .iconst 0, 1), (2, .aload_n 0, 1), (3, .iload_n 1, 1), (4, .invokevirtual 132, 3), (7, .i2l, 1), (8, .lastore, 1), (9, .goto 9, 3), (12, .astore_n 3, 1), (13, .iconst 1, 1), (14, .ireturn, 1), (15, .astore_n 3, 1), (16, .iconst 2, 1), (17, .ireturn, 1), (18, .iconst 0, 1), (19, .ireturn, 1)]
set_option maxRecDepth 100000 in
theorem ev_d_410_0 : ∀ q ∈ ev_c_410_0, decode method_40_code q.1 = .ok (q.2.1, q.2.2) := fd_rows (by decide +kernel)
def ev_c_410 : List (Nat × List (Nat × Instr × Nat)) := [(0, ev_c_410_0)]
set_option maxRecDepth 100000 in
theorem ev_d_410 : ∀ q ∈ ev_c_410, ∀ z ∈ q.2, decode method_40_code z.1 = .ok (z.2.1, z.2.2) := List.forall_mem_cons.mpr ⟨ev_d_410_0, fun _ h => absurd h List.not_mem_nil⟩
def ev_c_411_0 : List (Nat × Instr × Nat) := [(0, .aload_n 2, 1), (1, .iconst 0, 1), (2, .aload_n 0, 1), (3, .iload_n 1, 1), (4, .invokevirtual 135, 3), (7, .i2l, 1), (8, .lastore, 1), (9, .goto 9, 3), (12, .astore_n 3, 1), (13, .iconst 1, 1), (14, .ireturn, 1), (15, .astore_n 3, 1), (16, .iconst 2, 1), (17, .ireturn, 1), (18, .iconst 0, 1), (19, .ireturn, 1)]
set_option maxRecDepth 100000 in
theorem ev_d_411_0 : ∀ q ∈ ev_c_411_0, decode method_41_code q.1 = .ok (q.2.1, q.2.2) := fd_rows (by decide +kernel)
def ev_c_411 : List (Nat × List (Nat × Instr × Nat)) := [(0, ev_c_411_0)]
set_option maxRecDepth 100000 in
theorem ev_d_411 : ∀ q ∈ ev_c_411, ∀ z ∈ q.2, decode method_41_code z.1 = .ok (z.2.1, z.2.2) := List.forall_mem_cons.mpr ⟨ev_d_411_0, fun _ h => absurd h List.not_mem_nil⟩
def ev_c_412_0 : List (Nat × Instr × Nat) := [(0, .aload_n 1, 1), (1, .iconst 0, 1), (2, .aload_n 0, 1), (3, .invokevirtual 138, 3), (6, .i2l, 1), (7, .lastore, 1), (8, .goto 6, 3), (11, .astore_n 2, 1), (12, .iconst 1, 1), (13, .ireturn, 1), (14, .iconst 0, 1), (15, .ireturn, 1)]
set_option maxRecDepth 100000 in
theorem ev_d_412_0 : ∀ q ∈ ev_c_412_0, decode method_42_code q.1 = .ok (q.2.1, q.2.2) := fd_rows (by decide +kernel)
def ev_c_412 : List (Nat × List (Nat × Instr × Nat)) := [(0, ev_c_412_0)]
set_option maxRecDepth 100000 in
theorem ev_d_412 : ∀ q ∈ ev_c_412, ∀ z ∈ q.2, decode method_42_code z.1 = .ok (z.2.1, z.2.2) := List.forall_mem_cons.mpr ⟨ev_d_412_0, fun _ h => absurd h List.not_mem_nil⟩
def ev_c_413_0 : List (Nat × Instr × Nat) := [(0, .aload_n 2, 1), (1, .iconst 0, 1), (2, .aload_n 0, 1), (3, .iload_n 1, 1), (4, .invokevirtual 141, 3), (7, .i2l, 1), (8, .lastore, 1), (9, .goto 6, 3), (12, .astore_n 3, 1), (13, .iconst 1, 1), (14, .ireturn, 1), (15, .iconst 0, 1), (16, .ireturn, 1)]
set_option maxRecDepth 100000 in
theorem ev_d_413_0 : ∀ q ∈ ev_c_413_0, decode method_43_code q.1 = .ok (q.2.1, q.2.2) := fd_rows (by decide +kernel)
def ev_c_413 : List (Nat × List (Nat × Instr × Nat)) := [(0, ev_c_413_0)]
set_option maxRecDepth 100000 in
theorem ev_d_413 : ∀ q ∈ ev_c_413, ∀ z ∈ q.2, decode method_43_code z.1 = .ok (z.2.1, z.2.2) := List.forall_mem_cons.mpr ⟨ev_d_413_0, fun _ h => absurd h List.not_mem_nil⟩
def ev_c_414_0 : List (Nat × Instr × Nat) := [(0, .aload_n 3, 1), (1, .iconst 0, 1), (2, .aload_n 0, 1), (3, .iload_n 1, 1), (4, .iload_n 2, 1), (5, .invokevirtual 144, 3), (8, .i2l, 1), (9, .lastore, 1), (10, .goto 15, 3), (13, .astore 4, 2), (15, .iconst 1, 1), (16, .ireturn, 1), (17, .astore 4, 2), (19, .iconst 2, 1), (20, .ireturn, 1), (21, .astore 4, 2), (23, .iconst 3, 1), (24, .ireturn, 1), (25, .iconst 0, 1), (26, .ireturn, 1)]
set_option maxRecDepth 100000 in
theorem ev_d_414_0 : ∀ q ∈ ev_c_414_0, decode method_44_code q.1 = .ok (q.2.1, q.2.2) := fd_rows (by decide +kernel)
def ev_c_414 : List (Nat × List (Nat × Instr × Nat)) := [(0, ev_c_414_0)]
set_option maxRecDepth 100000 in
theorem ev_d_414 : ∀ q ∈ ev_c_414, ∀ z ∈ q.2, decode method_44_code z.1 = .ok (z.2.1, z.2.2) := List.forall_mem_cons.mpr ⟨ev_d_414_0, fun _ h => absurd h List.not_mem_nil⟩
def ev_c_415_0 : List (Nat × Instr × Nat) := [(0, .aload_n 3, 1), (1, .iconst 0, 1), (2, .aload_n 0, 1), (3, .iload_n 1, 1), (4, .iload_n 2, 1), (5, .invokevirtual 147, 3), (8, .i2l, 1), (9, .lastore, 1), (10, .goto 15, 3), (13, .astore 4, 2), (15, .iconst 1, 1), (16, .ireturn, 1), (17, .astore 4, 2), (19, .iconst 2, 1), (20, .ireturn, 1), (21, .astore 4, 2), (23, .iconst 3, 1), (24, .ireturn, 1), (25, .iconst 0, 1), (26, .ireturn, 1)]
set_option maxRecDepth 100000 in
theorem ev_d_415_0 : ∀ q ∈ ev_c_415_0, decode method_45_code q.1 = .ok (q.2.1, q.2.2) := fd_rows (by decide +kernel)
def ev_c_415 : List (Nat × List (Nat × Instr × Nat)) := [(0, ev_c_415_0)]
set_option maxRecDepth 100000 in
theorem ev_d_415 : ∀ q ∈ ev_c_415, ∀ z ∈ q.2, decode method_45_code z.1 = .ok (z.2.1, z.2.2) := List.forall_mem_cons.mpr ⟨ev_d_415_0, fun _ h => absurd h List.not_mem_nil⟩
def ev_c_416_0 : List (Nat × Instr × Nat) := [(0, .aload_n 2, 1), (1, .iconst 0, 1), (2, .aload_n 0, 1), (3, .iload_n 1, 1), (4, .invokevirtual 150, 3), (7, .i2l, 1), (8, .lastore, 1), (9, .goto 12, 3), (12, .astore_n 3, 1), (13, .iconst 1, 1), (14, .ireturn, 1), (15, .astore_n 3, 1), (16, .iconst 2, 1), (17, .ireturn, 1), (18, .astore_n 3, 1), (19, .iconst 3, 1), (20, .ireturn, 1), (21, .iconst 0, 1), (22, .ireturn, 1)]
set_option maxRecDepth 100000 in
theorem ev_d_416_0 : ∀ q ∈ ev_c_416_0, decode method_46_code q.1 = .ok (q.2.1, q.2.2) := fd_rows (by decide +kernel)
def ev_c_416 : List (Nat × List (Nat × Instr × Nat)) := [(0, ev_c_416_0)]
set_option maxRecDepth 100000 in
theorem ev_d_416 : ∀ q ∈ ev_c_416, ∀ z ∈ q.2, decode method_46_code z.1 = .ok (z.2.1, z.2.2) := List.forall_mem_cons.mpr ⟨ev_d_416_0, fun _ h => absurd h List.not_mem_nil⟩
def ev_c_417_0 : List (Nat × Instr × Nat) := [(0, .aload_n 1, 1), (1, .iconst 0, 1), (2, .aload_n 0, 1), (3, .invokevirtual 153, 3), (6, .i2l, 1), (7, .lastore, 1), (8, .goto 6, 3), (11, .astore_n 2, 1), (12, .iconst 1, 1), (13, .ireturn, 1), (14, .iconst 0, 1), (15, .ireturn, 1)]
set_option maxRecDepth 100000 in
theorem ev_d_417_0 : ∀ q ∈ ev_c_417_0, decode method_47_code q.1 = .ok (q.2.1, q.2.2) := fd_rows (by decide +kernel)
def ev_c_417 : List (Nat × List (Nat × Instr × Nat)) := [(0, ev_c_417_0)]
set_option maxRecDepth 100000 in
theorem ev_d_417 : ∀ q ∈ ev_c_417, ∀ z ∈ q.2, decode method_47_code z.1 = .ok (z.2.1, z.2.2) := List.forall_mem_cons.mpr ⟨ev_d_417_0, fun _ h => absurd h List.not_mem_nil⟩
def ev_c_418_0 : List (Nat × Instr × Nat) := [(0, .aload_n 2, 1), (1, .iconst 0, 1), (2, .aload_n 0, 1), (3, .iload_n 1, 1), (4, .invokevirtual 156, 3), (7, .i2l, 1), (8, .lastore, 1), (9, .goto 12, 3), (12, .astore_n 3, 1), (13, .iconst 1, 1), (14, .ireturn, 1), (15, .astore_n 3, 1), (16, .iconst 2, 1), (17, .ireturn, 1), (18, .astore_n 3, 1), (19, .iconst 3, 1), (20, .ireturn, 1), (21, .iconst 0, 1), (22, .ireturn, 1)]
set_option maxRecDepth 100000 in
theorem ev_d_418_0 : ∀ q ∈ ev_c_418_0, decode method_48_code q.1 = .ok (q.2.1, q.2.2) := fd_rows (by decide +kernel)
def ev_c_418 : List (Nat × List (Nat × Instr × Nat)) := [(0, ev_c_418_0)]
set_option maxRecDepth 100000 in
theorem ev_d_418 : ∀ q ∈ ev_c_418, ∀ z ∈ q.2, decode method_48_code z.1 = .ok (z.2.1, z.2.2) := List.forall_mem_cons.mpr ⟨ev_d_418_0, fun _ h => absurd h List.not_mem_nil⟩
def ev_c_419_0 : List (Nat × Instr × Nat) := [(0, .aload_n 2, 1), (1, .iconst 0, 1), (2, .aload_n 0, 1), (3, .iload_n 1, 1), (4, .invokevirtual 159, 3), (7, .i2l, 1), (8, .lastore, 1), (9, .goto 9, 3), (12, .astore_n 3, 1), (13, .iconst 1, 1), (14, .ireturn, 1), (15, .astore_n 3, 1), (16, .iconst 2, 1), (17, .ireturn, 1), (18, .iconst 0, 1), (19, .ireturn, 1)]
set_option maxRecDepth 100000 in
theorem ev_d_419_0 : ∀ q ∈ ev_c_419_0, decode method_49_code q.1 = .ok (q.2.1, q.2.2) := fd_rows (by decide +kernel)
def ev_c_419 : List (Nat × List (Nat × Instr × Nat)) := [(0, ev_c_419_0)]
set_option maxRecDepth 100000 in
theorem ev_d_419 : ∀ q ∈ ev_c_419, ∀ z ∈ q.2, decode method_49_code z.1 = .ok (z.2.1, z.2.2) := List.forall_mem_cons.mpr ⟨ev_d_419_0, fun _ h => absurd h List.not_mem_nil⟩
def ev_c_420_0 : List (Nat × Instr × Nat) := [(0, .aload_n 3, 1), (1, .iconst 0, 1), (2, .aload_n 0, 1), (3, .iload_n 1, 1), (4, .iload_n 2, 1), (5, .invokevirtual 162, 3), (8, .i2l, 1), (9, .lastore, 1), (10, .goto 15, 3), (13, .astore 4, 2), (15, .iconst 1, 1), (16, .ireturn, 1), (17, .astore 4, 2), (19, .iconst 2, 1), (20, .ireturn, 1), (21, .astore 4, 2), (23, .iconst 3, 1), (24, .ireturn, 1), (25, .iconst 0, 1), (26, .ireturn, 1)]
set_option maxRecDepth 100000 in
theorem ev_d_420_0 : ∀ q ∈ ev_c_420_0, decode method_50_code q.1 = .ok (q.2.1, q.2.2) := fd_rows (by decide +kernel)
def ev_c_420 : List (Nat × List (Nat × Instr × Nat)) := [(0, ev_c_420_0)]
set_option maxRecDepth 100000 in
theorem ev_d_420 : ∀ q ∈ ev_c_420, ∀ z ∈ q.2, decode method_50_code z.1 = .ok (z.2.1, z.2.2) := List.forall_mem_cons.mpr ⟨ev_d_420_0, fun _ h => absurd h List.not_mem_nil⟩
def ev_c_421_0 : List (Nat × Instr × Nat) := [(0, .aload_n 2, 1), (1, .iconst 0, 1), (2, .aload_n 0, 1), (3, .iload_n 1, 1), (4, .invokevirtual 165, 3), (7, .i2l, 1), (8, .lastore, 1), (9, .goto 12, 3), (12, .astore_n 3, 1), (13, .iconst 1, 1), (14, .ireturn, 1), (15, .astore_n 3, 1), (16, .iconst 2, 1), (17, .ireturn, 1), (18, .astore_n 3, 1), (19, .iconst 3, 1), (20, .ireturn, 1), (21, .iconst 0, 1), (22, .ireturn, 1)]
set_option maxRecDepth 100000 in
theorem ev_d_421_0 : ∀ q ∈ ev_c_421_0, decode method_51_code q.1 = .ok (q.2.1, q.2.2) := fd_rows (by decide +kernel)
def ev_c_421 : List (Nat × List (Nat × Instr × Nat)) := [(0, ev_c_421_0)]
set_option maxRecDepth 100000 in
theorem ev_d_421 : ∀ q ∈ ev_c_421, ∀ z ∈ q.2, decode method_51_code z.1 = .ok (z.2.1, z.2.2) := List.forall_mem_cons.mpr ⟨ev_d_421_0, fun _ h => absurd h List.not_mem_nil⟩
def ev_c_422_0 : List (Nat × Instr × Nat) := [(0, .aload_n 2, 1), (1, .iconst 0, 1), (2, .aload_n 0, 1), (3, .iload_n 1, 1), (4, .invokevirtual 168, 3), (7, .i2l, 1), (8, .lastore, 1), (9, .goto 12, 3), (12, .astore_n 3, 1), (13, .iconst 1, 1), (14, .ireturn, 1), (15, .astore_n 3, 1), (16, .iconst 2, 1), (17, .ireturn, 1), (18, .astore_n 3, 1), (19, .iconst 3, 1), (20, .ireturn, 1), (21, .iconst 0, 1), (22, .ireturn, 1)]
set_option maxRecDepth 100000 in
theorem ev_d_422_0 : ∀ q ∈ ev_c_422_0, decode method_52_code q.1 = .ok (q.2.1, q.2.2) := fd_rows (by decide +kernel)
def ev_c_422 : List (Nat × List (Nat × Instr × Nat)) := [(0, ev_c_422_0)]
set_option maxRecDepth 100000 in
theorem ev_d_422 : ∀ q ∈ ev_c_422, ∀ z ∈ q.2, decode method_52_code z.1 = .ok (z.2.1, z.2.2) := List.forall_mem_cons.mpr ⟨ev_d_422_0, fun _ h => absurd h List.not_mem_nil⟩
def ev_c_423_0 : List (Nat × Instr × Nat) := [(0, .aload_n 2, 1), (1, .iconst 0, 1), (2, .aload_n 0, 1), (3, .iload_n 1, 1), (4, .invokevirtual 171, 3), (7, .i2l, 1), (8, .lastore, 1), (9, .goto 9, 3), (12, .astore_n 3, 1), (13, .iconst 1, 1), (14, .ireturn, 1), (15, .astore_n 3, 1), (16, .iconst 2, 1), (17, .ireturn, 1), (18, .iconst 0, 1), (19, .ireturn, 1)]
set_option maxRecDepth 100000 in
theorem ev_d_423_0 : ∀ q ∈ ev_c_423_0, decode method_53_code q.1 = .ok (q.2.1, q.2.2) := fd_rows (by decide +kernel)
def ev_c_423 : List (Nat × List (Nat × Instr × Nat)) := [(0, ev_c_423_0)]
set_option maxRecDepth 100000 in
theorem ev_d_423 : ∀ q ∈ ev_c_423, ∀ z ∈ q.2, decode method_53_code z.1 = .ok (z.2.1, z.2.2) := List.forall_mem_cons.mpr ⟨ev_d_423_0, fun _ h => absurd h List.not_mem_nil⟩
def ev_c_424_0 : List (Nat × Instr × Nat) := [(0, .aload_n 2, 1), (1, .iconst 0, 1), (2, .aload_n 0, 1), (3, .iload_n 1, 1), (4, .invokevirtual 174, 3), (7, .i2l, 1), (8, .lastore, 1), (9, .goto 9, 3), (12, .astore_n 3, 1), (13, .iconst 1, 1), (14, .ireturn, 1), (15, .astore_n 3, 1), (16, .iconst 2, 1), (17, .ireturn, 1), (18, .iconst 0, 1), (19, .ireturn, 1)]
set_option maxRecDepth 100000 in
theorem ev_d_424_0 : ∀ q ∈ ev_c_424_0, decode method_54_code q.1 = .ok (q.2.1, q.2.2) := fd_rows (by decide +kernel)
def ev_c_424 : List (Nat × List (Nat × Instr × Nat)) := [(0, ev_c_424_0)]
set_option maxRecDepth 100000 in
theorem ev_d_424 : ∀ q ∈ ev_c_424, ∀ z ∈ q.2, decode method_54_code z.1 = .ok (z.2.1, z.2.2) := List.forall_mem_cons.mpr ⟨ev_d_424_0, fun _ h => absurd h List.not_mem_nil⟩
def ev_c_425_0 : List (Nat × Instr × Nat) := [(0, .aload 5, 2), (2, .iconst 0, 1), (3, .aload_n 0, 1), (4, .iload_n 1, 1), (5, .iload_n 2, 1), (6, .iload_n 3, 1), (7, .iload 4, 2), (9, .invokevirtual 177, 3), (12, .i2l, 1), (13, .lastore, 1), (14, .goto 15, 3), (17, .astore 6, 2), (19, .iconst 1, 1), (20, .ireturn, 1), (21, .astore 6, 2), (23, .iconst 2, 1), (24, .ireturn, 1), (25, .astore 6, 2), (27, .iconst 3, 1), (28, .ireturn, 1), (29, .iconst 0, 1), (30, .ireturn, 1)]
set_option maxRecDepth 100000 in
theorem ev_d_425_0 : ∀ q ∈ ev_c_425_0, decode method_55_code q.1 = .ok (q.2.1, q.2.2) := fd_rows (by decide +kernel)
def ev_c_425 : List (Nat × List (Nat × Instr × Nat)) := [(0, ev_c_425_0)]
set_option maxRecDepth 100000 in
theorem ev_d_425 : ∀ q ∈ ev_c_425, ∀ z ∈ q.2, decode method_55_code z.1 = .ok (z.2.1, z.2.2) := List.forall_mem_cons.mpr ⟨ev_d_425_0, fun _ h => absurd h List.not_mem_nil⟩
def ev_c_426_0 : List (Nat × Instr × Nat) := [(0, .aload_n 1, 1), (1, .iconst 0, 1), (2, .aload_n 0, 1), (3, .invokevirtual 181, 3), (6, .i2l, 1), (7, .lastore, 1), (8, .goto 6, 3), (11, .astore_n 2, 1), (12, .iconst 1, 1), (13, .ireturn, 1), (14, .iconst 0, 1), (15, .ireturn, 1)]
set_option maxRecDepth 100000 in
theorem ev_d_426_0 : ∀ q ∈ ev_c_426_0, decode method_56_code q.1 = .ok (q.2.1, q.2.2) := fd_rows (by decide +kernel)
def ev_c_426 : List (Nat × List (Nat × Instr × Nat)) := [(0, ev_c_426_0)]
set_option maxRecDepth 100000 in
theorem ev_d_426 : ∀ q ∈ ev_c_426, ∀ z ∈ q.2, decode method_56_code z.1 = .ok (z.2.1, z.2.2) := List.forall_mem_cons.mpr ⟨ev_d_426_0, fun _ h => absurd h List.not_mem_nil⟩
def ev_c_427_0 : List (Nat × Instr × Nat) := [(0, .aload_n 2, 1), (1, .iconst 0, 1), (2, .aload_n 0, 1), (3, .iload_n 1, 1), (4, .invokevirtual 184, 3), (7, .i2l, 1), (8, .lastore, 1), (9, .goto 9, 3), (12, .astore_n 3, 1), (13, .iconst 1, 1), (14, .ireturn, 1), (15, .astore_n 3, 1), (16, .iconst 2, 1), (17, .ireturn, 1), (18, .iconst 0, 1), (19, .ireturn, 1)]
set_option maxRecDepth 100000 in
theorem ev_d_427_0 : ∀ q ∈ ev_c_427_0, decode method_57_code q.1 = .ok (q.2.1, q.2.2) := fd_rows (by decide +kernel)
def ev_c_427 : List (Nat × List (Nat × Instr × Nat)) := [(0, ev_c_427_0)]
set_option maxRecDepth 100000 in
theorem ev_d_427 : ∀ q ∈ ev_c_427, ∀ z ∈ q.2, decode method_57_code z.1 = .ok (z.2.1, z.2.2) := List.forall_mem_cons.mpr ⟨ev_d_427_0, fun _ h => absurd h List.not_mem_nil⟩
def ev_c_428_0 : List (Nat × Instr × Nat) := [(0, .aload_n 2, 1), (1, .iconst 0, 1), (2, .aload_n 0, 1), (3, .iload_n 1, 1), (4, .invokevirtual 187, 3), (7, .i2l, 1), (8, .lastore, 1), (9, .goto 9, 3), (12, .astore_n 3, 1), (13, .iconst 1, 1), (14, .ireturn, 1), (15, .astore_n 3, 1), (16, .iconst 2, 1), (17, .ireturn, 1), (18, .iconst 0, 1), (19, .ireturn, 1)]
set_option maxRecDepth 100000 in
theorem ev_d_428_0 : ∀ q ∈ ev_c_428_0, decode method_58_code q.1 = .ok (q.2.1, q.2.2) := fd_rows (by decide +kernel)
def ev_c_428 : List (Nat × List (Nat × Instr × Nat)) := [(0, ev_c_428_0)]
set_option maxRecDepth 100000 in
theorem ev_d_428 : ∀ q ∈ ev_c_428, ∀ z ∈ q.2, decode method_58_code z.1 = .ok (z.2.1, z.2.2) := List.forall_mem_cons.mpr ⟨ev_d_428_0, fun _ h => absurd h List.not_mem_nil⟩
