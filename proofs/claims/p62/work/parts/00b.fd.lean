/-! a fast reader of instructions: by wip/gen/fd.py -/
theorem fd_bind {α β : Type} {f : α → Decoder β} {x : Decoder α} {b : ByteArray} {p q : Nat} {v : α} (h : x b p = .ok (v, q)) : (x >>= f) b p = f v b q := by
  show (ReaderT.bind x f) b p = _
  show (StateT.bind (x b) (fun a => f a b)) p = _
  unfold StateT.bind
  rw [h]
  rfl
theorem fd_u1 {b : ByteArray} {p v : Nat} (h : p < b.size) (hv : b[p].toNat = v) : (Reader.u1 : Decoder Nat) b p = .ok (v, p + 1) := by
  subst hv
  unfold Reader.u1
  rw [fd_bind (v := b) (q := p) rfl, fd_bind (v := p) (q := p) rfl, dif_pos h]
  rfl
theorem fd_u2 {b : ByteArray} {p q r v0 v1 : Nat} (h0 : (Reader.u1 : Decoder Nat) b p = .ok (v0, q)) (h1 : (Reader.u1 : Decoder Nat) b q = .ok (v1, r)) : (Reader.u2 : Decoder Nat) b p = .ok (v0 * 256 + v1, r) := by
  unfold Reader.u2
  rw [fd_bind h0, fd_bind h1]
  rfl
theorem fd_s1 {b : ByteArray} {p q v0 : Nat} (h0 : (Reader.u1 : Decoder Nat) b p = .ok (v0, q)) : (Reader.s1 : Decoder Int) b p = .ok (Reader.signed 8 v0, q) := by
  unfold Reader.s1
  show (StateT.map (Reader.signed 8) ((Reader.u1 : Decoder Nat) b)) p = _
  unfold StateT.map
  rw [h0]
  rfl
theorem fd_s2 {b : ByteArray} {p q r v0 v1 : Nat} (h0 : (Reader.u1 : Decoder Nat) b p = .ok (v0, q)) (h1 : (Reader.u1 : Decoder Nat) b q = .ok (v1, r)) : (Reader.s2 : Decoder Int) b p = .ok (Reader.signed 16 (v0 * 256 + v1), r) := by
  unfold Reader.s2
  show (StateT.map (Reader.signed 16) ((Reader.u2 : Decoder Nat) b)) p = _
  unfold StateT.map
  rw [fd_u2 h0 h1]
  rfl
def fd_tA : List (Nat × Instr) := [(1, .aconst_null), (2, .iconst (-1)), (3, .iconst (0)), (4, .iconst (1)), (5, .iconst (2)), (6, .iconst (3)), (7, .iconst (4)), (8, .iconst (5)), (11, .fconst 0), (12, .fconst 1), (13, .fconst 2), (14, .dconst 0), (15, .dconst 1), (26, .iload_n 0), (27, .iload_n 1), (28, .iload_n 2), (29, .iload_n 3), (34, .fload_n 0), (35, .fload_n 1), (36, .fload_n 2), (37, .fload_n 3), (38, .dload_n 0), (39, .dload_n 1), (40, .dload_n 2), (41, .dload_n 3), (42, .aload_n 0), (43, .aload_n 1), (44, .aload_n 2), (45, .aload_n 3), (46, .iaload), (47, .laload), (49, .daload), (50, .aaload), (51, .baload), (59, .istore_n 0), (60, .istore_n 1), (61, .istore_n 2), (62, .istore_n 3), (75, .astore_n 0), (76, .astore_n 1), (77, .astore_n 2), (78, .astore_n 3), (79, .iastore), (80, .lastore), (82, .dastore), (83, .aastore), (84, .bastore), (87, .pop), (89, .dup), (92, .dup2), (96, .iadd), (100, .isub), (104, .imul), (108, .idiv), (110, .fdiv), (111, .ddiv), (112, .irem), (116, .ineg), (120, .ishl), (122, .ishr), (124, .iushr), (126, .iand), (128, .ior), (130, .ixor), (133, .i2l), (134, .i2f), (135, .i2d), (141, .f2d), (145, .i2b), (146, .i2c), (148, .lcmp), (149, .fcmp .l), (150, .fcmp .g), (151, .dcmp .l), (152, .dcmp .g), (172, .ireturn), (174, .freturn), (175, .dreturn), (176, .areturn), (177, .return_), (190, .arraylength), (191, .athrow)]
def fd_tU1 : List (Nat × (Nat → Instr)) := [(18, fun y => .ldc y), (21, fun y => .iload y), (23, fun y => .fload y), (24, fun y => .dload y), (25, fun y => .aload y), (54, fun y => .istore y), (56, fun y => .fstore y), (57, fun y => .dstore y), (58, fun y => .astore y)]
def fd_tU2 : List (Nat × (Nat → Instr)) := [(19, fun y => .ldc_w y), (180, fun y => .getfield y), (181, fun y => .putfield y), (182, fun y => .invokevirtual y), (183, fun y => .invokespecial y), (184, fun y => .invokestatic y), (187, fun y => .new y), (189, fun y => .anewarray y)]
def fd_tS2 : List (Nat × (Int → Instr)) := [(17, fun y => .sipush y), (153, fun y => .ifCond .eq y), (154, fun y => .ifCond .ne y), (155, fun y => .ifCond .lt y), (156, fun y => .ifCond .ge y), (157, fun y => .ifCond .gt y), (158, fun y => .ifCond .le y), (159, fun y => .if_icmp .eq y), (160, fun y => .if_icmp .ne y), (161, fun y => .if_icmp .lt y), (162, fun y => .if_icmp .ge y), (163, fun y => .if_icmp .gt y), (164, fun y => .if_icmp .le y), (167, fun y => .goto y)]
theorem fd_n {α : Type} {P : α → Prop} : ∀ q ∈ ([] : List α), P q := fun q h => by cases h
theorem fd_c {α : Type} {P : α → Prop} {a : α} {l : List α} (h : P a) (k : ∀ q ∈ l, P q) : ∀ q ∈ a :: l, P q := List.forall_mem_cons.mpr ⟨h, k⟩
set_option maxRecDepth 100000 in
set_option maxHeartbeats 4000000 in
theorem fd_K (p : Nat) : ∃ K : Nat → Decoder Instr, Decoder.instr p = ((Reader.u1 : Decoder Nat) >>= K) ∧ (∀ q ∈ fd_tA, K q.1 = Pure.pure q.2) ∧ (∀ q ∈ fd_tU1, K q.1 = ((Reader.u1 : Decoder Nat) >>= fun y => Pure.pure (q.2 y))) ∧ (∀ q ∈ fd_tU2, K q.1 = ((Reader.u2 : Decoder Nat) >>= fun y => Pure.pure (q.2 y))) ∧ (∀ q ∈ fd_tS2, K q.1 = ((Reader.s2 : Decoder Int) >>= fun y => Pure.pure (q.2 y))) ∧ K 16 = ((Reader.s1 : Decoder Int) >>= fun y => Pure.pure (Instr.bipush y)) ∧ K 132 = ((Reader.u1 : Decoder Nat) >>= fun x => (Reader.s1 : Decoder Int) >>= fun y => Pure.pure (Instr.iinc x y)) :=
  ⟨_, rfl, fd_c rfl (fd_c rfl (fd_c rfl (fd_c rfl (fd_c rfl (fd_c rfl (fd_c rfl (fd_c rfl (fd_c rfl (fd_c rfl (fd_c rfl (fd_c rfl (fd_c rfl (fd_c rfl (fd_c rfl (fd_c rfl (fd_c rfl (fd_c rfl (fd_c rfl (fd_c rfl (fd_c rfl (fd_c rfl (fd_c rfl (fd_c rfl (fd_c rfl (fd_c rfl (fd_c rfl (fd_c rfl (fd_c rfl (fd_c rfl (fd_c rfl (fd_c rfl (fd_c rfl (fd_c rfl (fd_c rfl (fd_c rfl (fd_c rfl (fd_c rfl (fd_c rfl (fd_c rfl (fd_c rfl (fd_c rfl (fd_c rfl (fd_c rfl (fd_c rfl (fd_c rfl (fd_c rfl (fd_c rfl (fd_c rfl (fd_c rfl (fd_c rfl (fd_c rfl (fd_c rfl (fd_c rfl (fd_c rfl (fd_c rfl (fd_c rfl (fd_c rfl (fd_c rfl (fd_c rfl (fd_c rfl (fd_c rfl (fd_c rfl (fd_c rfl (fd_c rfl (fd_c rfl (fd_c rfl (fd_c rfl (fd_c rfl (fd_c rfl (fd_c rfl (fd_c rfl (fd_c rfl (fd_c rfl (fd_c rfl (fd_c rfl (fd_c rfl (fd_c rfl (fd_c rfl (fd_c rfl (fd_c rfl (fd_c rfl (fd_n)))))))))))))))))))))))))))))))))))))))))))))))))))))))))))))))))))))))))))))))))), fd_c rfl (fd_c rfl (fd_c rfl (fd_c rfl (fd_c rfl (fd_c rfl (fd_c rfl (fd_c rfl (fd_c rfl (fd_n))))))))), fd_c rfl (fd_c rfl (fd_c rfl (fd_c rfl (fd_c rfl (fd_c rfl (fd_c rfl (fd_c rfl (fd_n)))))))), fd_c rfl (fd_c rfl (fd_c rfl (fd_c rfl (fd_c rfl (fd_c rfl (fd_c rfl (fd_c rfl (fd_c rfl (fd_c rfl (fd_c rfl (fd_c rfl (fd_c rfl (fd_c rfl (fd_n)))))))))))))), rfl, rfl⟩
def fd_look {α : Type} (k : Nat) : List (Nat × α) → Option α
  | [] => none
  | a :: l => bif Nat.beq a.1 k then some a.2 else fd_look k l
theorem fd_look_of {α : Type} {k : Nat} {x : α} : ∀ {l : List (Nat × α)}, fd_look k l = some x → (k, x) ∈ l
  | [], h => by cases h
  | a :: l, h => by
    unfold fd_look at h
    cases hb : Nat.beq a.1 k with
    | true =>
      rw [hb, cond_true] at h
      have h9 := Nat.eq_of_beq_eq_true hb
      cases h
      rw [← h9]
      exact List.mem_cons_self
    | false =>
      rw [hb, cond_false] at h
      exact List.mem_cons_of_mem _ (fd_look_of h)
def fd_3 (v0 v1 v2 : Nat) : Option (Instr × Nat) := match fd_look v0 fd_tU2 with
  | some f => some (f (v1 * 256 + v2), 3)
  | none => (match fd_look v0 fd_tS2 with
    | some f => some (f (Reader.signed 16 (v1 * 256 + v2)), 3)
    | none => bif Nat.beq v0 132 then some (.iinc v1 (Reader.signed 8 v2), 3) else none)
def fd_2 (v0 v1 : Nat) : Option (Instr × Nat) := match fd_look v0 fd_tU1 with
  | some f => some (f v1, 2)
  | none => bif Nat.beq v0 16 then some (.bipush (Reader.signed 8 v1), 2) else none
def fd_1 (v0 : Nat) : Option (Instr × Nat) := match fd_look v0 fd_tA with
  | some i => some (i, 1)
  | none => none
def fd_dec (l : List UInt8) : Option (Instr × Nat) := match l with
  | [] => none
  | a :: t => (match fd_1 a.toNat with
    | some q => some q
    | none => (match t with
      | [] => none
      | a1 :: t1 => (match fd_2 a.toNat a1.toNat with
        | some q => some q
        | none => (match t1 with
          | [] => none
          | a2 :: _ => fd_3 a.toNat a1.toNat a2.toNat))))
theorem fd_at {b : ByteArray} {p : Nat} {a : UInt8} {t : List UInt8} (h : b.data.toList.drop p = a :: t) : (Reader.u1 : Decoder Nat) b p = .ok (a.toNat, p + 1) ∧ b.data.toList.drop (p + 1) = t := by
  have hp : p < b.data.toList.length := by
    rcases Nat.lt_or_ge p b.data.toList.length with h9 | h9
    · exact h9
    · rw [List.drop_eq_nil_of_le h9] at h; cases h
  rw [List.drop_eq_getElem_cons hp] at h
  obtain ⟨h1, h2⟩ := List.cons.inj h
  exact ⟨fd_u1 (b := b) hp (congrArg UInt8.toNat h1), h2⟩
theorem fd_end {b : ByteArray} {p n : Nat} {i : Instr} (h : (Decoder.instr p) b p = .ok (i, p + n)) : decode b p = .ok (i, n) := by
  have e2 : decode b p = (Except.bind ((Decoder.instr p) b p) (fun q => .ok (q.1, q.2 - p))) := rfl
  rw [e2, h]
  show Except.ok (i, p + n - p) = _
  rw [Nat.add_sub_cancel_left]
theorem fd_dec_ok {b : ByteArray} {p : Nat} {l : List UInt8} {q : Instr × Nat} (hl : b.data.toList.drop p = l) (h : fd_dec l = some q) : decode b p = .ok q := by
  obtain ⟨K, k0, kA, kU1, kU2, kS2, k16, k132⟩ := fd_K p
  unfold fd_dec at h
  match l, hl, h with
  | a :: t, hl, h =>
    obtain ⟨a0, hl1⟩ := fd_at hl
    dsimp only at h
    cases h1 : fd_1 a.toNat with
    | some q9 =>
      rw [h1] at h
      cases h
      unfold fd_1 at h1
      split at h1
      · rename_i i hi
        cases h1
        refine fd_end (n := 1) ?_
        rw [k0, fd_bind a0, kA _ (fd_look_of hi)]
        rfl
      · cases h1
    | none =>
      rw [h1] at h
      dsimp only at h
      match t, hl1, h with
      | a1 :: t1, hl1, h =>
        obtain ⟨b0, hl2⟩ := fd_at hl1
        dsimp only at h
        cases h2 : fd_2 a.toNat a1.toNat with
        | some q9 =>
          rw [h2] at h
          cases h
          unfold fd_2 at h2
          split at h2
          · rename_i f hf
            cases h2
            refine fd_end (n := 2) ?_
            rw [k0, fd_bind a0, kU1 _ (fd_look_of hf), fd_bind b0]
            rfl
          · cases hb : Nat.beq a.toNat 16 with
            | true =>
              rw [hb, cond_true] at h2
              cases h2
              refine fd_end (n := 2) ?_
              rw [k0, fd_bind a0, Nat.eq_of_beq_eq_true hb, k16, fd_bind (fd_s1 b0)]
              rfl
            | false => rw [hb, cond_false] at h2; cases h2
        | none =>
          rw [h2] at h
          dsimp only at h
          match t1, hl2, h with
          | a2 :: t2, hl2, h =>
            obtain ⟨d0, -⟩ := fd_at hl2
            dsimp only at h
            unfold fd_3 at h
            split at h
            · rename_i f hf
              cases h
              refine fd_end (n := 3) ?_
              rw [k0, fd_bind a0, kU2 _ (fd_look_of hf), fd_bind (fd_u2 b0 d0)]
              rfl
            · split at h
              · rename_i f hf
                cases h
                refine fd_end (n := 3) ?_
                rw [k0, fd_bind a0, kS2 _ (fd_look_of hf), fd_bind (fd_s2 b0 d0)]
                rfl
              · cases hb : Nat.beq a.toNat 132 with
                | true =>
                  rw [hb, cond_true] at h
                  cases h
                  refine fd_end (n := 3) ?_
                  rw [k0, fd_bind a0, Nat.eq_of_beq_eq_true hb, k132, fd_bind b0, fd_bind (fd_s1 d0)]
                  rfl
                | false => rw [hb, cond_false] at h; cases h
def fd_walk : List (Nat × Instr × Nat) → Nat → List UInt8 → Bool
  | [], _, _ => true
  | q :: r, p, l => decide (p ≤ q.1) && (decide (fd_dec (l.drop (q.1 - p)) = some q.2) && fd_walk r q.1 (l.drop (q.1 - p)))
theorem fd_walk_ok {b : ByteArray} : ∀ {rows : List (Nat × Instr × Nat)} {p : Nat} {l : List UInt8}, b.data.toList.drop p = l → fd_walk rows p l = true → ∀ q ∈ rows, decode b q.1 = .ok (q.2.1, q.2.2)
  | [], _, _, _, _ => fun q h => by cases h
  | a :: r, p, l, hl, h => by
    unfold fd_walk at h
    simp only [Bool.and_eq_true, decide_eq_true_eq] at h
    obtain ⟨h1, h2, h3⟩ := h
    have e : b.data.toList.drop a.1 = l.drop (a.1 - p) := by
      rw [← hl, List.drop_drop]
      congr 1
      omega
    exact List.forall_mem_cons.mpr ⟨fd_dec_ok e h2, fd_walk_ok e h3⟩
theorem fd_rows {b : ByteArray} {rows : List (Nat × Instr × Nat)} (h : fd_walk rows 0 b.data.toList = true) : ∀ q ∈ rows, decode b q.1 = .ok (q.2.1, q.2.2) := fd_walk_ok (p := 0) rfl h
