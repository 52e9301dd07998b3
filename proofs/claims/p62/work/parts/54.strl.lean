/-! String's own methods on the constants: length and charAt -/
def zs_N : Nat → Prop := fun _ => False
theorem zs_1.narrow {b : List Int32} {a : Nat} {A B : Nat → Prop} {U : State} {H : Heap} (h : zs_1 b a A U H) (hAB : ∀ q, B q → A q) : zs_1 b a B U H := by
  obtain ⟨h1_, h2_, ⟨v_, h3_, h4_⟩, h5_, h6_⟩ := h
  exact ⟨h1_.narrow hAB, h2_.narrow hAB, ⟨v_, h3_.narrow hAB, h4_.narrow hAB⟩, h5_.narrow hAB, h6_.narrow hAB⟩
theorem zs_zq {C n d : String} {A : Nat → Prop} {U : State} {H : Heap} (h : va_Zq C n d A U H) : ∃ v : Value, (v = .null ∨ ∃ t, v = .ref t) ∧ va_Z C n d v A U H := by
  rcases h with h1_ | ⟨t_, h1_⟩
  · exact ⟨_, Or.inl rfl, h1_⟩
  · exact ⟨_, Or.inr ⟨t_, rfl⟩, h1_⟩
theorem zs_go {k : Cond} (hk : k ∈ zs_w) : GoodIn zs_w (k :: zs_w) := fun w hw => by
  rcases List.mem_cons.mp hw with rfl | hw
  · exact ⟨hk, (zs_w_in _ hk).2⟩
  · exact ⟨hw, (zs_w_in _ hw).2⟩
theorem zs_go2 {k k2 : Cond} (hk : k ∈ zs_w) : GoodIn (k2 :: zs_w) (k :: zs_w) := fun w hw => ⟨List.mem_cons_of_mem _ (zs_go hk w hw).1, (zs_go hk w hw).2⟩
theorem zs_in (i : Nat) {k : Cond} (h : zs_w[i]? = some k) : k ∈ zs_w := List.mem_of_getElem? h
theorem zs_lt {i n : Int32} (h : vp_in i n.toNatClampNeg) (hn : ¬ n < 0) : ¬ i < 0 ∧ i < n := by
  unfold vp_in at h
  refine ⟨fun h9_ => h (Or.inl h9_), ?_⟩
  have h1_ : ¬ i < 0 := fun h9_ => h (Or.inl h9_)
  have h2_ : i.toNatClampNeg < n.toNatClampNeg := Nat.not_le.mp fun h9_ => h (Or.inr h9_)
  have h3_ : (0 : Int) ≤ i.toInt := by
    have h9_ := Int32.le_iff_toInt_le.mp (Int32.not_lt.mp h1_)
    simpa using h9_
  have h4_ : (0 : Int) ≤ n.toInt := by
    have h9_ := Int32.le_iff_toInt_le.mp (Int32.not_lt.mp hn)
    simpa using h9_
  refine Int32.lt_iff_toInt_lt.mpr ?_
  have h5_ : i.toInt.toNat < n.toInt.toNat := h2_
  omega
/-- Preconditions.checkIndex -/
theorem zs_mP (l : Launch) {i n : Int32} {v : Value} (hv : v = .null ∨ ∃ t, v = .ref t) (h0 : ¬ i < 0) (h1 : i < n) : Met l zs_yP (zs_cP :: zs_w) ({ frames := 0, cells := 0, slots := 0, locals := 0 }) (va_Pc [.int i, .int n, v] (fun _ => True)) (va_Qi (fun (r : Int32) (_ : Unit) => r = i) (fun _ _ => True) zs_N) 0 0 zs_N := by
  refine Met.ofW (cc := zs_bP) (maxL := 3) (ret := some .int) (by decide) rfl ?_
  intro p e s m args below meth c s₁ B hml hq
  obtain ⟨rfl, -⟩ := hq
  have hx := B.exec
  have hb := B.bytes
  have hr := B.returns
  have hlocks := B.notSynchronized
  have hS : va_S zs_N s.heap s.heap [] := va_S.rf
  have hl : ∃ ls, (lg_sl ([.int i, .int n, v]) ++ List.replicate (3 - (lg_sl ([.int i, .int n, v])).length) Slot.unset).toArray = ls ∧ lv_has ls 3 [(0, .int i), (1, .int n)] := by
    rcases hv with rfl | ⟨t_, rfl⟩
    · exact ⟨_, rfl, lv_sub (lv_entry ([.int i, .int n, .null]) (n := 3) (Nat.le_of_ble_eq_true rfl)) [0, 1] rfl⟩
    · exact ⟨_, rfl, lv_sub (lv_entry ([.int i, .int n, .ref t_]) (n := 3) (Nat.le_of_ble_eq_true rfl)) [0, 1] rfl⟩
  obtain ⟨ls, hls, hl⟩ := hl
  rw [lg_entry_eq, hls]
  refine lv_iload_n hx hb zs_dP_0 rfl (lv_at hl 0 rfl) ?_
  refine lv_if_lt hx hb zs_dP_1 (tgt := 9) rfl (fun h9_ => absurd h9_ h0) (fun _ => ?_)
  refine lv_iload_n hx hb zs_dP_4 rfl (lv_at hl 0 rfl) ?_
  refine lv_iload_n hx hb zs_dP_5 rfl (lv_at hl 1 rfl) ?_
  refine lv_icmp_lt hx hb zs_dP_6 (tgt := 16) rfl (fun _ => ?_) (fun h9_ => absurd h1 h9_)
  refine lv_iload_n hx hb zs_dP_16 rfl (lv_at hl 0 rfl) ?_
  exact W.iret hx hb hr (fun t ht hW => ⟨⟨i, (), rfl, rfl, trivial⟩, hS.F ht⟩) hS.2.2 zs_dP_17 hlocks
/-- String.checkIndex -/
theorem zs_mK (l : Launch) {i n : Int32} (h0 : ¬ i < 0) (h1 : i < n) : Met l zs_yK (zs_cK :: zs_w) ({ frames := 1, cells := 0, slots := 0, locals := 22 }) (va_Pc [.int i, .int n] (fun U => va_Zq zs_pc "SIOOBE_FORMATTER" zs_fd zs_N U U.heap)) (va_Qv (fun (_ : Unit) => True) (fun _ _ => True) zs_N) 0 0 zs_N := by
  refine Met.ofW (cc := zs_bK) (maxL := 2) (ret := none) (by decide) rfl ?_
  intro p e s m args below meth c s₁ B hml hq
  obtain ⟨rfl, hZ⟩ := hq
  have hx := B.exec
  have hb := B.bytes
  have hr := B.returns
  have hlocks := B.notSynchronized
  have hts := atoms_spec (ws := zs_cK :: zs_w) B.pre
  have hown : s.vm.findClass "java/lang/String" = some m.cls := findClass_of_methodNamed B.named
  have hS : va_S zs_N s.heap s.heap [] := va_S.rf
  have hl := lv_entry ([.int i, .int n]) (n := 2) (Nat.le_of_ble_eq_true rfl)
  rw [lg_entry_eq]
  generalize (lg_sl ([.int i, .int n]) ++ List.replicate (2 - (lg_sl ([.int i, .int n])).length) Slot.unset).toArray = ls at hl ⊢
  have hl : lv_has ls 2 [(0, .int i), (1, .int n)] := hl
  obtain ⟨v, hv, hZ⟩ := zs_zq hZ
  refine lv_iload_n hx hb zs_dK_0 rfl (lv_at hl 0 rfl) ?_
  refine lv_iload_n hx hb zs_dK_1 rfl (lv_at hl 1 rfl) ?_
  refine va_gets hx hb hZ hS hown (hts _ (List.mem_cons_of_mem _ (zs_in (k := .fieldLink "java/lang/String" 1053 "jdk/internal/util/Preconditions" "SIOOBE_FORMATTER" "Ljava/util/function/BiFunction;") 27 rfl))) (fun _ h9_ => h9_) zs_dK_2 ?_
  refine va_calli (va_runS (As := [.int i, .int n, v]) (rest := []) ⟨hx, hb, hml, hown, hts⟩ (zs_mP l hv h0 h1) ⟨callB_of 3 hts (zs_go2 (zs_in 0 rfl)) rfl rfl rfl (hts _ (List.mem_cons_of_mem _ (zs_in (k := .initialized "jdk/internal/util/Preconditions") 20 rfl))) (hts _ (List.mem_cons_of_mem _ (zs_in (k := .methodLink "java/lang/String" 1059 zs_yP) 25 rfl))) (by decide +kernel) ⟨Nat.le_of_ble_eq_true rfl, Nat.le_of_ble_eq_true rfl⟩, hts _ (List.mem_cons_of_mem _ (zs_in (k := .static zs_yP) 1 rfl))⟩ ⟨fun a U g mk q => ⟨q.1, trivial⟩, fun U hU hW => ⟨rfl, trivial⟩⟩ rfl rfl hl.1 rfl (lv_room (Nat.le_of_ble_eq_true rfl)) zs_dK_5 ⟨(Nat.zero_le _), (Nat.zero_le _)⟩) hS (fun q _ h9_ => h9_) (fun q h9_ => h9_) (fun r u t H locs ht hvm hw hB hz1 hk1 hS => ?_)
  refine lv_pop hx hb zs_dK_8 rfl ?_
  exact W.vret hx hb hr (fun t ht hW => ⟨⟨(), rfl, trivial, trivial⟩, hS.F ht⟩) hS.2.2 zs_dK_9 hlocks
/-- StringLatin1.charAt -/
theorem zs_mL (l : Launch) {i : Int32} {v N : Nat} {f : Nat → Value} {x y : Int32} (hN : N < 2 ^ 31) (hi : vp_in i N) (hf : f i.toNatClampNeg = .int x) (hy : ((x &&& (Int16.ofInt 255).toInt32).toUInt32 % 65536).toInt32 = y) (hn : narrow .char (.int y) = .int y) : Met l zs_yL (zs_cL :: zs_w) ({ frames := 2, cells := 0, slots := 0, locals := 43 }) (va_Pc [.ref v, .int i] (fun U => va_T .byte v N f zs_N U U.heap ∧ va_Zq zs_pc "SIOOBE_FORMATTER" zs_fd zs_N U U.heap)) (va_Qi (fun (r : Int32) (_ : Unit) => r = y) (fun _ _ => True) zs_N) 0 0 zs_N := by
  refine Met.ofW (cc := zs_bL) (maxL := 2) (ret := some .char) (by decide) rfl ?_
  intro p e s m args below meth c s₁ B hml hq
  obtain ⟨rfl, hT, hZ⟩ := hq
  have hx := B.exec
  have hb := B.bytes
  have hr := B.returns
  have hlocks := B.notSynchronized
  have hts := atoms_spec (ws := zs_cL :: zs_w) B.pre
  have hown : s.vm.findClass "java/lang/StringLatin1" = some m.cls := findClass_of_methodNamed B.named
  have hS : va_S zs_N s.heap s.heap [] := va_S.rf
  have hl := lv_entry ([.ref v, .int i]) (n := 2) (Nat.le_of_ble_eq_true rfl)
  rw [lg_entry_eq]
  generalize (lg_sl ([.ref v, .int i]) ++ List.replicate (2 - (lg_sl ([.ref v, .int i])).length) Slot.unset).toArray = ls at hl ⊢
  have hl : lv_has ls 2 [(0, .ref v), (1, .int i)] := hl
  have hNi : (Int32.ofNat N).toNatClampNeg = N := by
    have h9_ : (Int32.ofNat N).toInt = (N : Int) := Int32.toInt_ofNat_of_lt hN
    show (Int32.ofNat N).toInt.toNat = N
    rw [h9_]
    rfl
  have hN0 : ¬ Int32.ofNat N < 0 := by
    have h9_ : (Int32.ofNat N).toInt = (N : Int) := Int32.toInt_ofNat_of_lt hN
    intro h8_
    have h7_ := Int32.lt_iff_toInt_lt.mp h8_
    rw [h9_] at h7_
    have h6_ : (0 : Int32).toInt = 0 := by decide
    omega
  obtain ⟨h0, h1⟩ := zs_lt (i := i) (n := Int32.ofNat N) (by rw [hNi]; exact hi) hN0
  refine lv_iload_n hx hb zs_dL_0 rfl (lv_at hl 1 rfl) ?_
  refine lv_aload_n hx hb zs_dL_1 rfl (lv_at hl 0 rfl) ?_
  refine va_tlen hx hb hT hS rfl zs_dL_2 ?_
  refine va_callv (va_runS (As := [.int i, .int (Int32.ofNat N)]) (rest := []) ⟨hx, hb, hml, hown, hts⟩ (zs_mK l h0 h1) ⟨callB_of 2 hts (zs_go2 (zs_in 2 rfl)) rfl rfl rfl (hts _ (List.mem_cons_of_mem _ (zs_in (k := .initialized "java/lang/String") 18 rfl))) (hts _ (List.mem_cons_of_mem _ (zs_in (k := .methodLink "java/lang/StringLatin1" 9 zs_yK) 24 rfl))) (by decide +kernel) ⟨Nat.le_of_ble_eq_true rfl, Nat.le_of_ble_eq_true rfl⟩, hts _ (List.mem_cons_of_mem _ (zs_in (k := .static zs_yK) 3 rfl))⟩ ⟨fun a U g mk q => ⟨q.1, va_Zq.moved (Vm.Alike.refl U.vm) q.2⟩, fun U hU hW => ⟨rfl, by have h9_ := va_Zq.moved hW.alike hZ; rw [← hU] at h9_; exact h9_⟩⟩ rfl rfl hl.1 rfl (lv_room (Nat.le_of_ble_eq_true rfl)) zs_dL_3 ⟨(Nat.zero_le _), (Nat.zero_le _)⟩) hS (fun q _ h9_ => h9_) (fun q h9_ => h9_) (fun u t H locs ht hvm hw hB hz1 hk1 hS => ?_)
  refine lv_aload_n hx hb zs_dL_6 rfl (lv_at hl 0 rfl) ?_
  refine lv_iload_n hx hb zs_dL_7 rfl (lv_at hl 1 rfl) ?_
  refine va_tb hx hb hT hS hi hf zs_dL_8 ?_
  refine lv_sipush hx hb zs_dL_9 rfl ?_
  refine lv_iand hx hb zs_dL_12 ?_
  refine lv_i2c hx hb zs_dL_13 hy ?_
  exact W.zret hx hb hr hn (fun t ht hW => ⟨⟨y, (), rfl, rfl, trivial⟩, hS.F ht⟩) hS.2.2 zs_dL_14 hlocks
/-- String.isLatin1 -/
theorem zs_mI (l : Launch) {b : List Int32} {a : Nat} : Met l zs_yI (zs_cI :: zs_w) ({ frames := 0, cells := 0, slots := 0, locals := 0 }) (va_Pc [.ref a] (fun U => zs_1 b a zs_N U U.heap)) (va_Qi (fun (r : Int32) (_ : Unit) => r = 1) (fun _ _ => True) zs_N) 0 0 zs_N := by
  refine Met.ofW (cc := zs_bI) (maxL := 1) (ret := some .boolean) (by decide) rfl ?_
  intro p e s m args below meth c s₁ B hml hq
  obtain ⟨rfl, hO, hF, hV, hZ, -⟩ := hq
  have hx := B.exec
  have hb := B.bytes
  have hr := B.returns
  have hlocks := B.notSynchronized
  have hts := atoms_spec (ws := zs_cI :: zs_w) B.pre
  have hown : s.vm.findClass "java/lang/String" = some m.cls := findClass_of_methodNamed B.named
  have hS : va_S zs_N s.heap s.heap [] := va_S.rf
  have hl := lv_entry ([.ref a]) (n := 1) (Nat.le_of_ble_eq_true rfl)
  rw [lg_entry_eq]
  generalize (lg_sl ([.ref a]) ++ List.replicate (1 - (lg_sl ([.ref a])).length) Slot.unset).toArray = ls at hl ⊢
  have hl : lv_has ls 1 [(0, .ref a)] := hl
  refine va_gets hx hb hZ hS hown (hts _ (List.mem_cons_of_mem _ (zs_in (k := .fieldLink "java/lang/String" 38 "java/lang/String" "COMPACT_STRINGS" "Z") 26 rfl))) (fun _ h9_ => h9_) zs_dI_0 ?_
  refine lv_if_eq hx hb zs_dI_3 (tgt := 17) rfl (fun h9_ => absurd h9_ (by decide)) (fun _ => ?_)
  refine lv_aload_n hx hb zs_dI_6 rfl (lv_at hl 0 rfl) ?_
  refine vk_getf hx hb hF hS hown (hts _ (List.mem_cons_of_mem _ (zs_in (k := .fieldLink "java/lang/String" 15 "java/lang/String" "coder" "B") 29 rfl))) (fun _ h9_ => h9_) zs_dI_7 ?_
  refine lv_if_ne hx hb zs_dI_10 (tgt := 17) rfl (fun h9_ => absurd rfl h9_) (fun _ => ?_)
  refine lv_iconst hx hb zs_dI_13 rfl ?_
  refine lv_goto hx hb zs_dI_14 (tgt := 18) rfl ?_
  exact W.zret hx hb hr rfl (fun t ht hW => ⟨⟨1, (), rfl, rfl, trivial⟩, hS.F ht⟩) hS.2.2 zs_dI_18 hlocks
/-- String.coder -/
theorem zs_mO (l : Launch) {b : List Int32} {a : Nat} : Met l zs_yO (zs_cO :: zs_w) ({ frames := 0, cells := 0, slots := 0, locals := 0 }) (va_Pc [.ref a] (fun U => zs_1 b a zs_N U U.heap)) (va_Qi (fun (r : Int32) (_ : Unit) => r = 0) (fun _ _ => True) zs_N) 0 0 zs_N := by
  refine Met.ofW (cc := zs_bO) (maxL := 1) (ret := some .byte) (by decide) rfl ?_
  intro p e s m args below meth c s₁ B hml hq
  obtain ⟨rfl, hO, hF, hV, hZ, -⟩ := hq
  have hx := B.exec
  have hb := B.bytes
  have hr := B.returns
  have hlocks := B.notSynchronized
  have hts := atoms_spec (ws := zs_cO :: zs_w) B.pre
  have hown : s.vm.findClass "java/lang/String" = some m.cls := findClass_of_methodNamed B.named
  have hS : va_S zs_N s.heap s.heap [] := va_S.rf
  have hl := lv_entry ([.ref a]) (n := 1) (Nat.le_of_ble_eq_true rfl)
  rw [lg_entry_eq]
  generalize (lg_sl ([.ref a]) ++ List.replicate (1 - (lg_sl ([.ref a])).length) Slot.unset).toArray = ls at hl ⊢
  have hl : lv_has ls 1 [(0, .ref a)] := hl
  refine va_gets hx hb hZ hS hown (hts _ (List.mem_cons_of_mem _ (zs_in (k := .fieldLink "java/lang/String" 38 "java/lang/String" "COMPACT_STRINGS" "Z") 26 rfl))) (fun _ h9_ => h9_) zs_dO_0 ?_
  refine lv_if_eq hx hb zs_dO_3 (tgt := 13) rfl (fun h9_ => absurd h9_ (by decide)) (fun _ => ?_)
  refine lv_aload_n hx hb zs_dO_6 rfl (lv_at hl 0 rfl) ?_
  refine vk_getf hx hb hF hS hown (hts _ (List.mem_cons_of_mem _ (zs_in (k := .fieldLink "java/lang/String" 15 "java/lang/String" "coder" "B") 29 rfl))) (fun _ h9_ => h9_) zs_dO_7 ?_
  refine lv_goto hx hb zs_dO_10 (tgt := 14) rfl ?_
  exact W.zret hx hb hr rfl (fun t ht hW => ⟨⟨0, (), rfl, rfl, trivial⟩, hS.F ht⟩) hS.2.2 zs_dO_14 hlocks
/-- String.length -/
theorem zs_mN (l : Launch) {b : List Int32} {a : Nat} {x : Int32} (hy : Int32.ofNat b.length >>> ((0 : Int32) &&& 31) = x) : Met l zs_yN (zs_cN :: zs_w) ({ frames := 1, cells := 0, slots := 0, locals := 20 }) (va_Pc [.ref a] (fun U => zs_1 b a zs_N U U.heap)) (va_Qi (fun (r : Int32) (_ : Unit) => r = x) (fun _ _ => True) zs_N) 0 0 zs_N := by
  refine Met.ofW (cc := zs_bN) (maxL := 1) (ret := some .int) (by decide) rfl ?_
  intro p e s m args below meth c s₁ B hml hq
  obtain ⟨rfl, h1⟩ := hq
  obtain ⟨hO, hF, ⟨v, hV, hT⟩, hZ, hQ⟩ := id h1
  have hx := B.exec
  have hb := B.bytes
  have hr := B.returns
  have hlocks := B.notSynchronized
  have hts := atoms_spec (ws := zs_cN :: zs_w) B.pre
  have hown : s.vm.findClass "java/lang/String" = some m.cls := findClass_of_methodNamed B.named
  have hS : va_S zs_N s.heap s.heap [] := va_S.rf
  have hl := lv_entry ([.ref a]) (n := 1) (Nat.le_of_ble_eq_true rfl)
  rw [lg_entry_eq]
  generalize (lg_sl ([.ref a]) ++ List.replicate (1 - (lg_sl ([.ref a])).length) Slot.unset).toArray = ls at hl ⊢
  have hl : lv_has ls 1 [(0, .ref a)] := hl
  refine lv_aload_n hx hb zs_dN_0 rfl (lv_at hl 0 rfl) ?_
  refine vk_getf hx hb hV hS hown (hts _ (List.mem_cons_of_mem _ (zs_in (k := .fieldLink "java/lang/String" 9 "java/lang/String" "value" "[B") 28 rfl))) (fun _ h9_ => h9_) zs_dN_1 ?_
  refine va_tlen hx hb hT hS rfl zs_dN_4 ?_
  refine lv_aload_n hx hb zs_dN_5 rfl (lv_at hl 0 rfl) ?_
  refine va_calli (va_runV (As := []) (rest := [.int (Int32.ofNat b.length)]) ⟨hx, hb, hml, hown, hts⟩ (zs_mO l (b := b)) ⟨callB_of 0 hts (zs_go2 (zs_in 9 rfl)) rfl rfl rfl (hts _ (List.mem_cons_of_mem _ (zs_in (k := .initialized "java/lang/String") 18 rfl))) (hts _ (List.mem_cons_of_mem _ (zs_in (k := .methodLink "java/lang/String" 335 zs_yO) 21 rfl))) (by decide +kernel) ⟨Nat.le_of_ble_eq_true rfl, Nat.le_of_ble_eq_true rfl⟩, hts _ (List.mem_cons_of_mem _ (zs_in (k := .instanceMethod zs_yO) 10 rfl)), hts _ (List.mem_cons_of_mem _ (zs_in (k := .selects "java/lang/String" zs_yO zs_yO) 11 rfl))⟩ ⟨fun a9 U g mk q => ⟨q.1, zs_1.moved (Vm.Alike.refl U.vm) q.2⟩, (by
    obtain ⟨cell_, c1_, c2_, c3_, -⟩ := hO
    exact ⟨cell_, c1_, c2_, c3_⟩), fun U hU hW => ⟨rfl, by have h9_ := zs_1.moved hW.alike h1; rw [← hU] at h9_; exact h9_⟩⟩ rfl rfl hl.1 rfl (lv_room (Nat.le_of_ble_eq_true rfl)) zs_dN_6 ⟨(Nat.zero_le _), (Nat.zero_le _)⟩) hS (fun q _ h9_ => h9_) (fun q h9_ => h9_) (fun r u t H locs ht hvm hw hB hz1 hk1 hS => ?_)
  have hw : r = 0 := hw
  subst hw
  refine lv_ishr hx hb zs_dN_9 ?_
  rw [hy]
  exact W.iret hx hb hr (fun t ht hW => ⟨⟨x, (), rfl, rfl, trivial⟩, hS.F ht⟩) hS.2.2 zs_dN_10 hlocks
/-- String.charAt -/
theorem zs_mC (l : Launch) {b : List Int32} {a : Nat} {i : Int32} {x y : Int32} (hN : b.length < 2 ^ 31) (hi : vp_in i b.length) (hf : b.getD i.toNatClampNeg 0 = x) (hy : ((x &&& (Int16.ofInt 255).toInt32).toUInt32 % 65536).toInt32 = y) (hn : narrow .char (.int y) = .int y) : Met l zs_yC (zs_cC :: zs_w) ({ frames := 3, cells := 0, slots := 0, locals := 64 }) (va_Pc [.ref a, .int i] (fun U => zs_1 b a zs_N U U.heap)) (va_Qi (fun (r : Int32) (_ : Unit) => r = y) (fun _ _ => True) zs_N) 0 0 zs_N := by
  refine Met.ofW (cc := zs_bC) (maxL := 2) (ret := some .char) (by decide) rfl ?_
  intro p e s m args below meth c s₁ B hml hq
  obtain ⟨rfl, h1⟩ := hq
  obtain ⟨hO, hF, ⟨v, hV, hT⟩, hZ, hQ⟩ := id h1
  have hx := B.exec
  have hb := B.bytes
  have hr := B.returns
  have hlocks := B.notSynchronized
  have hts := atoms_spec (ws := zs_cC :: zs_w) B.pre
  have hown : s.vm.findClass "java/lang/String" = some m.cls := findClass_of_methodNamed B.named
  have hS : va_S zs_N s.heap s.heap [] := va_S.rf
  have hl := lv_entry ([.ref a, .int i]) (n := 2) (Nat.le_of_ble_eq_true rfl)
  rw [lg_entry_eq]
  generalize (lg_sl ([.ref a, .int i]) ++ List.replicate (2 - (lg_sl ([.ref a, .int i])).length) Slot.unset).toArray = ls at hl ⊢
  have hl : lv_has ls 2 [(0, .ref a), (1, .int i)] := hl
  refine lv_aload_n hx hb zs_dC_0 rfl (lv_at hl 0 rfl) ?_
  refine va_calli (va_runV (As := []) (rest := []) ⟨hx, hb, hml, hown, hts⟩ (zs_mI l (b := b)) ⟨callB_of 0 hts (zs_go2 (zs_in 6 rfl)) rfl rfl rfl (hts _ (List.mem_cons_of_mem _ (zs_in (k := .initialized "java/lang/String") 18 rfl))) (hts _ (List.mem_cons_of_mem _ (zs_in (k := .methodLink "java/lang/String" 492 zs_yI) 22 rfl))) (by decide +kernel) ⟨Nat.le_of_ble_eq_true rfl, Nat.le_of_ble_eq_true rfl⟩, hts _ (List.mem_cons_of_mem _ (zs_in (k := .instanceMethod zs_yI) 7 rfl)), hts _ (List.mem_cons_of_mem _ (zs_in (k := .selects "java/lang/String" zs_yI zs_yI) 8 rfl))⟩ ⟨fun a9 U g mk q => ⟨q.1, zs_1.moved (Vm.Alike.refl U.vm) q.2⟩, (by
    obtain ⟨cell_, c1_, c2_, c3_, -⟩ := hO
    exact ⟨cell_, c1_, c2_, c3_⟩), fun U hU hW => ⟨rfl, by have h9_ := zs_1.moved hW.alike h1; rw [← hU] at h9_; exact h9_⟩⟩ rfl rfl hl.1 rfl (lv_room (Nat.le_of_ble_eq_true rfl)) zs_dC_1 ⟨(Nat.zero_le _), (Nat.zero_le _)⟩) hS (fun q _ h9_ => h9_) (fun q h9_ => h9_) (fun r u t H locs ht hvm hw hB hz1 hk1 hS => ?_)
  have hw : r = 1 := hw
  subst hw
  refine lv_if_eq hx hb zs_dC_4 (tgt := 16) rfl (fun h9_ => absurd h9_ (by decide)) (fun _ => ?_)
  refine lv_aload_n hx hb zs_dC_7 rfl (lv_at hl 0 rfl) ?_
  refine vk_getf hx hb hV hS hown (hts _ (List.mem_cons_of_mem _ (zs_in (k := .fieldLink "java/lang/String" 9 "java/lang/String" "value" "[B") 28 rfl))) (fun _ h9_ => h9_) zs_dC_8 ?_
  refine lv_iload_n hx hb zs_dC_11 rfl (lv_at hl 1 rfl) ?_
  have hT2 := hT.kept hS.2.1
  have hQ2 := hQ.kept hS.2.1
  refine va_calli (va_runS (As := [.ref v, .int i]) (rest := []) ⟨hx, hb, hml, hown, hts⟩ (zs_mL l (v := v) (f := fun j => .int (b.getD j 0)) hN hi (congrArg Value.int hf) hy hn) ⟨callB_of 2 hts (zs_go2 (zs_in 4 rfl)) rfl rfl rfl (hts _ (List.mem_cons_of_mem _ (zs_in (k := .initialized "java/lang/StringLatin1") 19 rfl))) (hts _ (List.mem_cons_of_mem _ (zs_in (k := .methodLink "java/lang/String" 495 zs_yL) 23 rfl))) (by decide +kernel) ⟨Nat.le_of_ble_eq_true rfl, Nat.le_of_ble_eq_true rfl⟩, hts _ (List.mem_cons_of_mem _ (zs_in (k := .static zs_yL) 5 rfl))⟩ ⟨fun a9 U g mk q => ⟨q.1, va_T.moved (Vm.Alike.refl U.vm) q.2.1, va_Zq.moved (Vm.Alike.refl U.vm) q.2.2⟩, fun U hU hW => ⟨rfl, by have h9_ := va_T.moved hW.alike hT2; rw [← hU] at h9_; exact h9_, by have h9_ := va_Zq.moved hW.alike hQ2; rw [← hU] at h9_; exact h9_⟩⟩ rfl rfl hl.1 rfl (lv_room (Nat.le_of_ble_eq_true rfl)) zs_dC_12 ⟨(Nat.zero_le _), (Nat.zero_le _)⟩) hS (fun q _ h9_ => h9_) (fun q h9_ => h9_) (fun r u t2 H2 locs2 ht2 hvm2 hw hB2 hz2 hk2 hS => ?_)
  have hw : r = y := hw
  subst hw
  exact W.zret hx hb hr hn (fun t ht hW => ⟨⟨r, (), rfl, rfl, trivial⟩, hS.F ht⟩) hS.2.2 zs_dC_15 hlocks
