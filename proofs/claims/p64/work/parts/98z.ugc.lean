/-! getLongUnaligned at a place that is a multiple of eight, and the call of it -/
theorem ug_W {p : Program} {l : Launch} {e : Env} {R : Room} {s : State} {m : MethodId} {args : Array Value} {below : List Frame} {meth : Method} {c : Code} {H : Heap} {locs : List Loc} {cells slots : Nat} {Q : State → Prop} {cc : ByteArray} {pc index : Nat} {L : Array Slot} (hexec : p.tables.exec = Jvm.exec) (hb : c.code = cc) {own : String} (hown : s.vm.findClass own = some m.cls)
    (hlink : (Cond.methodLink own index ugN).before args s = true) (hnat : (Cond.native ugN).before args s = true) (hinst : (Cond.instanceMethod ugN).before args s = true) (hsel : (Cond.selects "jdk/internal/misc/Unsafe" ugN ugN).before args s = true)
    {u a : Addr} {cu ca : Cell} {ka : Class} {comp : ClassId} {off : Int64} {i : Nat} {x : Int64} (hu : H[u]? = some cu) (huo : cu.vm.isStatics = false) (huc : s.vm.findClass "jdk/internal/misc/Unsafe" = some cu.cls)
    (ha : H[a]? = some ca) (hvm : ca.vm = .none) (hk : s.vm.classes[ca.cls]? = some ka) (hkind : ka.kind = .array comp .long) (h0 : ¬ off < 0) (hoff : off.toNatClampNeg = 16 + 8 * i) (hx : ca.slots[i]? = some (.long x))
    (hsize : L.size = c.maxLocals) (hdg : decode cc pc = .ok (.invokevirtual index, 3)) (hframes : 1 ≤ R.frames) (hlocals : 25 ≤ R.locals)
    (kk : W p l e R s m args below meth c H locs cells slots Q (F0 m (pc + 3) L [.long x])) : W p l e R s m args below meth c H locs cells slots Q (F0 m pc L [.long off, .ref a, .ref u]) := by
  intro T hT X
  have hr := lv_room (m := m) (pc := pc) (ls := L) (rest := [.long off, .ref a, .ref u]) (st := []) (Nat.zero_le _)
  obtain ⟨vm', X', st⟩ := ug_stand X hexec hown hlink hnat hinst hsel (u := u) (a := a) (by rw [hT]; exact hu) huo huc (by rw [hT]; exact ha) hvm hk hkind h0 hoff hx (g := F0 m pc L [.long off, .ref a, .ref u]) rfl hsize (rest := []) rfl (by rw [hb]; exact hdg) hframes (by simp only [List.map_nil, List.sum_nil] at hr ⊢; omega)
  obtain ⟨t, a1, b1⟩ := kk (T.setVm vm') hT X'
  exact ⟨t, st t a1, b1⟩
/-- a contract of a method that no row of the natives stands for -/
theorem ug_ofW {l : Launch} {y : MethodName} {ws ws' : List Cond} {rm : Room} {Pc : Array Value → State → Prop} {Qc : Array Value → State → Outcome → State → Prop} {XC : String → State → State → Prop} {mc ms : Nat} {free : Addr → Prop} {cc : ByteArray} {maxL : Nat} {ret : Option FieldType}
    (hy : plainFor y = true) (hw : ws = Cond.code y cc maxL ret :: ws')
    (body : ∀ p e s m args below meth c s₁, BodyLoose p l y (headSpec ws rm) cc maxL ret e s m args below meth c s₁ → c.maxLocals = maxL → Pc args s →
      W p l e (headSpec ws rm).room s m args below meth c s.heap [] 0 0 (vx_MQ below Qc XC args s mc ms free) (entryFrame m args maxL)) : vx_Met l y ws rm Pc Qc XC mc ms free := by
  refine MetFree.of_bodySF (code := cc) (maxLocals := maxL) (ret := ret) hy ?_ ?_
  · intro args s m h hn
    obtain ⟨meth, c, h1, h2, h3, h4, h5, h6, -, -⟩ := Cond.code_spec hn (atoms_spec (ws := ws) h _ (by rw [hw]; exact List.mem_cons_self))
    exact ⟨meth, c, h1, h2, h3, h4, h5, h6⟩
  · intro p e s m args below meth c s₁ B hml hP _
    have hh0 : s₁.heap = s.heap := by rw [B.state]; rfl
    obtain ⟨t, a1, o, b1, b2, b3⟩ := body p e s m args below meth c s₁ B hml hP s₁ hh0 (Stand.of_body B)
    exact ⟨t, o, a1, b1, b2, b3⟩
def ugU : MethodName := ⟨"jdk/internal/misc/Unsafe", "getLongUnaligned", "(Ljava/lang/Object;J)J"⟩
def ug_e : ev_ME := (30, ugU, prog_46_method_334_code, 4, some .long, 2, 1, 1, 60, [])
theorem ug_w : Cond.methodLink "jdk/internal/misc/Unsafe" 27 ugN ∈ ev_all ∧ Cond.native ugN ∈ ev_all ∧ Cond.instanceMethod ugN ∈ ev_all ∧ Cond.selects "jdk/internal/misc/Unsafe" ugN ugN ∈ ev_all ∧ Cond.constantLong "jdk/internal/misc/Unsafe" 696 7 ∈ ev_all := ⟨List.mem_filter.mpr ⟨List.mem_of_getElem? (i := 1661) (by decide +kernel), rfl⟩, List.mem_filter.mpr ⟨List.mem_of_getElem? (i := 1664) (by decide +kernel), rfl⟩, List.mem_filter.mpr ⟨List.mem_of_getElem? (i := 1662) (by decide +kernel), rfl⟩, List.mem_filter.mpr ⟨List.mem_of_getElem? (i := 1663) (by decide +kernel), rfl⟩, List.mem_filter.mpr ⟨List.mem_of_getElem? (i := 1660) (by decide +kernel), rfl⟩⟩
theorem ug_w2 : Cond.methodLink "jdk/internal/util/ArraysSupport" 30 ugU ∈ ev_all ∧ Cond.code ugU prog_46_method_334_code 4 (some .long) ∈ ev_all ∧ Cond.instanceMethod ugU ∈ ev_all ∧ Cond.selects "jdk/internal/misc/Unsafe" ugU ugU ∈ ev_all ∧ Cond.initialized "jdk/internal/misc/Unsafe" ∈ ev_all := ⟨List.mem_filter.mpr ⟨List.mem_of_getElem? (i := 1656) (by decide +kernel), rfl⟩, List.mem_filter.mpr ⟨List.mem_of_getElem? (i := 1659) (by decide +kernel), rfl⟩, List.mem_filter.mpr ⟨List.mem_of_getElem? (i := 1657) (by decide +kernel), rfl⟩, List.mem_filter.mpr ⟨List.mem_of_getElem? (i := 1658) (by decide +kernel), rfl⟩, List.mem_filter.mpr ⟨List.mem_of_getElem? (i := 64) (by decide +kernel), rfl⟩⟩
theorem ug_d : decode prog_46_method_334_code 0 = .ok (.lload_n 2, 1) ∧ decode prog_46_method_334_code 1 = .ok (.ldc2_w 696, 3) ∧ decode prog_46_method_334_code 4 = .ok (.land, 1) ∧ decode prog_46_method_334_code 5 = .ok (.lconst 0, 1) ∧ decode prog_46_method_334_code 6 = .ok (.lcmp, 1) ∧ decode prog_46_method_334_code 7 = .ok (.ifCond .ne 10, 3) ∧ decode prog_46_method_334_code 10 = .ok (.aload_n 0, 1) ∧ decode prog_46_method_334_code 11 = .ok (.aload_n 1, 1) ∧ decode prog_46_method_334_code 12 = .ok (.lload_n 2, 1) ∧ decode prog_46_method_334_code 13 = .ok (.invokevirtual 27, 3) ∧ decode prog_46_method_334_code 16 = .ok (.lreturn, 1) := by decide +kernel
section UG3
variable {D : va_G} {cy : Nat → ClassId} {base : Nat} {ext : Nat → Nat} {SL : Nat} {SX : Nat → Int32} {l : Launch} {w : ev_W}
theorem ug_con {a i : Nat} {off : Int64} (ha : a < w_n w) (hk : w_K w a = 14) (hi : i < w_L w a) (h0 : ¬ off < 0) (hoff : off.toNatClampNeg = 16 + 8 * i) (h7 : off &&& 7 = 0) : ev_Con D cy base ext SL SX l ug_e [.ref (ev_S + 103), .ref a, .long off] w (.inl (some (.long (w_J w a i)))) w := by
  unfold ev_Con
  rw [Nat.sub_self, Nat.sub_self]
  have hw : ev_wz ug_e = Cond.code ugU prog_46_method_334_code 4 (some .long) :: ev_all := rfl
  refine ug_ofW (by decide +kernel) hw (fun p e s m args below meth c s₁ B hml hP => ?_)
  obtain ⟨rfl, hM, hK, hF, hbs, hXs⟩ := hP
  have hts : ∀ w9 ∈ ev_wz ug_e, w9.before ([.ref (ev_S + 103), .ref a, .long off].map (ev_v base ext)).toArray s = true := atoms_spec (ws := ev_wz ug_e) B.pre
  have hts2 : ∀ w9 ∈ ev_all, w9.before ([.ref (ev_S + 103), .ref a, .long off].map (ev_v base ext)).toArray s = true := fun w9 h9 => hts w9 (List.mem_cons_of_mem _ h9)
  obtain ⟨cu, u1, u2, u3, -⟩ := hF.2.2.2.2.2.2.2.2.1.2.2.2.2.2.2.2.2.2.1
  have he : (ev_ws cy base ext w)[a]? = some (base + a, .inl (cy 14, w_L w a, .inr (.inl (w_J w a)))) := by rw [ev_ws_at ha, ev_entj hk]
  have hcell := hM.1 a _ he
  obtain ⟨-, ka, k1, comp, k2⟩ := (hK.2 5 _ (rfl : (ev_tys cy)[5]? = some (cy 14, .long))).1 (w_L w a) (fun j => .long (w_J w a j))
  rw [lg_entry_eq]
  have hE := ev_EL_inL (base := base) (ext := ext) (n := 4) (as := [.ref (ev_S + 103), .ref a, .long off]) (Nat.le_refl 4)
  generalize (lg_sl ([.ref (ev_S + 103), .ref a, .long off].map (ev_v base ext)) ++ List.replicate (4 - (lg_sl ([.ref (ev_S + 103), .ref a, .long off].map (ev_v base ext))).length) Slot.unset).toArray = L9 at hE ⊢
  have l0 : L9[0]? = some (.val (.ref (ext (ev_S + 103)))) := by
    rw [hE.2.2.2 0 (.ref (ev_S + 103)) rfl, show ev_v base ext (.ref (ev_S + 103)) = .ref (ext (ev_S + 103)) from congrArg Value.ref (ev_ρ_x 103)]
  have l1 : L9[1]? = some (.val (.ref (base + a))) := by
    rw [hE.2.2.2 1 (.ref a) rfl, ev_v_ref ⟨s.heap, hM⟩ ha]
  have l2 : L9[2]? = some (.val (.long off)) := hE.2.2.2 2 (.long off) rfl
  obtain ⟨d0, d1, d4, d5, d6, d7, d10, d11, d12, d13, d16⟩ := ug_d
  obtain ⟨w1, w2, w3, w4, w5⟩ := ug_w
  have hown : s.vm.findClass "jdk/internal/misc/Unsafe" = some m.cls := findClass_of_methodNamed B.named
  refine lv_lload_n B.exec B.bytes d0 rfl l2 ?_
  refine lv_ldc2 B.exec B.bytes hown (hts2 _ w5) d1 ?_
  refine lv_land B.exec B.bytes d4 ?_
  rw [h7]
  refine lv_lconst B.exec B.bytes d5 (v := 0) rfl ?_
  refine W.lcmp B.exec B.bytes d6 ?_
  refine lv_if_ne B.exec B.bytes d7 (tgt := 17) rfl (fun q => absurd (by decide) q) (fun _ => ?_)
  refine lv_aload_n B.exec B.bytes d10 rfl l0 ?_
  refine lv_aload_n B.exec B.bytes d11 rfl l1 ?_
  refine lv_lload_n B.exec B.bytes d12 rfl l2 ?_
  refine ug_W B.exec B.bytes hown (hts2 _ w1) (hts2 _ w2) (hts2 _ w3) (hts2 _ w4) (i := i) (x := w_J w a i) u1 u2 u3 hcell rfl k1 k2 h0 hoff (arrV_read _ _ hi) (hE.2.1.trans hml.symm) d13 (Nat.le_refl 1) (by show 25 ≤ 60; omega) ?_
  exact vx_ret (W.lret B.exec B.bytes B.returns (fun t ht9 _ => ⟨⟨some (.long (w_J w a i)), rfl, rfl, rfl, by rw [ht9]; exact hM⟩, va_S.rf.F ht9⟩) (fun q hq => by cases hq) d16 B.notSynchronized)
end UG3
section UG4
variable {G : z_G} {j pc n : Nat} {ls : ev_L} {r : List Value} {w : ev_W} {o : Option Value ⊕ Nat} {w1 : ev_W} {t : List Bool}
def zx_ugl (pc n : Nat) (z : ev_ME) (ins : Instr) (len : Nat) : Bool := match ins with
  | .invokevirtual ix => xn pc len n 3 && (Nat.beq ix 30 && (Nat.beq (ev_own1 z) 27 && ev_rmk z ug_e))
  | _ => false
theorem x_ugl {a i : Nat} {off : Int64} (h : z_all (z_at j pc (zx_ugl pc n) :: t) = true) (ha : a < w_n w) (hk : w_K w a = 14) (hi : i < w_L w a) (h0 : ¬ off < 0) (hoff : off.toNatClampNeg = 16 + 8 * i) (h7 : off &&& 7 = 0) (hcat : Nat.ble (ev_cat r) 8 = true) (kk : z_all t = true → z_R G j n ls (.long (w_J w a i) :: r) w o w1) : z_R G j pc ls (.long off :: .ref a :: .ref (ev_S + 103) :: r) w o w1 := by
  obtain ⟨h2_, z0_, ins_, len_, hz_, hi_, hf_⟩ := z_any h
  unfold zx_ugl at hf_
  split at hf_
  · rename_i ix_
    simp only [Bool.and_eq_true] at hf_
    obtain ⟨g1_, g2_, g3_, g4_⟩ := hf_
    obtain ⟨rfl, rfl⟩ := xn_of g1_
    have g5_ : ix_ = 30 := Nat.eq_of_beq_eq_true g2_
    have g6_ : ev_own1 z0_ = 27 := Nat.eq_of_beq_eq_true g3_
    subst g5_
    intro D cy base ext
    have hs := kk h2_ D cy base ext
    refine ev_x_call (e2 := ug_e) (o2 := .inl (some (.long (w_J w a i)))) (w2 := w) (rest := r) hz_ (ev_z_cls hz_) (Nat.le_refl _) (Nat.le_refl _) hs.1 hs.2.1 (fun v hv _ => by cases hv; exact hs) (fun E hE => by cases hE) (fun p e R s m args below meth c hC H locs cells slots L hM hS hE hcR hsR => ?_)
    have hts := hC.2.2.2.2.2.1
    have ho := hC.2.2.2.2.2.2.2.2.2.2.2.1
    rw [g6_] at ho
    have ho' : "jdk/internal/util/ArraysSupport" = (ev_y z0_).cls := ho
    obtain ⟨cu, u1, u2, u3, -⟩ := (ev_F_go (State.WarmedH.refl s) hC.2.2.2.2.2.2.2.2.2.1 hS.2.1).2.2.2.2.2.2.2.2.1.2.2.2.2.2.2.2.2.2.1
    have e9 : ([.ref (ev_S + 103), .ref a, .long off] : List Value).map (ev_v base ext) = [.ref (ext (ev_S + 103)), .ref (base + a), .long off] := by
      show [ev_v base ext (.ref (ev_S + 103)), ev_v base ext (.ref a), ev_v base ext (.long off)] = _
      rw [ev_v_ref ⟨H, hM⟩ ha, show ev_v base ext (.ref (ev_S + 103)) = .ref (ext (ev_S + 103)) from congrArg Value.ref (ev_ρ_x 103)]
      rfl
    have hstk : (F0 m pc L ((.long off :: .ref a :: .ref (ev_S + 103) :: r).map (ev_v base ext))).stack = ([.ref (base + a), .long off] : List Value).reverse ++ .ref (ext (ev_S + 103)) :: r.map (ev_v base ext) := by
      show ev_v base ext (.long off) :: ev_v base ext (.ref a) :: ev_v base ext (.ref (ev_S + 103)) :: r.map (ev_v base ext) = _
      rw [ev_v_ref ⟨H, hM⟩ ha, show ev_v base ext (.ref (ev_S + 103)) = .ref (ext (ev_S + 103)) from congrArg Value.ref (ev_ρ_x 103)]
      rfl
    have hroom := ev_rmk_of g4_ hC.2.2.2.2.2.2.2.2.2.2.2.2.2.1 hC.2.2.2.2.2.2.2.2.2.2.2.2.2.2.1
    have hcon := ug_con (D := D) (cy := cy) (base := base) (ext := ext) (SL := G.1) (SX := G.2.1) (l := G.2.2) ha hk hi h0 hoff h7
    obtain ⟨v1, v2, v3, v4, v5⟩ := ug_w2
    have hwz : ∀ w9 ∈ ev_wz ug_e, ∀ (a' : Array Value) (U : State), s.WarmedH U.vm → w9.before a' U = true := pay_in hts (fun w9 hw9 => by
      rcases List.mem_cons.mp hw9 with rfl | h9
      · exact ⟨v2, ev_all_good v2⟩
      · exact ⟨h9, ev_all_good h9⟩)
    refine ⟨(Value.ref (ext (ev_S + 103)) :: [.ref (base + a), .long off]).toArray, ?_⟩
    exact vx_runV (n := 2) (index := 30) (y := ugU) (C := "jdk/internal/misc/Unsafe") (bytes := prog_46_method_334_code) (maxL := 4) (ret := some .long) (As := [.ref (base + a), .long off]) (b := ext (ev_S + 103)) ⟨hC.1, hC.2.1, hC.2.2.2.1, hC.2.2.2.2.1, hts⟩ hcon ⟨⟨rfl, rfl, hroom.1, hroom.2, hwz, List.mem_cons_self, hts _ v2, hts _ v5, ⟨by decide, by decide⟩, (fun sig hs9 => by
      have h8 : parseMethodDescriptor ugU.desc = some { parameters := [.object "java/lang/Object", .long], returnType := some .long } := by decide +kernel
      rw [h8] at hs9
      rw [← Option.some.inj hs9]
      rfl), by rw [← ho']; exact hts _ v1⟩, hts _ v3, hts _ v4⟩ ⟨ev_Pc_blind, ⟨cu, u1, u2, u3⟩, fun U hU hW => by
        have h8 := ev_Pc_of (as := [.ref (ev_S + 103), .ref a, .long off]) hC hM hS U hU hW
        rw [e9] at h8
        exact h8⟩ rfl rfl hE.2.1 hstk (ev_monr (Nat.le_of_ble_eq_true hcat)) hi_ ⟨hcR, hsR⟩
  · cases hf_
end UG4
