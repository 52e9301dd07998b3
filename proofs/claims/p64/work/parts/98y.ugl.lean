/-! the memory read of a row of longs -/
section UG
variable {e : Env} {s : State} {d : Bool} {acts : List Action} {E : CtlPost}
set_option maxRecDepth 100000 in
theorem ug_row (p : Program) : NativeRow.find? p.tables.natives "jdk/internal/misc/Unsafe" "getLong" "(Ljava/lang/Object;J)J" = some (Native.jdk_internal_misc_Unsafe.memory.getRow "Long" "J" .long "" .plain) := by
  cases p <;> rfl
theorem ug_get {Q : Option Value → Pre} {u : Value} {a : Addr} {cell : Cell} {k : Class} {comp : ClassId} {off : Int64} {i : Nat} {x : Int64} (hcell : s.heap[a]? = some cell) (hvm : cell.vm = .none) (hk : s.vm.classes[cell.cls]? = some k) (hkind : k.kind = .array comp .long) (h0 : ¬ off < 0) (hoff : off.toNatClampNeg = 16 + 8 * i) (hx : cell.slots[i]? = some (.long x)) (hq : ∀ acts9, Q (some (.long x)) d acts9 s) :
    wp ((Native.jdk_internal_misc_Unsafe.memory.getRow "Long" "J" .long "" .plain).sem #[u, .ref a, .long off]) Q E e d acts s := by
  show wp (do let v ← UnsafeMem.get .long (.ref a) off .plain; Jvm.mark "nat.jdk_internal_misc_Unsafe.get"; Pure.pure (some v)) Q E e d acts s
  have hi : cell.info.vm = .none := hvm
  have hc : cell.info.cls = cell.cls := rfl
  have hp : (16 + 8 * i - 16) = 8 * i := by omega
  have hm : (8 * i) % 8 = 0 := by omega
  have hd : (8 * i) / 8 = i := by omega
  simp only [UnsafeMem.get, UnsafeMem.locate, UnsafeMem.handedOut, wp_bind', Jvm.cellInfo, Jvm.theClass, Jvm.look, Jvm.readLoc, Jvm.mark, wp_cell, wp_look, wp_read, wp_mark, wp_pure, wp_pure', if_neg h0, hcell, hoff, Option.some.injEq, exists_eq_left', hi, hc, hk, hkind]
  have c1 : ¬ (16 + 8 * i < UnsafeMem.arrayBase) := by show ¬ 16 + 8 * i < 16; omega
  have c4 : (16 + 8 * i - UnsafeMem.arrayBase) % UnsafeMem.scaleOf FieldType.long = 0 := by show (16 + 8 * i - 16) % 8 = 0; omega
  have c2 : (UnsafeMem.scaleOf FieldType.long == UnsafeMem.scaleOf FieldType.long && (16 + 8 * i - UnsafeMem.arrayBase) % UnsafeMem.scaleOf FieldType.long == 0 && UnsafeMem.isRefType FieldType.long == UnsafeMem.isRefType FieldType.long) = true := by
    rw [c4]; rfl
  have c3 : (16 + 8 * i - UnsafeMem.arrayBase) / UnsafeMem.scaleOf FieldType.long = i := by show (16 + 8 * i - 16) / 8 = i; omega
  rw [if_neg c1, if_pos c2, c3]
  simp only [wp_bind', wp_pure', wp_read, hcell, Option.some.injEq, exists_eq_left', hx, wp_mark, wp_pure]
  refine ⟨(by rw [hvm]; intro q; cases q), ?_⟩
  rw [if_pos (by decide)]
  simp only [wp_bind', wp_pure', wp_mark, wp_pure]
  exact hq _
end UG
section UG2
variable {p : Program} {l : Launch} {e : Env} {R : Room} {s : State} {m : MethodId} {args : Array Value} {below : List Frame} {meth : Method} {c : Code} {cells slots : Nat} {target : State} {g : JFrame} {k : Class} {ig : Instr} {len : Nat}
def ugN : MethodName := ⟨"jdk/internal/misc/Unsafe", "getLong", "(Ljava/lang/Object;J)J"⟩
theorem ug_steps (p : Program) (h : Jvm.At s g.method c below) (acts : List Action)
    (N : NativeOf s.vm m k meth "jdk/internal/misc/Unsafe" "getLong" "(Ljava/lang/Object;J)J" false [.object "java/lang/Object", .long])
    {u a : Addr} {cell : Cell} {ka : Class} {comp : ClassId} {off : Int64} {i : Nat} {x : Int64}
    (hroom : e.platform.stackFull (((s.setTop g).threads[(s.setTop g).cur]?).getD { frames := [] }) (s.setTop g).frames (nativeFrameWords "jdk/internal/misc/Unsafe" "getLong" 4) = false)
    (hcell : s.heap[a]? = some cell) (hvm : cell.vm = .none) (hk : s.vm.classes[cell.cls]? = some ka) (hkind : ka.kind = .array comp .long) (h0 : ¬ off < 0) (hoff : off.toNatClampNeg = 16 + 8 * i) (hx : cell.slots[i]? = some (.long x))
    (hdg : decode c.code g.pc = .ok (ig, len))
    (hrest : Steps p.tables e below (s.setTop { g with pc := g.pc + len, stack := .long x :: g.stack }) target) :
    Steps p.tables e below (doInvoke e (s.setTop g) acts m #[.ref u, .ref a, .long off]).1 target := by
  have hseen : seenByNative meth #[.ref u, .ref a, .long off] = #[.ref u, .ref a, .long off] := by simp [seenByNative, N.static, N.sig, narrow]
  refine Steps.nativeEnds (row := Native.jdk_internal_misc_Unsafe.memory.getRow "Long" "J" .long "" .plain) (v := some (.long x)) (T := id) h acts N.cls N.meth N.boot N.native N.noCode N.noLock
    (by rw [N.className, N.name, N.desc]; exact ug_row p) (by rw [N.className, N.name]; exact hroom) (fun _ => rfl) rfl (fun _ => h.code) ?_ hdg hrest
  intro Q hq
  rw [hseen] at hq ⊢
  exact ug_get (cell := cell) (k := ka) hcell hvm hk hkind h0 hoff hx (fun acts9 => hq _ _)
theorem ug_stand {T : State} {locs : List Loc} (X : Stand p l e R s m args below meth c T locs cells slots) (hexec : p.tables.exec = Jvm.exec) {own : String} {index : Nat} (hown : s.vm.findClass own = some m.cls)
    (hlink : (Cond.methodLink own index ugN).before args s = true) (hnat : (Cond.native ugN).before args s = true) (hinst : (Cond.instanceMethod ugN).before args s = true) (hsel : (Cond.selects "jdk/internal/misc/Unsafe" ugN ugN).before args s = true)
    {u a : Addr} {cu ca : Cell} {ka : Class} {comp : ClassId} {off : Int64} {i : Nat} {x : Int64} (hu : T.heap[u]? = some cu) (huo : cu.vm.isStatics = false) (huc : s.vm.findClass "jdk/internal/misc/Unsafe" = some cu.cls)
    (ha : T.heap[a]? = some ca) (hvm : ca.vm = .none) (hk : s.vm.classes[ca.cls]? = some ka) (hkind : ka.kind = .array comp .long) (h0 : ¬ off < 0) (hoff : off.toNatClampNeg = 16 + 8 * i) (hx : ca.slots[i]? = some (.long x))
    (hg : g.method = m) (hsize : g.locals.size = c.maxLocals) {rest : List Value} (hstack : g.stack = .long off :: .ref a :: .ref u :: rest) (hdg : decode c.code g.pc = .ok (.invokevirtual index, 3)) (hframes : 1 ≤ R.frames) (hlocals : 2 * g.monitorRoom + (rest.map fun v => v.category).sum + 17 ≤ R.locals) :
    ∃ vm', Stand p l e R s m args below meth c (T.setVm vm') locs cells slots ∧ ∀ target, Steps p.tables e below ((T.setVm vm').setTop { g with pc := g.pc + 3, stack := .long x :: rest }) target → Steps p.tables e below (T.setTop g) target := by
  obtain ⟨r, kO, methO, hnO, hmO, hkO, N⟩ := NativeOf.of_instance hnat hinst (ps := [.object "java/lang/Object", .long]) (ret := some .long) (by decide +kernel)
  obtain ⟨r', methO', hnO', hmO', hst, habs⟩ := Cond.instanceMethod_spec hinst
  cases hnO.symm.trans hnO'
  cases hmO.symm.trans hmO'
  obtain ⟨c2, r2, m2, q1, q2, q3, q4, kP, hkP, hkPi⟩ := Cond.selects_spec hsel
  cases huc.symm.trans q1
  cases (State.methodFound?_of_named hnO ⟨by decide, by decide⟩).symm.trans q2
  cases hnO.symm.trans q3
  have hselP : selectMethod e.platform s.vm cu.cls r = .method r := by rw [Launch.admits_selectMethod X.admits]; exact q4
  obtain ⟨vm', X', step⟩ := X.invokevirtual hexec hown hlink hnO hmO hst hkP hkPi ⟨by decide, by decide⟩ (a := u) (cell := cu) hu (fun z h => by rw [h] at huo; cases huo) hselP hmO habs hkP hkPi (g := g) hg (argsL := [.ref a, .long off]) (rest := rest) (by rw [N.sig]; rfl) hstack hdg
  refine ⟨vm', X', fun target hrest => step target fun acts => ?_⟩
  subst hg
  have hA' : s.vm.Alike vm' := X'.warmed.alike
  obtain ⟨kO', N'⟩ := N.alike hA'
  obtain ⟨ka', hka', hea⟩ := hA'.2.2 _ _ hk
  exact ug_steps (g := { g with stack := rest }) (ig := .invokevirtual index) (len := 3) p X'.here acts N' (X'.notFull (g := { g with stack := rest }) hsize (vars := nativeFrameWords "jdk/internal/misc/Unsafe" "getLong" 4) hframes (by rw [show nativeFrameWords "jdk/internal/misc/Unsafe" "getLong" 4 = 6 from by decide]; exact hlocals)) ha hvm hka' (by rw [hea]; exact hkind) h0 hoff hx hdg hrest
end UG2
