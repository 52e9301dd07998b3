/-! the memory read of a row of longs -/
section UG
variable {e : Env} {s : State} {d : Bool} {acts : List Action} {E : CtlPost}
set_option maxRecDepth 100000 in
theorem ug_row (p : Program) : NativeRow.find? p.tables.natives "jdk/internal/misc/Unsafe" "getLong" "(Ljava/lang/Object;J)J" = some (Native.jdk_internal_misc_Unsafe.memory.getRow "Long" "J" .long "" .plain) := by
  cases p <;> rfl
theorem ug_get {Q : Option Value → Pre} {u : Value} {a : Addr} {cell : Cell} {k : Class} {comp : ClassId} {off : Int64} {i : Nat} {x : Int64} (hcell : s.heap[a]? = some cell) (hvm : cell.vm = .none) (hk : s.vm.classes[cell.cls]? = some k) (hkind : k.kind = .array comp .long) (h0 : ¬ off < 0) (hoff : off.toNatClampNeg = 16 + 8 * i) (hx : cell.slots[i]? = some (.long x)) (hq : ∀ acts9, Q (some (.long x)) d acts9 s) :
    wp ((Native.jdk_internal_misc_Unsafe.memory.getRow "Long" "J" .long "" .plain).sem #[u, .ref a, .long off]) Q E e d acts s := by
  show wp (do let v ← UnsafeMem.get .long (.ref a) off .plain; Jvm.mark "nat.jdk_internal_misc_Unsafe.get"; Pure.pure (some v)) Q E e d acts s
  have hi : cell.info.vm = .none := hvm
  have hc : cell.info.cls = cell.cls := rfl
  have hp : (16 + 8 * i - 16) = 8 * i := by omega
  have hm : (8 * i) % 8 = 0 := by omega
  have hd : (8 * i) / 8 = i := by omega
  simp only [UnsafeMem.get, UnsafeMem.locate, UnsafeMem.handedOut, wp_bind', Jvm.cellInfo, Jvm.theClass, Jvm.look, Jvm.readLoc, Jvm.mark, wp_cell, wp_look, wp_read, wp_mark, wp_pure, wp_pure', if_neg h0, hcell, hoff, Option.some.injEq, exists_eq_left', hi, hc, hk, hkind]
  trace_state
  sorry
end UG
