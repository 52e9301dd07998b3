/-! contexts of a walk -/
/-- a String constant's object: its bytes; and two statics that String's methods read -/
def zs_fd : String := "Ljava/util/function/BiFunction;"
def zs_pc : String := "jdk/internal/util/Preconditions"
def zs_1 (b : List Int32) (a : Nat) (A : Nat → Prop) (U : State) (H : Heap) : Prop := va_O "java/lang/String" a A U H ∧ va_OF "java/lang/String" "coder" "B" (.int 0) a A U H ∧ (∃ v : Nat, va_OF "java/lang/String" "value" "[B" (.ref v) a A U H ∧ va_T .byte v b.length (fun j => .int (b.getD j 0)) A U H) ∧ va_Z "java/lang/String" "COMPACT_STRINGS" "Z" (.int 1) A U H ∧ va_Zq zs_pc "SIOOBE_FORMATTER" zs_fd A U H
theorem zs_1.moved {b : List Int32} {a : Nat} {A : Nat → Prop} {u U : State} {H : Heap} (hvm : u.vm.Alike U.vm) (h : zs_1 b a A u H) : zs_1 b a A U H := by
  obtain ⟨h1_, h2_, ⟨v_, h3_, h4_⟩, h5_, h6_⟩ := h
  exact ⟨va_O.moved hvm h1_, va_OF.moved hvm h2_, ⟨v_, va_OF.moved hvm h3_, va_T.moved hvm h4_⟩, va_Z.moved hvm h5_, va_Zq.moved hvm h6_⟩
theorem zs_1.kept {b : List Int32} {a : Nat} {A : Nat → Prop} {U : State} {H H1 : Heap} (h : zs_1 b a A U H) (hq : ∀ a : Nat, a < H.size → ¬ A a → H1[a]? = H[a]?) : zs_1 b a A U H1 := by
  obtain ⟨h1_, h2_, ⟨v_, h3_, h4_⟩, h5_, h6_⟩ := h
  exact ⟨h1_.kept hq, h2_.kept hq, ⟨v_, h3_.kept hq, h4_.kept hq⟩, h5_.kept hq, h6_.kept hq⟩
def ev_F (base : Nat) (ext : Nat → Nat) (U : State) (H : Heap) : Prop :=
  (∀ w ∈ ev_ngw, va_Nw w U) ∧ (∀ j k, j < 3 → k < 3 → j ≠ k → va_Nc (ev_ex j) (ev_ex k) U) ∧ va_AO RX0 U ∧ va_AO RX5 U ∧ va_Nw ev_nsw U ∧ (∀ (k : Nat) (q : Nat × Nat × String), ev_str[k]? = some q → vk_R (ev_own.getD q.1 "") q.2.1 q.2.2 (ext (ev_S + 1 + k)) U ∧ zs_1 (ev_sby.getD k []) (ext (ev_S + 1 + k)) (ev_A base) U H) ∧
  vx_Zq Bundle.tN "UNASSIGNED_STACK" Bundle.steD (ev_A base) U H ∧ vx_Zq Bundle.tN "SUPPRESSED_SENTINEL" Bundle.listD (ev_A base) U H
theorem ev_F_go {base : Nat} {ext : Nat → Nat} {s U : State} {H H1 : Heap} (hW : s.WarmedH U.vm) (h : ev_F base ext s H) (hk : ∀ a, a < H.size → ¬ ev_A base a → H1[a]? = H[a]?) : ev_F base ext U H1 := by
  obtain ⟨h1, h2, h3, h4, h5, h6, h7, h8⟩ := h
  refine ⟨fun w hw => ?_, fun j k hj hk hn => (h2 j k hj hk hn).moved hW.alike, h3.moved hW.alike, h4.moved hW.alike, ?_, fun k q hq => ⟨(h6 k q hq).1.warm hW, ((h6 k q hq).2.moved hW.alike).kept hk⟩, ?_, ?_⟩
  · have h9 := h1 w hw
    unfold ev_ngw at hw
    simp only [List.mem_cons, List.not_mem_nil, or_false] at hw
    rcases hw with rfl | rfl | rfl | rfl | rfl | rfl
    · exact va_tabs rfl (rfl : (s.setVm U.vm).vm = U.vm) (A := #[]) (by rw [Cond.castable_setVm hW.alike]; exact h9)
    · exact va_tabs rfl (rfl : (s.setVm U.vm).vm = U.vm) (A := #[]) (by rw [Cond.castable_setVm hW.alike]; exact h9)
    · exact va_tabs rfl (rfl : (s.setVm U.vm).vm = U.vm) (A := #[]) (by rw [Cond.castable_setVm hW.alike]; exact h9)
    · exact va_tabs rfl (rfl : (s.setVm U.vm).vm = U.vm) (A := #[]) (by rw [Cond.declares_setVm hW.alike]; exact h9)
    · exact va_tabs rfl (rfl : (s.setVm U.vm).vm = U.vm) (A := #[]) (by rw [Cond.declares_setVm hW.alike]; exact h9)
    · exact va_tabs rfl (rfl : (s.setVm U.vm).vm = U.vm) (A := #[]) (by rw [Cond.declares_setVm hW.alike]; exact h9)
  · exact va_Nw.warmM hW h5
  · exact (vx_Zq.moved hW.alike h7).kept hk
  · exact (vx_Zq.moved hW.alike h8).kept hk
/-- what a method's body stands in -/
def ev_Cx (D : va_G) (cy : Nat → ClassId) (base : Nat) (ext : Nat → Nat) (SL : Nat) (SX : Nat → Int32) (l : Launch) (j : Nat) (z : ev_ME) (p : Program) (R : Room) (s : State) (m : MethodId) (args : Array Value) (meth : Method) (c : Code) : Prop :=
  p.tables.exec = Jvm.exec ∧ c.code = ev_by z ∧ meth.sig.returnType = ev_rt z ∧ c.maxLocals = ev_ml z ∧ s.vm.findClass (ev_y z).cls = some m.cls ∧ (∀ w ∈ ev_all, w.before args s = true) ∧ meth.locks = false ∧ (ev_kd z ≠ 0 → meth.name = (ev_y z).name) ∧ va_K D vwCl (ev_tys cy) s ∧ ev_F base ext s s.heap ∧ base ≤ s.heap.size ∧
  ev_own.getD (ev_own1 z) "" = (ev_y z).cls ∧ (ev_hh z ≠ [] → c.exceptionTable.toList = tableOf (ev_hh z)) ∧ ev_fr z ≤ R.frames ∧ ev_lo z ≤ R.locals ∧ l.stackTraces = false ∧ (j = ev_LAW → va_X (ext ev_S) SL SX s s.heap ∧ ext ev_S < s.heap.size ∧ ext ev_S < base)
/-- the row at which an answer is returned -/
def ev_rat (z : ev_ME) (pc : Nat) (v : Option Value) : Prop := match v with
  | none => decode (ev_by z) pc = .ok (.return_, 1)
  | some (.int _) => decode (ev_by z) pc = .ok (.ireturn, 1)
  | some (.float _) => decode (ev_by z) pc = .ok (.freturn, 1)
  | some (.double _) => decode (ev_by z) pc = .ok (.dreturn, 1)
  | some (.ref _) => decode (ev_by z) pc = .ok (.areturn, 1)
  | _ => False
/-- what is wanted of a walk's end -/
def ev_End (D : va_G) (cy : Nat → ClassId) (base : Nat) (ext : Nat → Nat) (SL : Nat) (SX : Nat → Int32) (l : Launch) (z : ev_ME) (p : Program) (e : Env) (R : Room) (s : State) (m : MethodId) (args : Array Value) (below : List Frame) (meth : Method) (c : Code) (o : Option Value ⊕ Nat) (w1 : ev_W) (K N : Nat) (Q : State → Prop) : Prop :=
  (∀ (v : Option Value) (H1 : Heap) (locs1 : List Loc) (L1 : Array Slot) (pc1 : Nat), o = .inl v → ev_M D cy base ext SL SX w1 H1 → va_S (ev_A base) s.heap H1 locs1 → ev_rok (ev_rt z) v = true → ev_rat z pc1 v → W p l e R s m args below meth c H1 locs1 K N Q (F0 m pc1 L1 ((v.map (ev_v base ext)).toList))) ∧
  (∀ E, o = .inr E → ∃ Qc XC mc ms, Q = vx_MQ below Qc XC args s mc ms (ev_A base) ∧ K ≤ mc ∧ N ≤ ms ∧ (ev_hh z = [] → ∀ x ∈ c.exceptionTable.toList, False) ∧ ∀ t : State, ev_M D cy base ext SL SX w1 t.heap → va_F (ev_A base) s t → XC (ev_ex E) s t)
/-- from this place the machine comes to that end -/
def ev_Snd (D : va_G) (cy : Nat → ClassId) (base : Nat) (ext : Nat → Nat) (SL : Nat) (SX : Nat → Int32) (l : Launch) (j pc : Nat) (ls : ev_L) (st : List Value) (w : ev_W) (o : Option Value ⊕ Nat) (w1 : ev_W) : Prop :=
  w_c w ≤ w_c w1 ∧ w_z w ≤ w_z w1 ∧ ∀ (z : ev_ME), ev_mel j = some z → ∀ (p : Program) (e : Env) (R : Room) (s : State) (m : MethodId) (args : Array Value) (below : List Frame) (meth : Method) (c : Code), ev_Cx D cy base ext SL SX l j z p R s m args meth c →
    ∀ (H : Heap) (locs : List Loc) (cells slots : Nat) (Q : State → Prop) (L : Array Slot) (K N : Nat), ev_M D cy base ext SL SX w H → va_S (ev_A base) s.heap H locs → ev_EL base ext L (ev_ml z) ls → cells + w_c w1 = K + w_c w → slots + w_z w1 = N + w_z w → K ≤ R.cells → N ≤ R.slots →
      ev_End D cy base ext SL SX l z p e R s m args below meth c o w1 K N Q → W p l e R s m args below meth c H locs cells slots Q (F0 m pc L (st.map (ev_v base ext)))
section SND
variable {D : va_G} {cy : Nat → ClassId} {base : Nat} {ext : Nat → Nat} {SL : Nat} {SX : Nat → Int32} {l : Launch} {j pc pc' : Nat} {ls ls' : ev_L} {st st' : List Value} {w w' : ev_W} {o : Option Value ⊕ Nat} {w1 : ev_W}
/-- a step that moves the stack alone -/
theorem ev_pstep (h : ev_Snd D cy base ext SL SX l j pc' ls st' w o w1) (k : ∀ (z : ev_ME), ev_mel j = some z → ∀ (p : Program) (e : Env) (R : Room) (s : State) (m : MethodId) (args : Array Value) (below : List Frame) (meth : Method) (c : Code), ev_Cx D cy base ext SL SX l j z p R s m args meth c →
    ∀ (H : Heap) (locs : List Loc) (cells slots : Nat) (Q : State → Prop) (L : Array Slot), ev_M D cy base ext SL SX w H → va_S (ev_A base) s.heap H locs → ev_EL base ext L (ev_ml z) ls → cells ≤ R.cells → slots ≤ R.slots → W p l e R s m args below meth c H locs cells slots Q (F0 m pc' L (st'.map (ev_v base ext))) → W p l e R s m args below meth c H locs cells slots Q (F0 m pc L (st.map (ev_v base ext)))) : ev_Snd D cy base ext SL SX l j pc ls st w o w1 := by
  refine ⟨h.1, h.2.1, fun z hz p e R s m args below meth c hC H locs cells slots Q L K N hM hS hE hc hs hK hN hend => ?_⟩
  have h1 := h.1
  have h2 := h.2.1
  exact k z hz p e R s m args below meth c hC H locs cells slots Q L hM hS hE (by omega) (by omega) (h.2.2 z hz p e R s m args below meth c hC H locs cells slots Q L K N hM hS hE hc hs hK hN hend)
/-- a step that stores a local -/
theorem ev_lstep (h : ev_Snd D cy base ext SL SX l j pc' ls' st' w o w1) (k : ∀ (z : ev_ME), ev_mel j = some z → ∀ (p : Program) (e : Env) (R : Room) (s : State) (m : MethodId) (args : Array Value) (below : List Frame) (meth : Method) (c : Code), ev_Cx D cy base ext SL SX l j z p R s m args meth c →
    ∀ (H : Heap) (locs : List Loc) (cells slots : Nat) (Q : State → Prop) (L : Array Slot), ev_EL base ext L (ev_ml z) ls → (∀ L' : Array Slot, ev_EL base ext L' (ev_ml z) ls' → W p l e R s m args below meth c H locs cells slots Q (F0 m pc' L' (st'.map (ev_v base ext)))) → W p l e R s m args below meth c H locs cells slots Q (F0 m pc L (st.map (ev_v base ext)))) : ev_Snd D cy base ext SL SX l j pc ls st w o w1 :=
  ⟨h.1, h.2.1, fun z hz p e R s m args below meth c hC H locs cells slots Q L K N hM hS hE hc hs hK hN hend => k z hz p e R s m args below meth c hC H locs cells slots Q L hE (fun L' hE' => h.2.2 z hz p e R s m args below meth c hC H locs cells slots Q L' K N hM hS hE' hc hs hK hN hend)⟩
/-- a step that writes to the heap, making nothing -/
theorem ev_mstep (hc : w_c w' = w_c w) (hz : w_z w' = w_z w) (h : ev_Snd D cy base ext SL SX l j pc' ls st' w' o w1) (k : ∀ (z : ev_ME), ev_mel j = some z → ∀ (p : Program) (e : Env) (R : Room) (s : State) (m : MethodId) (args : Array Value) (below : List Frame) (meth : Method) (c : Code), ev_Cx D cy base ext SL SX l j z p R s m args meth c →
    ∀ (H : Heap) (locs : List Loc) (cells slots : Nat) (Q : State → Prop) (L : Array Slot), ev_M D cy base ext SL SX w H → va_S (ev_A base) s.heap H locs → (∀ (H1 : Heap) (locs1 : List Loc), ev_M D cy base ext SL SX w' H1 → va_S (ev_A base) s.heap H1 locs1 → W p l e R s m args below meth c H1 locs1 cells slots Q (F0 m pc' L (st'.map (ev_v base ext)))) → W p l e R s m args below meth c H locs cells slots Q (F0 m pc L (st.map (ev_v base ext)))) : ev_Snd D cy base ext SL SX l j pc ls st w o w1 := by
  obtain ⟨h1, h2, h3⟩ := h
  rw [hc] at h1
  rw [hz] at h2
  exact ⟨h1, h2, fun z hz9 p e R s m args below meth c hC H locs cells slots Q L K N hM hS hE hcc hss hK hN hend => k z hz9 p e R s m args below meth c hC H locs cells slots Q L hM hS (fun H1 locs1 hM1 hS1 => h3 z hz9 p e R s m args below meth c hC H1 locs1 cells slots Q L K N hM1 hS1 hE (by rw [hc]; exact hcc) (by rw [hz]; exact hss) hK hN hend)⟩
/-- a step that makes one cell of n slots -/
theorem ev_nstep {n : Nat} (hc : w_c w' = w_c w + 1) (hz : w_z w' = w_z w + n) (h : ev_Snd D cy base ext SL SX l j pc' ls st' w' o w1) (k : ∀ (z : ev_ME), ev_mel j = some z → ∀ (p : Program) (e : Env) (R : Room) (s : State) (m : MethodId) (args : Array Value) (below : List Frame) (meth : Method) (c : Code), ev_Cx D cy base ext SL SX l j z p R s m args meth c →
    ∀ (H : Heap) (locs : List Loc) (cells slots : Nat) (Q : State → Prop) (L : Array Slot), ev_M D cy base ext SL SX w H → va_S (ev_A base) s.heap H locs → cells + 1 ≤ R.cells → slots + n ≤ R.slots → (∀ (H1 : Heap), ev_M D cy base ext SL SX w' H1 → va_S (ev_A base) s.heap H1 locs → W p l e R s m args below meth c H1 locs (cells + 1) (slots + n) Q (F0 m pc' L (st'.map (ev_v base ext)))) → W p l e R s m args below meth c H locs cells slots Q (F0 m pc L (st.map (ev_v base ext)))) : ev_Snd D cy base ext SL SX l j pc ls st w o w1 := by
  obtain ⟨h1, h2, h3⟩ := h
  rw [hc] at h1
  rw [hz] at h2
  refine ⟨by omega, by omega, fun z hz9 p e R s m args below meth c hC H locs cells slots Q L K N hM hS hE hcc hss hK hN hend => k z hz9 p e R s m args below meth c hC H locs cells slots Q L hM hS (by omega) (by omega) (fun H1 hM1 hS1 => h3 z hz9 p e R s m args below meth c hC H1 locs (cells + 1) (slots + n) Q L K N hM1 hS1 hE (by rw [hc]; omega) (by rw [hz]; omega) hK hN hend)⟩
/-- a return -/
theorem ev_rstep {v : Option Value} (hv : (v.map (ev_v base ext)).toList = st.map (ev_v base ext)) (hr : ∀ z, ev_mel j = some z → ev_rok (ev_rt z) v = true ∧ ev_rat z pc v) : ev_Snd D cy base ext SL SX l j pc ls st w (.inl v) w := by
  refine ⟨Nat.le_refl _, Nat.le_refl _, fun z hz p e R s m args below meth c hC H locs cells slots Q L K N hM hS hE hc hs hK hN hend => ?_⟩
  have e1 : cells = K := by omega
  have e2 : slots = N := by omega
  subst e1; subst e2
  rw [← hv]
  exact hend.1 v H locs L pc rfl hM hS (hr z hz).1 (hr z hz).2
end SND
