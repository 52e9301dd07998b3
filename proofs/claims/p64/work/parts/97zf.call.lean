/-! calls of methods inherited, private ones over a subclass's object, super's, nest mates' constructors, by wip/gen/p64/x64c.py -/
theorem xy_of {j2 : Nat} {e2 : ev_ME} {y : MethodName} (h : (ev_me j2).map ev_y = some y) (h2 : ev_me j2 = some e2) : ev_y e2 = y := by
  rw [h2] at h
  exact Option.some.inj h
theorem xkd_of {j2 k : Nat} {e2 : ev_ME} (h : (ev_me j2).map ev_kd = some k) (h2 : ev_me j2 = some e2) : ev_kd e2 = k := by
  rw [h2] at h
  exact Option.some.inj h
def yA (nm ds : String) : MethodName := ⟨"java/lang/AbstractStringBuilder", nm, ds⟩
set_option maxRecDepth 100000 in
theorem xs_isL : Cond.selects "java/lang/StringBuilder" (yA "isLatin1" "()Z") (yA "isLatin1" "()Z") ∈ ev_all := List.mem_filter.mpr ⟨List.mem_of_getElem? (i := 1377) (by decide +kernel), rfl⟩
set_option maxRecDepth 100000 in
theorem xs_getV : Cond.selects "java/lang/StringBuilder" (yA "getValue" "()[B") (yA "getValue" "()[B") ∈ ev_all := List.mem_filter.mpr ⟨List.mem_of_getElem? (i := 1540) (by decide +kernel), rfl⟩
set_option maxRecDepth 100000 in
theorem xs_app : Cond.selects "java/lang/StringBuilder" (yA "append" "(Ljava/lang/String;)Ljava/lang/AbstractStringBuilder;") ⟨"java/lang/StringBuilder", "append", "(Ljava/lang/String;)Ljava/lang/AbstractStringBuilder;"⟩ ∈ ev_all := List.mem_filter.mpr ⟨List.mem_of_getElem? (i := 1341) (by decide +kernel), rfl⟩
set_option maxRecDepth 100000 in
theorem xs_len : Cond.selects "java/lang/StringBuilder" (yA "length" "()I") ⟨"java/lang/StringBuilder", "length", "()I"⟩ ∈ ev_all := List.mem_filter.mpr ⟨List.mem_of_getElem? (i := 1545) (by decide +kernel), rfl⟩
set_option maxRecDepth 100000 in
theorem xs_sup : Cond.superclass "java/lang/StringBuilder" "java/lang/AbstractStringBuilder" ∈ ev_all := List.mem_filter.mpr ⟨List.mem_of_getElem? (i := 1349) (by decide +kernel), rfl⟩
set_option maxRecDepth 100000 in
theorem xs_sm1 : Cond.sameMethod "java/lang/AbstractStringBuilder" "java/lang/AbstractStringBuilder" "append" "(Ljava/lang/String;)Ljava/lang/AbstractStringBuilder;" ∈ ev_all ∧ Cond.sameMethod "java/lang/AbstractStringBuilder" "java/lang/AbstractStringBuilder" "append" "(I)Ljava/lang/AbstractStringBuilder;" ∈ ev_all ∧ Cond.sameMethod "java/lang/AbstractStringBuilder" "java/lang/AbstractStringBuilder" "append" "(C)Ljava/lang/AbstractStringBuilder;" ∈ ev_all ∧ Cond.sameMethod "java/lang/AbstractStringBuilder" "java/lang/AbstractStringBuilder" "length" "()I" ∈ ev_all := by
  refine ⟨?_, ?_, ?_, ?_⟩ <;> refine List.mem_filter.mpr ⟨?_, rfl⟩
  · exact List.mem_of_getElem? (i := 1340) (by decide +kernel)
  · exact List.mem_of_getElem? (i := 1754) (by decide +kernel)
  · exact List.mem_of_getElem? (i := 1755) (by decide +kernel)
  · exact List.mem_of_getElem? (i := 1544) (by decide +kernel)
/-- a method: its name, kind, no handlers -/
def xyb (j2 : Nat) (y : MethodName) (kd : Nat) : Bool := match ev_me j2 with
  | some e => decide (ev_y e = y) && (Nat.beq (ev_kd e) kd && (ev_hh e).isEmpty)
  | none => false
theorem xyb_of {j2 kd : Nat} {y : MethodName} {e2 : ev_ME} (h : xyb j2 y kd = true) (h2 : ev_me j2 = some e2) : ev_y e2 = y ∧ ev_kd e2 = kd ∧ ev_hh e2 = [] := by
  unfold xyb at h
  rw [h2] at h
  simp only [Bool.and_eq_true] at h
  exact ⟨of_decide_eq_true h.1, Nat.eq_of_beq_eq_true h.2.1, List.isEmpty_iff.mp h.2.2⟩
/-- what a StringBuilder's object selects -/
def xSel (j2 : Nat) : Prop := ∀ e2, ev_me j2 = some e2 → ev_kd e2 ≠ 0 ∧ ev_hh e2 = [] ∧ ∀ (args : Array Value) (s : State), (∀ w ∈ ev_all, w.before args s = true) → zt_II s → (Cond.selects "java/lang/StringBuilder" (ev_y e2) (ev_y e2)).before args s = true
theorem xs_priv {j2 : Nat} {nm ds : String} (hy : xyb j2 (yA nm ds) 4 = true) (hp : yA nm ds ∈ zt_pr) : xSel j2 := by
  intro e2 h2
  obtain ⟨y1, y2, y3⟩ := xyb_of hy h2
  refine ⟨by rw [y2]; decide, y3, fun args s hts hII => ?_⟩
  have hi := hts _ ((ev_me_words h2).2.2.2.1 (by rw [y2]; decide))
  rw [y1] at hi ⊢
  obtain ⟨c, r0, m0, h1, h3, h4, h5, mk, h6, h7⟩ := Cond.selects_spec (hts _ xs_isL)
  obtain ⟨mk9, methM, hnamed, hmethM, -, -⟩ := Cond.instanceMethod_spec hi
  have hfound : s.methodFound? (yA nm ds).cls (yA nm ds).name (yA nm ds).desc = some mk9 := State.methodFound?_of_named hnamed ⟨by simp [yA], by simp [yA]⟩
  have f1 := findClass_of_methodNamed hnamed
  have f2 := findClass_of_methodNamed h4
  have hcls : mk9.cls = m0.cls := Option.some.inj (f1.symm.trans f2)
  have hsel : selectMethod {} s.vm c mk9 = .method mk9 := selectMethod_private hmethM (Cond.privateMethod_at (va_Nw.use (A := args) rfl (hII.2.2.2.2.1 _ hp)) mk9 methM hnamed hmethM)
  simp only [Cond.before, Cond.holds, Cond.value, h1, hfound, hnamed, hsel, hcls, h6]
  simp
  exact h7
theorem xs_word {j2 : Nat} {y : MethodName} (hy : xyb j2 y 4 = true) (hp : Cond.selects "java/lang/StringBuilder" y y ∈ ev_all) : xSel j2 := by
  intro e2 h2
  obtain ⟨y1, y2, y3⟩ := xyb_of hy h2
  exact ⟨by rw [y2]; decide, y3, fun args s hts _ => by rw [y1]; exact hts _ hp⟩
set_option maxRecDepth 100000 in
theorem xs_183 : xSel 183 := xs_priv (nm := "ensureCapacityInternal") (ds := "(I)V") (by decide +kernel) (by unfold zt_pr yA; simp)
set_option maxRecDepth 100000 in
theorem xs_184 : xSel 184 := xs_priv (nm := "newCapacity") (ds := "(I)I") (by decide +kernel) (by unfold zt_pr yA; simp)
set_option maxRecDepth 100000 in
theorem xs_185 : xSel 185 := xs_priv (nm := "putStringAt") (ds := "(ILjava/lang/String;)V") (by decide +kernel) (by unfold zt_pr yA; simp)
set_option maxRecDepth 100000 in
theorem xs_186 : xSel 186 := xs_priv (nm := "inflateIfNeededFor") (ds := "(Ljava/lang/String;)V") (by decide +kernel) (by unfold zt_pr yA; simp)
theorem xs_187 : xSel 187 := xs_word (by decide +kernel) xs_isL
theorem xs_188 : xSel 188 := xs_word (by decide +kernel) xs_getV
section XCALL
variable {D : va_G} {cy : Nat → ClassId} {base : Nat} {ext : Nat → Nat} {SL : Nat} {SX : Nat → Int32} {l : Launch} {j pc : Nat} {ls : ev_L} {st : List Value} {w : ev_W} {o : Option Value ⊕ Nat} {w1 : ev_W}
theorem xr_C {z0 e2 : ev_ME} {j2 ix a : Nat} {as rest : List Value} {o2 : Option Value ⊕ Nat} {w2 : ev_W} (h2 : ev_me j2 = some e2) (hlen : as.length = ev_na e2) (ha : a < w_n w) (hcat : ev_cat rest ≤ 8) (hrm : ev_rmk z0 e2 = true) (hcon : ev_Con D cy base ext SL SX l e2 (.ref a :: as) w o2 w2) {κ : Nat} {r9 : vw_C} (hkd : ev_kd e2 ≠ 0) (hh : ev_hh e2 = []) (hk : w_K w a = κ) (hκ9 : ev_isO κ) (hr9 : vwCl[κ]? = some r9) (hlink : Cond.methodLink (ev_own.getD (ev_own1 z0) "") ix (ev_y e2) ∈ ev_all) (hsel : ∀ (args : Array Value) (s : State), (∀ w ∈ ev_all, w.before args s = true) → zt_II s → (Cond.selects r9.1 (ev_y e2) (ev_y e2)).before args s = true) (hd : decode (ev_by z0) pc = .ok (.invokevirtual ix, 3)) :
    ∀ (p : Program) (e : Env) (R : Room) (s : State) (m : MethodId) (args : Array Value) (below : List Frame) (meth : Method) (c : Code), ev_Cx D cy base ext SL SX l j z0 p R s m args meth c → ∀ (H : Heap) (locs : List Loc) (cells slots : Nat) (L : Array Slot), ev_M D cy base ext SL SX w H → va_S (ev_A base) s.heap H locs → ev_EL base ext L (ev_ml z0) ls → cells + (w_c w2 - w_c w) ≤ R.cells → slots + (w_z w2 - w_z w) ≤ R.slots →
      ∃ arr, vx_Run p l e R s m args below meth c H locs cells slots (w_c w2 - w_c w) (w_z w2 - w_z w) (F0 m pc L ((as.reverse ++ .ref a :: rest).map (ev_v base ext))) (rest.map (ev_v base ext)) (ev_Qc D cy base ext SL SX e2 o2 w2 arr) (ev_XC D cy base ext SL SX o2 w2) (ev_A base) := by
  intro p e R s m args below meth c hC H locs cells slots L hM hS hE hcR hsR
  have hok := ev_me_ok h2
  obtain ⟨w1', w2', w3', w4', w5'⟩ := ev_me_words h2
  have hts := hC.2.2.2.2.2.1
  have hcw : ev_cw e2 = Cond.code (ev_y e2) (ev_by e2) (ev_ml e2) (ev_rt e2) := by
    unfold ev_cw
    rw [hh]
  have hstk : (F0 m pc L ((as.reverse ++ .ref a :: rest).map (ev_v base ext))).stack = (as.map (ev_v base ext)).reverse ++ .ref (base + a) :: rest.map (ev_v base ext) := by
    show (as.reverse ++ .ref a :: rest).map (ev_v base ext) = _
    rw [List.map_append, List.map_cons, ev_v_ref ⟨H, hM⟩ ha, List.map_reverse]
  have hinst := hts _ (w4' hkd)
  have hroom := ev_rmk_of hrm hC.2.2.2.2.2.2.2.2.2.2.2.2.2.1 hC.2.2.2.2.2.2.2.2.2.2.2.2.2.2.1
  have hmemc : Cond.code (ev_y e2) (ev_by e2) (ev_ml e2) (ev_rt e2) ∈ ev_wz e2 := by unfold ev_wz; rw [← hcw]; exact List.mem_cons_self
  have hcode : (Cond.code (ev_y e2) (ev_by e2) (ev_ml e2) (ev_rt e2)).before args s = true := by rw [← hcw]; exact hts _ w1'
  have hfix : CallFix p m c (ev_by z0) (ev_ml z0) s args ev_all (ev_y z0).cls := ⟨hC.1, hC.2.1, hC.2.2.2.1, hC.2.2.2.2.1, hts⟩
  have h9 : ∃ cell : Cell, H[base + a]? = some cell ∧ cell.vm.isStatics = false ∧ s.vm.findClass r9.1 = some cell.cls := va_recv hC.2.2.2.2.2.2.2.2.1 hM.1 hr9 (show (ev_ws cy base ext w)[a]? = some (base + a, .inr (κ, ev_fs base ext w a κ)) by rw [ev_ws_at ha, ev_ents hk hκ9])
  have hpre : PreV s H r9.1 (base + a) (ev_Pc D cy base ext SL SX (.ref a :: as) w) (as.map (ev_v base ext)) := by
    refine ⟨ev_Pc_blind, h9, fun U hU hW => ?_⟩
    have h8 := ev_Pc_of (as := .ref a :: as) hC hM hS U hU hW
    rw [List.map_cons, ev_v_ref ⟨H, hM⟩ ha] at h8
    exact h8
  have hlink' := hts _ hlink
  rw [hC.2.2.2.2.2.2.2.2.2.2.2.1] at hlink'
  refine ⟨(Value.ref (base + a) :: as.map (ev_v base ext)).toArray, ?_⟩
  exact vx_runV (n := ev_na e2) (index := ix) (C := r9.1) (bytes := ev_by e2) (maxL := ev_ml e2) (ret := ev_rt e2) (As := as.map (ev_v base ext)) (b := base + a) hfix hcon ⟨⟨rfl, rfl, hroom.1, hroom.2, ev_ws_ok h2 hts, hmemc, hcode, hts _ w2', hok.2.2.2.1, ev_na_of hok, hlink'⟩, hinst, hsel args s hts hC.2.2.2.2.2.2.2.2.2.1.2.2.2.2.2.2.2.2.2.2.1⟩ hpre rfl (by rw [List.length_map]; exact hlen) hE.2.1 hstk (ev_monr hcat) hd ⟨hcR, hsR⟩
theorem xr_U {z0 e2 : ev_ME} {j2 ix a : Nat} {as rest : List Value} {o2 : Option Value ⊕ Nat} {w2 : ev_W} (h2 : ev_me j2 = some e2) (hlen : as.length = ev_na e2) (ha : a < w_n w) (hcat : ev_cat rest ≤ 8) (hrm : ev_rmk z0 e2 = true) (hcon : ev_Con D cy base ext SL SX l e2 (.ref a :: as) w o2 w2) {κ : Nat} {r9 : vw_C} (hkd : ev_kd e2 ≠ 0) (hh : ev_hh e2 = []) (hk : w_K w a = κ) (hκ9 : ev_isO κ) (hr9 : vwCl[κ]? = some r9) {x : MethodName} {ow : String} (hlink : Cond.methodLink (ev_own.getD (ev_own1 z0) "") ix x ∈ ev_all) (hsame : Cond.sameMethod x.cls ow x.name x.desc ∈ ev_all) (hdc : ∀ (args : Array Value) (s : State), (∀ w ∈ ev_all, w.before args s = true) → va_Decl s ⟨ow, x.name, x.desc⟩) (how : ow ≠ "java/lang/invoke/MethodHandle" ∧ ow ≠ "java/lang/invoke/VarHandle") (hx : ∀ sig, parseMethodDescriptor x.desc = some sig → ev_na e2 = sig.parameters.length) (hsel : Cond.selects r9.1 x (ev_y e2) ∈ ev_all) (hd : decode (ev_by z0) pc = .ok (.invokevirtual ix, 3)) :
    ∀ (p : Program) (e : Env) (R : Room) (s : State) (m : MethodId) (args : Array Value) (below : List Frame) (meth : Method) (c : Code), ev_Cx D cy base ext SL SX l j z0 p R s m args meth c → ∀ (H : Heap) (locs : List Loc) (cells slots : Nat) (L : Array Slot), ev_M D cy base ext SL SX w H → va_S (ev_A base) s.heap H locs → ev_EL base ext L (ev_ml z0) ls → cells + (w_c w2 - w_c w) ≤ R.cells → slots + (w_z w2 - w_z w) ≤ R.slots →
      ∃ arr, vx_Run p l e R s m args below meth c H locs cells slots (w_c w2 - w_c w) (w_z w2 - w_z w) (F0 m pc L ((as.reverse ++ .ref a :: rest).map (ev_v base ext))) (rest.map (ev_v base ext)) (ev_Qc D cy base ext SL SX e2 o2 w2 arr) (ev_XC D cy base ext SL SX o2 w2) (ev_A base) := by
  intro p e R s m args below meth c hC H locs cells slots L hM hS hE hcR hsR
  have hok := ev_me_ok h2
  obtain ⟨w1', w2', w3', w4', w5'⟩ := ev_me_words h2
  have hts := hC.2.2.2.2.2.1
  have hcw : ev_cw e2 = Cond.code (ev_y e2) (ev_by e2) (ev_ml e2) (ev_rt e2) := by
    unfold ev_cw
    rw [hh]
  have hstk : (F0 m pc L ((as.reverse ++ .ref a :: rest).map (ev_v base ext))).stack = (as.map (ev_v base ext)).reverse ++ .ref (base + a) :: rest.map (ev_v base ext) := by
    show (as.reverse ++ .ref a :: rest).map (ev_v base ext) = _
    rw [List.map_append, List.map_cons, ev_v_ref ⟨H, hM⟩ ha, List.map_reverse]
  have hinst := hts _ (w4' hkd)
  have hroom := ev_rmk_of hrm hC.2.2.2.2.2.2.2.2.2.2.2.2.2.1 hC.2.2.2.2.2.2.2.2.2.2.2.2.2.2.1
  have hmemc : Cond.code (ev_y e2) (ev_by e2) (ev_ml e2) (ev_rt e2) ∈ ev_wz e2 := by unfold ev_wz; rw [← hcw]; exact List.mem_cons_self
  have hcode : (Cond.code (ev_y e2) (ev_by e2) (ev_ml e2) (ev_rt e2)).before args s = true := by rw [← hcw]; exact hts _ w1'
  have hfix : CallFix p m c (ev_by z0) (ev_ml z0) s args ev_all (ev_y z0).cls := ⟨hC.1, hC.2.1, hC.2.2.2.1, hC.2.2.2.2.1, hts⟩
  have h9 : ∃ cell : Cell, H[base + a]? = some cell ∧ cell.vm.isStatics = false ∧ s.vm.findClass r9.1 = some cell.cls := va_recv hC.2.2.2.2.2.2.2.2.1 hM.1 hr9 (show (ev_ws cy base ext w)[a]? = some (base + a, .inr (κ, ev_fs base ext w a κ)) by rw [ev_ws_at ha, ev_ents hk hκ9])
  have hpre : PreV s H r9.1 (base + a) (ev_Pc D cy base ext SL SX (.ref a :: as) w) (as.map (ev_v base ext)) := by
    refine ⟨ev_Pc_blind, h9, fun U hU hW => ?_⟩
    have h8 := ev_Pc_of (as := .ref a :: as) hC hM hS U hU hW
    rw [List.map_cons, ev_v_ref ⟨H, hM⟩ ha] at h8
    exact h8
  have hlink' := hts _ hlink
  rw [hC.2.2.2.2.2.2.2.2.2.2.2.1] at hlink'
  refine ⟨(Value.ref (base + a) :: as.map (ev_v base ext)).toArray, ?_⟩
  exact vx_runU (n := ev_na e2) (index := ix) (C := r9.1) (owner := ow) (x := x) (bytes := ev_by e2) (maxL := ev_ml e2) (ret := ev_rt e2) (As := as.map (ev_v base ext)) (b := base + a) hfix hcon ⟨⟨rfl, rfl, hroom.1, hroom.2, ev_ws_ok h2 hts, hmemc⟩, hcode, hts _ w2', how, hx, hlink', hts _ hsame, hdc args s hts, hts _ hsel, hinst⟩ hpre rfl (by rw [List.length_map]; exact hlen) hE.2.1 hstk (ev_monr hcat) hd ⟨hcR, hsR⟩
theorem xr_SU {z0 e2 : ev_ME} {j2 ix a : Nat} {as rest : List Value} {o2 : Option Value ⊕ Nat} {w2 : ev_W} (h2 : ev_me j2 = some e2) (hlen : as.length = ev_na e2) (ha : a < w_n w) (hcat : ev_cat rest ≤ 8) (hrm : ev_rmk z0 e2 = true) (hcon : ev_Con D cy base ext SL SX l e2 (.ref a :: as) w o2 w2) {κ : Nat} {r9 : vw_C} (hkd : ev_kd e2 ≠ 0) (hh : ev_hh e2 = []) (hk : w_K w a = κ) (hκ9 : ev_isO κ) (hr9 : vwCl[κ]? = some r9) (hlink : Cond.methodLink (ev_own.getD (ev_own1 z0) "") ix (ev_y e2) ∈ ev_all) (hown9 : ev_own1 z0 = κ) (hsame : Cond.sameMethod (ev_y e2).cls (ev_y e2).cls (ev_y e2).name (ev_y e2).desc ∈ ev_all) (hsup : Cond.superclass r9.1 (ev_y e2).cls ∈ ev_all) (hnm : (ev_y e2).name ≠ "<init>") (hd : decode (ev_by z0) pc = .ok (.invokespecial ix, 3)) :
    ∀ (p : Program) (e : Env) (R : Room) (s : State) (m : MethodId) (args : Array Value) (below : List Frame) (meth : Method) (c : Code), ev_Cx D cy base ext SL SX l j z0 p R s m args meth c → ∀ (H : Heap) (locs : List Loc) (cells slots : Nat) (L : Array Slot), ev_M D cy base ext SL SX w H → va_S (ev_A base) s.heap H locs → ev_EL base ext L (ev_ml z0) ls → cells + (w_c w2 - w_c w) ≤ R.cells → slots + (w_z w2 - w_z w) ≤ R.slots →
      ∃ arr, vx_Run p l e R s m args below meth c H locs cells slots (w_c w2 - w_c w) (w_z w2 - w_z w) (F0 m pc L ((as.reverse ++ .ref a :: rest).map (ev_v base ext))) (rest.map (ev_v base ext)) (ev_Qc D cy base ext SL SX e2 o2 w2 arr) (ev_XC D cy base ext SL SX o2 w2) (ev_A base) := by
  intro p e R s m args below meth c hC H locs cells slots L hM hS hE hcR hsR
  have hok := ev_me_ok h2
  obtain ⟨w1', w2', w3', w4', w5'⟩ := ev_me_words h2
  have hts := hC.2.2.2.2.2.1
  have hcw : ev_cw e2 = Cond.code (ev_y e2) (ev_by e2) (ev_ml e2) (ev_rt e2) := by
    unfold ev_cw
    rw [hh]
  have hstk : (F0 m pc L ((as.reverse ++ .ref a :: rest).map (ev_v base ext))).stack = (as.map (ev_v base ext)).reverse ++ .ref (base + a) :: rest.map (ev_v base ext) := by
    show (as.reverse ++ .ref a :: rest).map (ev_v base ext) = _
    rw [List.map_append, List.map_cons, ev_v_ref ⟨H, hM⟩ ha, List.map_reverse]
  have hinst := hts _ (w4' hkd)
  have hroom := ev_rmk_of hrm hC.2.2.2.2.2.2.2.2.2.2.2.2.2.1 hC.2.2.2.2.2.2.2.2.2.2.2.2.2.2.1
  have hmemc : Cond.code (ev_y e2) (ev_by e2) (ev_ml e2) (ev_rt e2) ∈ ev_wz e2 := by unfold ev_wz; rw [← hcw]; exact List.mem_cons_self
  have hcode : (Cond.code (ev_y e2) (ev_by e2) (ev_ml e2) (ev_rt e2)).before args s = true := by rw [← hcw]; exact hts _ w1'
  have hfix : CallFix p m c (ev_by z0) (ev_ml z0) s args ev_all (ev_y z0).cls := ⟨hC.1, hC.2.1, hC.2.2.2.1, hC.2.2.2.2.1, hts⟩
  have h9 : ∃ cell : Cell, H[base + a]? = some cell ∧ cell.vm.isStatics = false ∧ s.vm.findClass r9.1 = some cell.cls := va_recv hC.2.2.2.2.2.2.2.2.1 hM.1 hr9 (show (ev_ws cy base ext w)[a]? = some (base + a, .inr (κ, ev_fs base ext w a κ)) by rw [ev_ws_at ha, ev_ents hk hκ9])
  have hpre : PreV s H r9.1 (base + a) (ev_Pc D cy base ext SL SX (.ref a :: as) w) (as.map (ev_v base ext)) := by
    refine ⟨ev_Pc_blind, h9, fun U hU hW => ?_⟩
    have h8 := ev_Pc_of (as := .ref a :: as) hC hM hS U hU hW
    rw [List.map_cons, ev_v_ref ⟨H, hM⟩ ha] at h8
    exact h8
  have hlink' := hts _ hlink
  rw [hC.2.2.2.2.2.2.2.2.2.2.2.1] at hlink'
  refine ⟨(Value.ref (base + a) :: as.map (ev_v base ext)).toArray, ?_⟩
  have ho : r9.1 = (ev_y z0).cls := by rw [← hC.2.2.2.2.2.2.2.2.2.2.2.1, hown9, ev_own_cl hr9]
  have hat := (hC.2.2.2.2.2.2.2.2.1.1 κ r9 hr9).2
  have hsup' := hts _ hsup
  rw [ho] at hsup' hat hpre
  exact vx_runSU (n := ev_na e2) (index := ix) (bytes := ev_by e2) (maxL := ev_ml e2) (ret := ev_rt e2) (As := as.map (ev_v base ext)) (b := base + a) hat hfix hcon ⟨⟨rfl, rfl, hroom.1, hroom.2, ev_ws_ok h2 hts, hmemc⟩, hlink', hts _ hsame, hsup', hinst, hts _ w2', hcode, hnm, ev_na_of hok⟩ hpre rfl (by rw [List.length_map]; exact hlen) hE.2.1 hstk (ev_monr hcat) hd ⟨hcR, hsR⟩
theorem xr_IN {z0 e2 : ev_ME} {j2 ix a : Nat} {as rest : List Value} {o2 : Option Value ⊕ Nat} {w2 : ev_W} (h2 : ev_me j2 = some e2) (hlen : as.length = ev_na e2) (ha : a < w_n w) (hcat : ev_cat rest ≤ 8) (hrm : ev_rmk z0 e2 = true) (hcon : ev_Con D cy base ext SL SX l e2 (.ref a :: as) w o2 w2) (hkd : ev_kd e2 ≠ 0) (hh : ev_hh e2 = []) (hrt : ev_rt e2 = none) (hnm : (ev_y e2).name = "<init>") (hlink : Cond.methodLinkNest (ev_own.getD (ev_own1 z0) "") ix (ev_y e2) "FlagLaundryLaw" ∈ ev_nslw) (hd : decode (ev_by z0) pc = .ok (.invokespecial ix, 3)) :
    ∀ (p : Program) (e : Env) (R : Room) (s : State) (m : MethodId) (args : Array Value) (below : List Frame) (meth : Method) (c : Code), ev_Cx D cy base ext SL SX l j z0 p R s m args meth c → ∀ (H : Heap) (locs : List Loc) (cells slots : Nat) (L : Array Slot), ev_M D cy base ext SL SX w H → va_S (ev_A base) s.heap H locs → ev_EL base ext L (ev_ml z0) ls → cells + (w_c w2 - w_c w) ≤ R.cells → slots + (w_z w2 - w_z w) ≤ R.slots →
      ∃ arr, vx_Run p l e R s m args below meth c H locs cells slots (w_c w2 - w_c w) (w_z w2 - w_z w) (F0 m pc L ((as.reverse ++ .ref a :: rest).map (ev_v base ext))) (rest.map (ev_v base ext)) (ev_Qc D cy base ext SL SX e2 o2 w2 arr) (ev_XC D cy base ext SL SX o2 w2) (ev_A base) := by
  intro p e R s m args below meth c hC H locs cells slots L hM hS hE hcR hsR
  have hok := ev_me_ok h2
  obtain ⟨w1', w2', w3', w4', w5'⟩ := ev_me_words h2
  have hts := hC.2.2.2.2.2.1
  have hcw : ev_cw e2 = Cond.code (ev_y e2) (ev_by e2) (ev_ml e2) (ev_rt e2) := by
    unfold ev_cw
    rw [hh]
  have hstk : (F0 m pc L ((as.reverse ++ .ref a :: rest).map (ev_v base ext))).stack = (as.map (ev_v base ext)).reverse ++ .ref (base + a) :: rest.map (ev_v base ext) := by
    show (as.reverse ++ .ref a :: rest).map (ev_v base ext) = _
    rw [List.map_append, List.map_cons, ev_v_ref ⟨H, hM⟩ ha, List.map_reverse]
  have hinst := hts _ (w4' hkd)
  have hroom := ev_rmk_of hrm hC.2.2.2.2.2.2.2.2.2.2.2.2.2.1 hC.2.2.2.2.2.2.2.2.2.2.2.2.2.2.1
  have hmemc : Cond.code (ev_y e2) (ev_by e2) (ev_ml e2) (ev_rt e2) ∈ ev_wz e2 := by unfold ev_wz; rw [← hcw]; exact List.mem_cons_self
  have hcode : (Cond.code (ev_y e2) (ev_by e2) (ev_ml e2) (ev_rt e2)).before args s = true := by rw [← hcw]; exact hts _ w1'
  have hfix : CallFix p m c (ev_by z0) (ev_ml z0) s args ev_all (ev_y z0).cls := ⟨hC.1, hC.2.1, hC.2.2.2.1, hC.2.2.2.2.1, hts⟩
  have hpre : PreS s H (ev_Pc D cy base ext SL SX (.ref a :: as) w) (.ref (base + a) :: as.map (ev_v base ext)) := by
    refine ⟨ev_Pc_blind, fun U hU hW => ?_⟩
    have h9 := ev_Pc_of (as := .ref a :: as) hC hM hS U hU hW
    rw [List.map_cons, ev_v_ref ⟨H, hM⟩ ha] at h9
    exact h9
  have hl9 := (hC.2.2.2.2.2.2.2.2.2.1).2.2.2.2.2.2.2.2.2.2.2.1 _ hlink
  rw [hC.2.2.2.2.2.2.2.2.2.2.2.1] at hl9
  rw [hrt] at hmemc hcode
  refine ⟨(Value.ref (base + a) :: as.map (ev_v base ext)).toArray, ?_⟩
  exact vx_runIN (n := ev_na e2) (index := ix) (host := "FlagLaundryLaw") (bytes := ev_by e2) (maxL := ev_ml e2) (As := as.map (ev_v base ext)) (b := base + a) hfix hcon ⟨⟨⟨rfl, rfl, hroom.1, hroom.2, ev_ws_ok h2 hts, hmemc⟩, hcode, hts _ w2', hok.2.2.2.1, ev_na_of hok, va_Nw.use rfl hl9⟩, hnm, hinst⟩ hpre rfl (by rw [List.length_map]; exact hlen) hE.2.1 hstk (ev_monr hcat) hd ⟨hcR, hsR⟩
end XCALL
