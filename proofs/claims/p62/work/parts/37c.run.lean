section CALL
variable {D : va_G} {cy : Nat → ClassId} {base : Nat} {ext : Nat → Nat} {SL : Nat} {SX : Nat → Int32} {l : Launch} {j pc : Nat} {ls : ev_L} {r st : List Value} {w : ev_W} {o : Option Value ⊕ Nat} {w1 : ev_W}
/-- what a call's link gives -/
theorem ev_tg_of {o9 ix j2 : Nat} {e2 : ev_ME} (h : ev_look2 o9 ix ev_tgt = some j2) (h2 : ev_me j2 = some e2) : Cond.methodLink (ev_own.getD o9 "") ix (ev_y e2) ∈ ev_all := by
  obtain ⟨l9, h3, h4⟩ := ev_look2_mem h
  have h5 : ev_tgw1 o9 (ix, j2) ∈ ev_tgw (o9, l9) := List.mem_map.mpr ⟨_, h4, rfl⟩
  have h6 := ev_all_in (ev_tgw_in _ h3) h5
  unfold ev_tgw1 at h6
  rw [h2] at h6
  exact h6
theorem ev_me_words {j2 : Nat} {e2 : ev_ME} (h2 : ev_me j2 = some e2) : ev_cw e2 ∈ ev_all ∧ Cond.initialized (ev_y e2).cls ∈ ev_all ∧ (ev_kd e2 = 0 → Cond.static (ev_y e2) ∈ ev_all) ∧ (ev_kd e2 ≠ 0 → Cond.instanceMethod (ev_y e2) ∈ ev_all) ∧ (ev_kd e2 = 1 → Cond.selects (ev_y e2).cls (ev_y e2) (ev_y e2) ∈ ev_all) := by
  have h := (ev_me_ok h2).1
  unfold ev_mw at h
  refine ⟨h _ List.mem_cons_self, h _ (List.mem_cons_of_mem _ List.mem_cons_self), fun hk => ?_, fun hk => ?_, fun hk => ?_⟩
  · rw [hk] at h
    exact h _ (List.mem_cons_of_mem _ (List.mem_cons_of_mem _ List.mem_cons_self))
  · refine h _ (List.mem_cons_of_mem _ (List.mem_cons_of_mem _ ?_))
    split
    · rename_i h0; exact absurd h0 hk
    · exact List.mem_cons_self
    · exact List.mem_cons_self
  · rw [hk] at h
    exact h _ (List.mem_cons_of_mem _ (List.mem_cons_of_mem _ (List.mem_cons_of_mem _ List.mem_cons_self)))
theorem ev_ws_ok {e2 : ev_ME} {j2 : Nat} (h2 : ev_me j2 = some e2) {args : Array Value} {s : State} (hts : ∀ w ∈ ev_all, w.before args s = true) : ∀ w ∈ ev_wz e2, ∀ (a' : Array Value) (U : State), s.WarmedH U.vm → w.before a' U = true :=
  pay_in hts (fun w hw => by
    rcases List.mem_cons.mp hw with rfl | hw
    · exact ev_good (ws := [ev_cw e2]) (fun w hw => by rw [List.mem_singleton.mp hw]; exact (ev_me_words h2).1) _ List.mem_cons_self
    · exact ⟨hw, ev_all_good hw⟩)
theorem ev_rmk_of {z e2 : ev_ME} {R : Room} (h : ev_rmk z e2 = true) (h1 : ev_fr z ≤ R.frames) (h2 : ev_lo z ≤ R.locals) : ev_fr e2 + 1 ≤ R.frames ∧ 8 + (ev_ml e2 + 11) + ev_lo e2 ≤ R.locals := by
  unfold ev_rmk at h
  simp only [Bool.and_eq_true, decide_eq_true_eq] at h
  exact ⟨by omega, by omega⟩
theorem ev_na_of {e2 : ev_ME} (h : ev_meok e2) : ∀ sig, parseMethodDescriptor (ev_y e2).desc = some sig → ev_na e2 = sig.parameters.length := by
  intro sig hs
  have h2 := h.2.2.2.2.1
  rw [hs] at h2
  exact (Option.some.inj h2).symm
theorem ev_monr {L : Array Slot} {m : MethodId} {rest : List Value} (h : ev_cat rest ≤ 8) : 2 * (F0 m pc L st).monitorRoom + ((rest.map (ev_v base ext)).map fun v => v.category).sum ≤ 8 := by
  refine lv_room ?_
  rw [ev_v_cats]
  exact h
theorem ev_runV {z0 e2 : ev_ME} {j2 ix a : Nat} {as rest : List Value} {o2 : Option Value ⊕ Nat} {w2 : ev_W} (h1 : ev_look2 (ev_own1 z0) ix ev_tgt = some j2) (h2 : ev_me j2 = some e2) (hkd : ev_kd e2 = 1) (hlen : as.length = ev_na e2) (ha : a < w_n w) (hk : w_K w a = ev_own1 e2) (hcat : ev_cat rest ≤ 8) (hrm : ev_rmk z0 e2 = true) (hd : decode (ev_by z0) pc = .ok (.invokevirtual ix, 3)) (hcon : ev_Con D cy base ext SL SX l e2 (.ref a :: as) w o2 w2) :
    ∀ (p : Program) (e : Env) (R : Room) (s : State) (m : MethodId) (args : Array Value) (below : List Frame) (meth : Method) (c : Code), ev_Cx D cy base ext SL SX l j z0 p R s m args meth c → ∀ (H : Heap) (locs : List Loc) (cells slots : Nat) (L : Array Slot), ev_M D cy base ext SL SX w H → va_S (ev_A base) s.heap H locs → ev_EL base ext L (ev_ml z0) ls → cells + (w_c w2 - w_c w) ≤ R.cells → slots + (w_z w2 - w_z w) ≤ R.slots →
      ∃ arr, vx_Run p l e R s m args below meth c H locs cells slots (w_c w2 - w_c w) (w_z w2 - w_z w) (F0 m pc L ((as.reverse ++ .ref a :: rest).map (ev_v base ext))) (rest.map (ev_v base ext)) (ev_Qc D cy base ext SL SX e2 o2 w2 arr) (ev_XC D cy base ext SL SX o2 w2) (ev_A base) := by
  intro p e R s m args below meth c hC H locs cells slots L hM hS hE hcR hsR
  have hok := ev_me_ok h2
  obtain ⟨hh, r9, hr9, hr9c⟩ := hok.2.2.2.2.2.2.1 hkd
  obtain ⟨w1', w2', w3', w4', w5'⟩ := ev_me_words h2
  have hts := hC.2.2.2.2.2.1
  have hlink := ev_tg_of h1 h2
  rw [hC.2.2.2.2.2.2.2.2.2.2.2.1] at hlink
  have hci : ev_own1 e2 < 9 := (List.getElem?_eq_some_iff.mp hr9).1
  have hM2 := hM.2.1
  have hcw : ev_cw e2 = Cond.code (ev_y e2) (ev_by e2) (ev_ml e2) (ev_rt e2) := by
    unfold ev_cw
    rw [hh]
  refine ⟨(Value.ref (base + a) :: as.map (ev_v base ext)).toArray, ?_⟩
  refine vx_runV (n := ev_na e2) (index := ix) (C := (ev_y e2).cls) (bytes := ev_by e2) (maxL := ev_ml e2) (ret := ev_rt e2) (As := as.map (ev_v base ext)) (b := base + a) ⟨hC.1, hC.2.1, hC.2.2.2.1, hC.2.2.2.2.1, hts⟩ hcon ⟨⟨rfl, rfl, (ev_rmk_of hrm hC.2.2.2.2.2.2.2.2.2.2.2.2.2.1 hC.2.2.2.2.2.2.2.2.2.2.2.2.2.2.1).1, (ev_rmk_of hrm hC.2.2.2.2.2.2.2.2.2.2.2.2.2.1 hC.2.2.2.2.2.2.2.2.2.2.2.2.2.2.1).2, ev_ws_ok h2 hts, by unfold ev_wz; rw [← hcw]; exact List.mem_cons_self, by rw [← hcw]; exact hts _ w1', hts _ w2', hok.2.2.2.1, ev_na_of hok, hts _ hlink⟩, hts _ (w4' (by rw [hkd]; decide)), hts _ (w5' hkd)⟩ ⟨ev_Pc_blind, ?_, fun U hU hW => ?_⟩ rfl (by rw [List.length_map]; exact hlen) hE.2.1 ?_ (ev_monr hcat) hd ⟨hcR, hsR⟩
  · have h9 := va_recv hC.2.2.2.2.2.2.2.2.1 hM.1 hr9 (show (ev_ws cy base ext w)[a]? = some (base + a, .inr (ev_own1 e2, ev_fs base ext w a (ev_own1 e2))) by rw [ev_ws_at ha, ev_ents hk hci])
    rw [hr9c] at h9
    exact h9
  · have h9 := ev_Pc_of (as := .ref a :: as) hC hM hS U hU hW
    rw [List.map_cons, ev_v_ref ⟨H, hM⟩ ha] at h9
    exact h9
  · show (as.reverse ++ .ref a :: rest).map (ev_v base ext) = _
    rw [List.map_append, List.map_cons, ev_v_ref ⟨H, hM⟩ ha, List.map_reverse]
theorem ev_runS {z0 e2 : ev_ME} {j2 ix : Nat} {as rest : List Value} {o2 : Option Value ⊕ Nat} {w2 : ev_W} (h1 : ev_look2 (ev_own1 z0) ix ev_tgt = some j2) (h2 : ev_me j2 = some e2) (hkd : ev_kd e2 = 0) (hlen : as.length = ev_na e2) (hcat : ev_cat rest ≤ 8) (hrm : ev_rmk z0 e2 = true) (hd : decode (ev_by z0) pc = .ok (.invokestatic ix, 3)) (hcon : ev_Con D cy base ext SL SX l e2 as w o2 w2) :
    ∀ (p : Program) (e : Env) (R : Room) (s : State) (m : MethodId) (args : Array Value) (below : List Frame) (meth : Method) (c : Code), ev_Cx D cy base ext SL SX l j z0 p R s m args meth c → ∀ (H : Heap) (locs : List Loc) (cells slots : Nat) (L : Array Slot), ev_M D cy base ext SL SX w H → va_S (ev_A base) s.heap H locs → ev_EL base ext L (ev_ml z0) ls → cells + (w_c w2 - w_c w) ≤ R.cells → slots + (w_z w2 - w_z w) ≤ R.slots →
      ∃ arr, vx_Run p l e R s m args below meth c H locs cells slots (w_c w2 - w_c w) (w_z w2 - w_z w) (F0 m pc L ((as.reverse ++ rest).map (ev_v base ext))) (rest.map (ev_v base ext)) (ev_Qc D cy base ext SL SX e2 o2 w2 arr) (ev_XC D cy base ext SL SX o2 w2) (ev_A base) := by
  intro p e R s m args below meth c hC H locs cells slots L hM hS hE hcR hsR
  have hok := ev_me_ok h2
  obtain ⟨w1', w2', w3', w4', w5'⟩ := ev_me_words h2
  have hts := hC.2.2.2.2.2.1
  have hlink := ev_tg_of h1 h2
  rw [hC.2.2.2.2.2.2.2.2.2.2.2.1] at hlink
  refine ⟨(as.map (ev_v base ext)).toArray, ?_⟩
  have hstk : (F0 m pc L ((as.reverse ++ rest).map (ev_v base ext))).stack = (as.map (ev_v base ext)).reverse ++ rest.map (ev_v base ext) := by
    show (as.reverse ++ rest).map (ev_v base ext) = _
    rw [List.map_append, List.map_reverse]
  cases hh : ev_hh e2 with
  | nil =>
    have hcw : ev_cw e2 = Cond.code (ev_y e2) (ev_by e2) (ev_ml e2) (ev_rt e2) := by
      unfold ev_cw
      rw [hh]
    exact vx_runS (n := ev_na e2) (index := ix) (bytes := ev_by e2) (maxL := ev_ml e2) (ret := ev_rt e2) (As := as.map (ev_v base ext)) ⟨hC.1, hC.2.1, hC.2.2.2.1, hC.2.2.2.2.1, hts⟩ hcon ⟨⟨rfl, rfl, (ev_rmk_of hrm hC.2.2.2.2.2.2.2.2.2.2.2.2.2.1 hC.2.2.2.2.2.2.2.2.2.2.2.2.2.2.1).1, (ev_rmk_of hrm hC.2.2.2.2.2.2.2.2.2.2.2.2.2.1 hC.2.2.2.2.2.2.2.2.2.2.2.2.2.2.1).2, ev_ws_ok h2 hts, by unfold ev_wz; rw [← hcw]; exact List.mem_cons_self, by rw [← hcw]; exact hts _ w1', hts _ w2', hok.2.2.2.1, ev_na_of hok, hts _ hlink⟩, hts _ (w3' hkd)⟩ ⟨ev_Pc_blind, ev_Pc_of hC hM hS⟩ rfl (by rw [List.length_map]; exact hlen) hE.2.1 hstk (ev_monr hcat) hd ⟨hcR, hsR⟩
  | cons a b =>
    have hcw : ev_cw e2 = Cond.codeWith (ev_y e2) (ev_by e2) (ev_ml e2) (ev_rt e2) (a :: b) := by
      unfold ev_cw
      rw [hh]
    exact vx_runSX (hh := a :: b) (n := ev_na e2) (index := ix) (bytes := ev_by e2) (maxL := ev_ml e2) (ret := ev_rt e2) (As := as.map (ev_v base ext)) ⟨hC.1, hC.2.1, hC.2.2.2.1, hC.2.2.2.2.1, hts⟩ hcon ⟨⟨rfl, rfl, (ev_rmk_of hrm hC.2.2.2.2.2.2.2.2.2.2.2.2.2.1 hC.2.2.2.2.2.2.2.2.2.2.2.2.2.2.1).1, (ev_rmk_of hrm hC.2.2.2.2.2.2.2.2.2.2.2.2.2.1 hC.2.2.2.2.2.2.2.2.2.2.2.2.2.2.1).2, ev_ws_ok h2 hts, by unfold ev_wz; rw [← hcw]; exact List.mem_cons_self⟩, by rw [← hcw]; exact hts _ w1', hts _ w2', hok.2.2.2.1, ev_na_of hok, hts _ hlink, hts _ (w3' hkd)⟩ ⟨ev_Pc_blind, ev_Pc_of hC hM hS⟩ rfl (by rw [List.length_map]; exact hlen) hE.2.1 hstk (ev_monr hcat) hd ⟨hcR, hsR⟩
theorem ev_runI {z0 e2 : ev_ME} {j2 ix a : Nat} {as rest : List Value} {o2 : Option Value ⊕ Nat} {w2 : ev_W} (h1 : (ev_look2 (ev_own1 z0) ix ev_tgt = some j2 ∧ ev_kd e2 = 2) ∨ (ev_own1 z0 = ev_nst.1 ∧ ix = ev_nst.2.1 ∧ j2 = ev_nst.2.2)) (h2 : ev_me j2 = some e2) (hlen : as.length = ev_na e2) (ha : a < w_n w) (hcat : ev_cat rest ≤ 8) (hrm : ev_rmk z0 e2 = true) (hd : decode (ev_by z0) pc = .ok (.invokespecial ix, 3)) (hcon : ev_Con D cy base ext SL SX l e2 (.ref a :: as) w o2 w2) :
    ∀ (p : Program) (e : Env) (R : Room) (s : State) (m : MethodId) (args : Array Value) (below : List Frame) (meth : Method) (c : Code), ev_Cx D cy base ext SL SX l j z0 p R s m args meth c → ∀ (H : Heap) (locs : List Loc) (cells slots : Nat) (L : Array Slot), ev_M D cy base ext SL SX w H → va_S (ev_A base) s.heap H locs → ev_EL base ext L (ev_ml z0) ls → cells + (w_c w2 - w_c w) ≤ R.cells → slots + (w_z w2 - w_z w) ≤ R.slots →
      ∃ arr, vx_Run p l e R s m args below meth c H locs cells slots (w_c w2 - w_c w) (w_z w2 - w_z w) (F0 m pc L ((as.reverse ++ .ref a :: rest).map (ev_v base ext))) (rest.map (ev_v base ext)) (ev_Qc D cy base ext SL SX e2 o2 w2 arr) (ev_XC D cy base ext SL SX o2 w2) (ev_A base) := by
  intro p e R s m args below meth c hC H locs cells slots L hM hS hE hcR hsR
  have hok := ev_me_ok h2
  have hkd : ev_kd e2 = 2 ∨ ev_kd e2 = 3 := by
    rcases h1 with h1 | ⟨-, -, rfl⟩
    · exact Or.inl h1.2
    · refine Or.inr ?_
      have h9 : (ev_me ev_nst.2.2).map ev_kd = some 3 := by decide +kernel
      rw [h2] at h9
      exact Option.some.inj h9
  obtain ⟨hnm, hh, hrt⟩ := hok.2.2.2.2.2.1 hkd
  obtain ⟨w1', w2', w3', w4', w5'⟩ := ev_me_words h2
  have hts := hC.2.2.2.2.2.1
  have hinst := hts _ (w4' (by rcases hkd with q | q <;> rw [q] <;> decide))
  have hcw : ev_cw e2 = Cond.code (ev_y e2) (ev_by e2) (ev_ml e2) none := by
    unfold ev_cw
    rw [hh, hrt]
  have hstk : (F0 m pc L ((as.reverse ++ .ref a :: rest).map (ev_v base ext))).stack = (as.map (ev_v base ext)).reverse ++ .ref (base + a) :: rest.map (ev_v base ext) := by
    show (as.reverse ++ .ref a :: rest).map (ev_v base ext) = _
    rw [List.map_append, List.map_cons, ev_v_ref ⟨H, hM⟩ ha, List.map_reverse]
  have hpre : PreS s H (ev_Pc D cy base ext SL SX (.ref a :: as) w) (.ref (base + a) :: as.map (ev_v base ext)) := by
    refine ⟨ev_Pc_blind, fun U hU hW => ?_⟩
    have h9 := ev_Pc_of (as := .ref a :: as) hC hM hS U hU hW
    rw [List.map_cons, ev_v_ref ⟨H, hM⟩ ha] at h9
    exact h9
  refine ⟨(Value.ref (base + a) :: as.map (ev_v base ext)).toArray, ?_⟩
  rcases h1 with ⟨h1, -⟩ | ⟨n1, n2, n3⟩
  · have hlink := ev_tg_of h1 h2
    rw [hC.2.2.2.2.2.2.2.2.2.2.2.1] at hlink
    exact vx_runI (n := ev_na e2) (index := ix) (bytes := ev_by e2) (maxL := ev_ml e2) (As := as.map (ev_v base ext)) (b := base + a) ⟨hC.1, hC.2.1, hC.2.2.2.1, hC.2.2.2.2.1, hts⟩ hcon ⟨⟨rfl, rfl, (ev_rmk_of hrm hC.2.2.2.2.2.2.2.2.2.2.2.2.2.1 hC.2.2.2.2.2.2.2.2.2.2.2.2.2.2.1).1, (ev_rmk_of hrm hC.2.2.2.2.2.2.2.2.2.2.2.2.2.1 hC.2.2.2.2.2.2.2.2.2.2.2.2.2.2.1).2, ev_ws_ok h2 hts, by unfold ev_wz; rw [← hcw]; exact List.mem_cons_self, by rw [← hcw]; exact hts _ w1', hts _ w2', hok.2.2.2.1, ev_na_of hok, hts _ hlink⟩, hnm, hinst⟩ hpre rfl (by rw [List.length_map]; exact hlen) hE.2.1 hstk (ev_monr hcat) hd ⟨hcR, hsR⟩
  · have hl9 := (hC.2.2.2.2.2.2.2.2.2.1).2.2.2.2.1
    have e9 : ev_nsw = Cond.methodLinkNest (ev_y z0).cls ix (ev_y e2) "FlagLaundry" := by
      have h8 : (ev_me ev_nst.2.2).map ev_y = some ⟨"FlagLaundry$Flag", "<init>", "()V"⟩ := by decide +kernel
      rw [← n3, h2] at h8
      have h7 : ev_y e2 = ⟨"FlagLaundry$Flag", "<init>", "()V"⟩ := Option.some.inj h8
      rw [h7, n2, ← hC.2.2.2.2.2.2.2.2.2.2.2.1, n1]
      rfl
    rw [e9] at hl9
    exact vx_runIN (n := ev_na e2) (index := ix) (host := "FlagLaundry") (bytes := ev_by e2) (maxL := ev_ml e2) (As := as.map (ev_v base ext)) (b := base + a) ⟨hC.1, hC.2.1, hC.2.2.2.1, hC.2.2.2.2.1, hts⟩ hcon ⟨⟨⟨rfl, rfl, (ev_rmk_of hrm hC.2.2.2.2.2.2.2.2.2.2.2.2.2.1 hC.2.2.2.2.2.2.2.2.2.2.2.2.2.2.1).1, (ev_rmk_of hrm hC.2.2.2.2.2.2.2.2.2.2.2.2.2.1 hC.2.2.2.2.2.2.2.2.2.2.2.2.2.2.1).2, ev_ws_ok h2 hts, by unfold ev_wz; rw [← hcw]; exact List.mem_cons_self⟩, by rw [← hcw]; exact hts _ w1', hts _ w2', hok.2.2.2.1, ev_na_of hok, va_Nw.use rfl hl9⟩, hnm, hinst⟩ hpre rfl (by rw [List.length_map]; exact hlen) hE.2.1 hstk (ev_monr hcat) hd ⟨hcR, hsR⟩
end CALL
