/-! the length of rows of rows; calls by an interface: by wip/gen/p64/x64i.py -/
section CALLG5
variable {p : Program} {l : Launch} {e : Env} {R : Room} {s : State} {m : MethodId} {args : Array Value} {below : List Frame} {meth : Method} {c : Code} {H : Heap} {locs : List Loc} {cells slots : Nat} {Q : State → Prop}
variable {cc : ByteArray} {pc : Nat} {ls : Array Slot} {rest : List Value} {D : va_G} {cl : List vw_C} {A : Nat → Prop} {a : Nat} {tys : List (ClassId × FieldType)} {ws : va_W} {H0 : Heap}
theorem ev_callG5 {mc ms : Nat} {free : Addr → Prop} {st0 : List Value} {Qa : State → Outcome → State → Prop} {XC : String → State → State → Prop} (hr : vx_Run5 p l e R s m args below meth c H locs cells slots mc ms (F0 m pc ls st0) rest Qa XC free)
    (hS : va_S A H0 H locs) (hf : ∀ q, free q → A q) (hQF : ∀ st v t, st.heap = H → Qa st (.returned v) t → H.size ≤ t.heap.size ∧ ∀ q : Nat, q < H.size → ¬ A q → t.heap[q]? = H[q]?) (hXF : ∀ E st t, st.heap = H → XC E st t → H.size ≤ t.heap.size ∧ ∀ q : Nat, q < H.size → ¬ A q → t.heap[q]? = H[q]?)
    (kx : ∀ (E : String) (ce : Cell) (q9 : Addr) (st t : State) (H1 : Heap) (locs1 : List Loc), st.heap = H → t.heap = H1 → XC E st t → va_S A H0 H1 locs1 → H1[q9]? = some ce → ce.vm = .none → s.vm.findClass E = some ce.cls → vx_W p l e R s m args below meth c H1 locs1 (cells + mc) (slots + ms) Q (F0 m pc ls rest) q9)
    (kk : ∀ (v : Option Value) (st t : State) (H1 : Heap) (locs1 : List Loc), st.heap = H → t.heap = H1 → Qa st (.returned v) t → va_S A H0 H1 locs1 → W p l e R s m args below meth c H1 locs1 (cells + mc) (slots + ms) Q (F0 m (pc + 5) ls (v.toList ++ rest))) : W p l e R s m args below meth c H locs cells slots Q (F0 m pc ls st0) := by
  intro T hT X
  have key : ∀ (t T' : State) (L : List Loc), T'.heap = t.heap → H.size ≤ t.heap.size → (∀ q : Nat, q < H.size → ¬ A q → t.heap[q]? = H[q]?) → (∀ q ∈ L, free q.base) → va_S A H0 T'.heap (locs ++ L) := by
    intro t T' L e1 z1 k1 hL
    refine ⟨Nat.le_trans hS.1 (by rw [e1]; exact z1), fun q h1 h2 => ?_, fun q hq => ?_⟩
    · rw [e1, k1 q (Nat.lt_of_lt_of_le h1 hS.1) h2]
      exact hS.2.1 q h1 h2
    · rcases List.mem_append.mp hq with h | h
      · exact hS.2.2 q h
      · exact hf _ (hL q h)
  rcases hr T hT X with ⟨v, st₀, t, T', L, h0, X', hL, e1, e2, hq, st⟩ | ⟨q, st₀, t, T', L, E, ce, h0, X', hL, e1, e2, hx, hce, hcv, hcl, st⟩
  · obtain ⟨z1, k1⟩ := hQF st₀ v t h0 hq
    obtain ⟨t2, a1, b1⟩ := kk v st₀ t T'.heap (locs ++ L) h0 e1.symm hq (key t T' L e1 z1 k1 hL) T' rfl X'
    exact ⟨t2, st t2 a1, b1⟩
  · obtain ⟨z1, k1⟩ := hXF E st₀ t h0 hx
    obtain ⟨t2, a1, b1⟩ := kx E ce q st₀ t T'.heap (locs ++ L) h0 e1.symm hx (key t T' L e1 z1 k1 hL) (by rw [e1]; exact hce) hcv hcl T' rfl X'
    exact ⟨t2, st.trans a1, b1⟩
end CALLG5
section CALL5
variable {D : va_G} {cy : Nat → ClassId} {base : Nat} {ext : Nat → Nat} {SL : Nat} {SX : Nat → Int32} {l : Launch} {j pc : Nat} {ls : ev_L} {r st : List Value} {w : ev_W} {o : Option Value ⊕ Nat} {w1 : ev_W}
theorem ev_x_call5 {rest : List Value} {e2 : ev_ME} {v2 : Option Value} {w2 : ev_W} {z0 : ev_ME} (hz0 : ev_mel j = some z0) (hc2 : w_c w ≤ w_c w2) (hs2 : w_z w ≤ w_z w2) (hm1 : w_c w2 ≤ w_c w1) (hm2 : w_z w2 ≤ w_z w1)
    (hgo : ev_rok (ev_rt e2) v2 = true → ev_Snd D cy base ext SL SX l j (pc + 5) ls (v2.toList ++ rest) w2 o w1)
    (hrun : ∀ (p : Program) (e : Env) (R : Room) (s : State) (m : MethodId) (args : Array Value) (below : List Frame) (meth : Method) (c : Code), ev_Cx D cy base ext SL SX l j z0 p R s m args meth c → ∀ (H : Heap) (locs : List Loc) (cells slots : Nat) (L : Array Slot), ev_M D cy base ext SL SX w H → va_S (ev_A base) s.heap H locs → ev_EL base ext L (ev_ml z0) ls → cells + (w_c w2 - w_c w) ≤ R.cells → slots + (w_z w2 - w_z w) ≤ R.slots →
      ∃ arr, vx_Run5 p l e R s m args below meth c H locs cells slots (w_c w2 - w_c w) (w_z w2 - w_z w) (F0 m pc L (st.map (ev_v base ext))) (rest.map (ev_v base ext)) (ev_Qc D cy base ext SL SX e2 (.inl v2) w2 arr) (ev_XC D cy base ext SL SX (.inl v2) w2) (ev_A base)) : ev_Snd D cy base ext SL SX l j pc ls st w o w1 := by
  refine ⟨Nat.le_trans hc2 hm1, Nat.le_trans hs2 hm2, fun z hz p e R s m args below meth c hC H locs cells slots Q L K N hM hS hE hcc hss hK hN hend => ?_⟩
  cases Option.some.inj (hz0.symm.trans hz)
  obtain ⟨arr, hr⟩ := hrun p e R s m args below meth c hC H locs cells slots L hM hS hE (by omega) (by omega)
  refine ev_callG5 hr hS (fun q h => h) (fun st9 v t h0 hq => ?_) (fun E st9 t h0 hq => ?_) (fun E ce q9 st9 t H1 locs1 h0 ht hq hS1 hce hcv hcl => ?_) (fun v st9 t H1 locs1 h0 ht hq hS1 => ?_)
  · have h9 := hq.2
    unfold va_F at h9
    rw [h0] at h9
    exact h9
  · have h9 := hq.2
    unfold va_F at h9
    rw [h0] at h9
    exact h9
  · obtain ⟨⟨k, ho2, -⟩, -⟩ := hq
    cases ho2
  · obtain ⟨⟨v9, ho2, hoc, hrok, hM2⟩, hF2⟩ := hq
    have ho3 : v2 = v9 := Sum.inl.inj ho2
    rw [← ho3] at hoc hrok
    have hv : v = v2.map (ev_v base ext) := Outcome.returned.inj hoc
    subst hv
    rw [ht] at hM2
    have h9 := hgo hrok
    have e9 : (v2.toList ++ rest).map (ev_v base ext) = (v2.map (ev_v base ext)).toList ++ rest.map (ev_v base ext) := by cases v2 <;> rfl
    have k9 := h9.2.2 z0 hz p e R s m args below meth c hC H1 locs1 (cells + (w_c w2 - w_c w)) (slots + (w_z w2 - w_z w)) Q L K N hM2 hS1 hE (by omega) (by omega) hK hN hend
    rw [e9] at k9
    exact k9
theorem xr_F {z0 e2 : ev_ME} {j2 ix a : Nat} {as rest : List Value} {o2 : Option Value ⊕ Nat} {w2 : ev_W} (h2 : ev_me j2 = some e2) (hlen : as.length = ev_na e2) (ha : a < w_n w) (hcat : ev_cat rest ≤ 8) (hrm : ev_rmk z0 e2 = true) (hcon : ev_Con D cy base ext SL SX l e2 (.ref a :: as) w o2 w2) {κ : Nat} {r9 : vw_C} (hkd : ev_kd e2 ≠ 0) (hh : ev_hh e2 = []) (hk : w_K w a = κ) (hκ9 : ev_isO κ) (hr9 : vwCl[κ]? = some r9) {x : MethodName} {ct : Nat} (hlink : Cond.methodLink (ev_own.getD (ev_own1 z0) "") ix x ∈ ev_all) (hFw : ∀ s : State, zt_II s → va_Fw r9.1 x (ev_y e2) s) (hsel : Cond.selects r9.1 x (ev_y e2) ∈ ev_all) (hx : (x.cls ≠ "java/lang/invoke/MethodHandle" ∧ x.cls ≠ "java/lang/invoke/VarHandle") ∧ ∀ sig, parseMethodDescriptor x.desc = some sig → ev_na e2 = sig.parameters.length) (hd : decode (ev_by z0) pc = .ok (.invokeinterface ix ct, 5)) :
    ∀ (p : Program) (e : Env) (R : Room) (s : State) (m : MethodId) (args : Array Value) (below : List Frame) (meth : Method) (c : Code), ev_Cx D cy base ext SL SX l j z0 p R s m args meth c → ∀ (H : Heap) (locs : List Loc) (cells slots : Nat) (L : Array Slot), ev_M D cy base ext SL SX w H → va_S (ev_A base) s.heap H locs → ev_EL base ext L (ev_ml z0) ls → cells + (w_c w2 - w_c w) ≤ R.cells → slots + (w_z w2 - w_z w) ≤ R.slots →
      ∃ arr, vx_Run5 p l e R s m args below meth c H locs cells slots (w_c w2 - w_c w) (w_z w2 - w_z w) (F0 m pc L ((as.reverse ++ .ref a :: rest).map (ev_v base ext))) (rest.map (ev_v base ext)) (ev_Qc D cy base ext SL SX e2 o2 w2 arr) (ev_XC D cy base ext SL SX o2 w2) (ev_A base) := by
  intro p e R s m args below meth c hC H locs cells slots L hM hS hE hcR hsR
  have hok := ev_me_ok h2
  obtain ⟨w1', w2', w3', w4', w5'⟩ := ev_me_words h2
  have hts := hC.2.2.2.2.2.1
  have hcw : ev_cw e2 = Cond.code (ev_y e2) (ev_by e2) (ev_ml e2) (ev_rt e2) := by
    unfold ev_cw
    rw [hh]
  have hstk : (F0 m pc L ((as.reverse ++ .ref a :: rest).map (ev_v base ext))).stack = (as.map (ev_v base ext)).reverse ++ .ref (base + a) :: rest.map (ev_v base ext) := by
    show (as.reverse ++ .ref a :: rest).map (ev_v base ext) = _
    rw [List.map_append, List.map_cons, ev_v_ref ⟨H, hM⟩ ha, List.map_reverse]
  have hinst := hts _ (w4' hkd)
  have hroom := ev_rmk_of hrm hC.2.2.2.2.2.2.2.2.2.2.2.2.2.1 hC.2.2.2.2.2.2.2.2.2.2.2.2.2.2.1
  have hmemc : Cond.code (ev_y e2) (ev_by e2) (ev_ml e2) (ev_rt e2) ∈ ev_wz e2 := by unfold ev_wz; rw [← hcw]; exact List.mem_cons_self
  have hcode : (Cond.code (ev_y e2) (ev_by e2) (ev_ml e2) (ev_rt e2)).before args s = true := by rw [← hcw]; exact hts _ w1'
  have hfix : CallFix p m c (ev_by z0) (ev_ml z0) s args ev_all (ev_y z0).cls := ⟨hC.1, hC.2.1, hC.2.2.2.1, hC.2.2.2.2.1, hts⟩
  have h9 : ∃ cell : Cell, H[base + a]? = some cell ∧ cell.vm.isStatics = false ∧ s.vm.findClass r9.1 = some cell.cls := va_recv hC.2.2.2.2.2.2.2.2.1 hM.1 hr9 (show (ev_ws cy base ext w)[a]? = some (base + a, .inr (κ, ev_fs base ext w a κ)) by rw [ev_ws_at ha, ev_ents hk hκ9])
  have hpre : PreV s H r9.1 (base + a) (ev_Pc D cy base ext SL SX (.ref a :: as) w) (as.map (ev_v base ext)) := by
    refine ⟨ev_Pc_blind, h9, fun U hU hW => ?_⟩
    have h8 := ev_Pc_of (as := .ref a :: as) hC hM hS U hU hW
    rw [List.map_cons, ev_v_ref ⟨H, hM⟩ ha] at h8
    exact h8
  have hlink' := hts _ hlink
  rw [hC.2.2.2.2.2.2.2.2.2.2.2.1] at hlink'
  refine ⟨(Value.ref (base + a) :: as.map (ev_v base ext)).toArray, ?_⟩
  have hat := (hC.2.2.2.2.2.2.2.2.1.1 κ _ hr9).2
  have hF9 := hFw s hC.2.2.2.2.2.2.2.2.2.1.2.2.2.2.2.2.2.2.2.2.1
  exact vx_runF (n := ev_na e2) (index := ix) (C := r9.1) (x := x) (bytes := ev_by e2) (maxL := ev_ml e2) (ret := ev_rt e2) (As := as.map (ev_v base ext)) (b := base + a) hat hfix hcon ⟨⟨rfl, rfl, hroom.1, hroom.2, ev_ws_ok h2 hts, hmemc⟩, hlink', va_any rfl hF9.1, va_any rfl hF9.2.1, hts _ hsel, hinst, va_any rfl hF9.2.2.1, va_any rfl hF9.2.2.2.1, va_any rfl hF9.2.2.2.2, hts _ w2', hcode, hx.1, hx.2⟩ hpre rfl (by rw [List.length_map]; exact hlen) hE.2.1 hstk (ev_monr hcat) hd ⟨hcR, hsR⟩
end CALL5
section X5
variable {G : z_G} {j pc n : Nat} {ls : ev_L} {st r : List Value} {w : ev_W} {o : Option Value ⊕ Nat} {w1 : ev_W} {t : List Bool}
def zx_alen2 (pc n : Nat) (z : ev_ME) (ins : Instr) (len : Nat) : Bool := match ins with
  | .arraylength => xn pc len n 1
  | _ => false
theorem x_alen2 {a : Nat} (h : z_all (z_at j pc (zx_alen2 pc n) :: t) = true) (ha : a < w_n w) (hk : w_K w a = 20) (kk : z_all t = true → z_R G j n ls (.int (Int32.ofNat (w_L w a)) :: r) w o w1) : z_R G j pc ls (.ref a :: r) w o w1 := by
  obtain ⟨h2_, z0_, ins_, len_, hz_, hi_, hf_⟩ := z_any h
  unfold zx_alen2 at hf_
  split at hf_
  · obtain ⟨rfl, rfl⟩ := xn_of hf_
    intro D cy base ext
    refine ev_pstep (kk h2_ D cy base ext) (fun z hz p e R s m args below meth c hC H locs cells slots Q L hM hS hE hcR hsR k => ?_)
    cases hz_.symm.trans hz
    show W p G.2.2 e R s m args below meth c H locs cells slots Q (F0 m pc L (ev_v base ext (.ref a) :: r.map (ev_v base ext)))
    rw [ev_v_ref ⟨H, hM⟩ ha]
    have he : (ev_ws cy base ext w)[a]? = some (base + a, .inl (cy 20, w_L w a, .inr (.inr (.inr (.inr (fun j => (w_R w a j).map (ev_ρ base ext))))))) := by rw [ev_ws_at ha, ev_entq hk (by omega)]
    have ht : (ev_tys cy)[7]? = some (cy 20, .array .int) := rfl
    exact va_alen hC.1 hC.2.1 hC.2.2.2.2.2.2.2.2.1 hM.1 a 7 he ht rfl hi_ k
  · cases hf_

theorem xw_iL : Cond.methodLink "FlagLaundryLaw" 137 ⟨"java/lang/CharSequence", "length", "()I"⟩ ∈ ev_all ∧ Cond.selects "java/lang/String" ⟨"java/lang/CharSequence", "length", "()I"⟩ ⟨"java/lang/String", "length", "()I"⟩ ∈ ev_all := ⟨List.mem_filter.mpr ⟨List.mem_of_getElem? (i := 1585) (by decide +kernel), rfl⟩, List.mem_filter.mpr ⟨List.mem_of_getElem? (i := 1589) (by decide +kernel), rfl⟩⟩
def zx_iL (pc j2 na n : Nat) (z : ev_ME) (ins : Instr) (len : Nat) : Bool := match ins, ev_me j2 with
  | .invokeinterface ix _, some e2 => xn pc len n 5 && (Nat.beq (ev_na e2) na && (ev_rmk z e2 && (Nat.beq ix 137 && (Nat.beq j2 192 && (Nat.beq (ev_own1 z) 20 && (decide (ev_kd e2 ≠ 0) && ((ev_hh e2).isEmpty && (decide (ev_y e2 = ⟨"java/lang/String", "length", "()I"⟩) && Nat.beq (ev_na e2) 0))))))))
  | _, _ => false
theorem x_iL {j2 na a : Nat} {as rest : List Value} {v : Option Value} {w2 : ev_W} (h : z_all (z_at j pc (zx_iL pc j2 na n) :: t) = true) (hst : st = as.reverse ++ .ref a :: rest) (hlen : as.length = na) (hcat : Nat.ble (ev_cat rest) 8 = true) (ha : a < w_n w) (hk : w_K w a = 19) (hc : z_K G j2 (.ref a :: as) w (.inl v) w2) (kk : z_all t = true → z_R G j n ls (v.toList ++ rest) w2 o w1) : z_R G j pc ls st w o w1 := by
  subst hst
  obtain ⟨h2_, z0_, ins_, len_, hz_, hi_, hf_⟩ := z_any h
  unfold zx_iL at hf_
  split at hf_
  · rename_i ix_ ct_ e2_ he2_
    simp only [Bool.and_eq_true] at hf_
    obtain ⟨g1_, g2_, g3_, g4_, g5_, g6_, g7_, g8_, g9_, ga_⟩ := hf_
    obtain ⟨rfl, rfl⟩ := xn_of g1_
    intro D cy base ext
    obtain ⟨c1, c2, c3⟩ := hc D cy base ext e2_ he2_
    have hs := kk h2_ D cy base ext
    have hy9 := of_decide_eq_true g9_
    have hl9 : Cond.methodLink (ev_own.getD (ev_own1 z0_) "") ix_ ⟨"java/lang/CharSequence", "length", "()I"⟩ ∈ ev_all := by
      rw [Nat.eq_of_beq_eq_true g6_, Nat.eq_of_beq_eq_true g4_]; exact xw_iL.1
    exact ev_x_call5 hz_ c2 c3 hs.1 hs.2.1 (fun _ => hs) (xr_F (ls := ls) (r9 := (RJ0, TJ0, 4)) (x := ⟨"java/lang/CharSequence", "length", "()I"⟩) he2_ (by rw [hlen]; exact (Nat.eq_of_beq_eq_true g2_).symm) ha (Nat.le_of_ble_eq_true hcat) g3_ c1 (of_decide_eq_true g7_) (List.isEmpty_iff.mp g8_) hk (by decide) rfl hl9 (fun s h9 => by rw [hy9]; exact h9.2.2.1) (by rw [hy9]; exact xw_iL.2) ⟨⟨by decide, by decide⟩, fun sig hs9 => by
      have h8 : parseMethodDescriptor "()I" = some { parameters := [], returnType := some .int } := by decide +kernel
      rw [show (⟨"java/lang/CharSequence", "length", "()I"⟩ : MethodName).desc = "()I" from rfl, h8] at hs9
      rw [← Option.some.inj hs9, Nat.eq_of_beq_eq_true ga_]
      rfl⟩ hi_)
  · cases hf_

theorem xw_iC : Cond.methodLink "FlagLaundryLaw" 142 ⟨"java/lang/CharSequence", "charAt", "(I)C"⟩ ∈ ev_all ∧ Cond.selects "java/lang/String" ⟨"java/lang/CharSequence", "charAt", "(I)C"⟩ ⟨"java/lang/String", "charAt", "(I)C"⟩ ∈ ev_all := ⟨List.mem_filter.mpr ⟨List.mem_of_getElem? (i := 1597) (by decide +kernel), rfl⟩, List.mem_filter.mpr ⟨List.mem_of_getElem? (i := 1600) (by decide +kernel), rfl⟩⟩
def zx_iC (pc j2 na n : Nat) (z : ev_ME) (ins : Instr) (len : Nat) : Bool := match ins, ev_me j2 with
  | .invokeinterface ix _, some e2 => xn pc len n 5 && (Nat.beq (ev_na e2) na && (ev_rmk z e2 && (Nat.beq ix 142 && (Nat.beq j2 193 && (Nat.beq (ev_own1 z) 20 && (decide (ev_kd e2 ≠ 0) && ((ev_hh e2).isEmpty && (decide (ev_y e2 = ⟨"java/lang/String", "charAt", "(I)C"⟩) && Nat.beq (ev_na e2) 1))))))))
  | _, _ => false
theorem x_iC {j2 na a : Nat} {as rest : List Value} {v : Option Value} {w2 : ev_W} (h : z_all (z_at j pc (zx_iC pc j2 na n) :: t) = true) (hst : st = as.reverse ++ .ref a :: rest) (hlen : as.length = na) (hcat : Nat.ble (ev_cat rest) 8 = true) (ha : a < w_n w) (hk : w_K w a = 19) (hc : z_K G j2 (.ref a :: as) w (.inl v) w2) (kk : z_all t = true → z_R G j n ls (v.toList ++ rest) w2 o w1) : z_R G j pc ls st w o w1 := by
  subst hst
  obtain ⟨h2_, z0_, ins_, len_, hz_, hi_, hf_⟩ := z_any h
  unfold zx_iC at hf_
  split at hf_
  · rename_i ix_ ct_ e2_ he2_
    simp only [Bool.and_eq_true] at hf_
    obtain ⟨g1_, g2_, g3_, g4_, g5_, g6_, g7_, g8_, g9_, ga_⟩ := hf_
    obtain ⟨rfl, rfl⟩ := xn_of g1_
    intro D cy base ext
    obtain ⟨c1, c2, c3⟩ := hc D cy base ext e2_ he2_
    have hs := kk h2_ D cy base ext
    have hy9 := of_decide_eq_true g9_
    have hl9 : Cond.methodLink (ev_own.getD (ev_own1 z0_) "") ix_ ⟨"java/lang/CharSequence", "charAt", "(I)C"⟩ ∈ ev_all := by
      rw [Nat.eq_of_beq_eq_true g6_, Nat.eq_of_beq_eq_true g4_]; exact xw_iC.1
    exact ev_x_call5 hz_ c2 c3 hs.1 hs.2.1 (fun _ => hs) (xr_F (ls := ls) (r9 := (RJ0, TJ0, 4)) (x := ⟨"java/lang/CharSequence", "charAt", "(I)C"⟩) he2_ (by rw [hlen]; exact (Nat.eq_of_beq_eq_true g2_).symm) ha (Nat.le_of_ble_eq_true hcat) g3_ c1 (of_decide_eq_true g7_) (List.isEmpty_iff.mp g8_) hk (by decide) rfl hl9 (fun s h9 => by rw [hy9]; exact h9.2.2.2.1) (by rw [hy9]; exact xw_iC.2) ⟨⟨by decide, by decide⟩, fun sig hs9 => by
      have h8 : parseMethodDescriptor "(I)C" = some { parameters := [.int], returnType := some .char } := by decide +kernel
      rw [show (⟨"java/lang/CharSequence", "charAt", "(I)C"⟩ : MethodName).desc = "(I)C" from rfl, h8] at hs9
      rw [← Option.some.inj hs9, Nat.eq_of_beq_eq_true ga_]
      rfl⟩ hi_)
  · cases hf_

end X5
