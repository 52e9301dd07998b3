/-! calls over String constants; answers that are rows or bytes, by wip/gen/p64/x64f.py -/
theorem xv_x {base : Nat} {ext : Nat → Nat} {k : Nat} : ev_v base ext (.ref (ev_S + 1 + k)) = .ref (ext (ev_S + 1 + k)) := by
  show Value.ref (ev_ρ base ext (ev_S + 1 + k)) = _
  rw [show ev_ρ base ext (ev_S + 1 + k) = ext (ev_S + 1 + k) from if_neg (by omega)]
section XEXT
variable {D : va_G} {cy : Nat → ClassId} {base : Nat} {ext : Nat → Nat} {SL : Nat} {SX : Nat → Int32} {l : Launch} {j pc : Nat} {ls : ev_L} {st : List Value} {w : ev_W} {o : Option Value ⊕ Nat} {w1 : ev_W}
theorem xr_X {z0 e2 : ev_ME} {j2 ix k9 : Nat} {as rest : List Value} {o2 : Option Value ⊕ Nat} {w2 : ev_W} (h2 : ev_me j2 = some e2) (hlen : as.length = ev_na e2) (hk9 : k9 < 29) (hcat : ev_cat rest ≤ 8) (hrm : ev_rmk z0 e2 = true) (hcon : ev_Con D cy base ext SL SX l e2 (.ref (ev_S + 1 + k9) :: as) w o2 w2) (hkd : ev_kd e2 = 1) (hh : ev_hh e2 = []) (hcl : (ev_y e2).cls = "java/lang/String") (hlink : Cond.methodLink (ev_own.getD (ev_own1 z0) "") ix (ev_y e2) ∈ ev_all) (hd : decode (ev_by z0) pc = .ok (.invokevirtual ix, 3)) :
    ∀ (p : Program) (e : Env) (R : Room) (s : State) (m : MethodId) (args : Array Value) (below : List Frame) (meth : Method) (c : Code), ev_Cx D cy base ext SL SX l j z0 p R s m args meth c → ∀ (H : Heap) (locs : List Loc) (cells slots : Nat) (L : Array Slot), ev_M D cy base ext SL SX w H → va_S (ev_A base) s.heap H locs → ev_EL base ext L (ev_ml z0) ls → cells + (w_c w2 - w_c w) ≤ R.cells → slots + (w_z w2 - w_z w) ≤ R.slots →
      ∃ arr, vx_Run p l e R s m args below meth c H locs cells slots (w_c w2 - w_c w) (w_z w2 - w_z w) (F0 m pc L ((as.reverse ++ .ref (ev_S + 1 + k9) :: rest).map (ev_v base ext))) (rest.map (ev_v base ext)) (ev_Qc D cy base ext SL SX e2 o2 w2 arr) (ev_XC D cy base ext SL SX o2 w2) (ev_A base) := by
  intro p e R s m args below meth c hC H locs cells slots L hM hS hE hcR hsR
  have hok := ev_me_ok h2
  obtain ⟨w1', w2', w3', w4', w5'⟩ := ev_me_words h2
  have hts := hC.2.2.2.2.2.1
  have hcw : ev_cw e2 = Cond.code (ev_y e2) (ev_by e2) (ev_ml e2) (ev_rt e2) := by
    unfold ev_cw
    rw [hh]
  have hstk : (F0 m pc L ((as.reverse ++ .ref (ev_S + 1 + k9) :: rest).map (ev_v base ext))).stack = (as.map (ev_v base ext)).reverse ++ .ref (ext (ev_S + 1 + k9)) :: rest.map (ev_v base ext) := by
    show (as.reverse ++ .ref (ev_S + 1 + k9) :: rest).map (ev_v base ext) = _
    rw [List.map_append, List.map_cons, xv_x, List.map_reverse]
  have hinst := hts _ (w4' (by rw [hkd]; decide))
  have hroom := ev_rmk_of hrm hC.2.2.2.2.2.2.2.2.2.2.2.2.2.1 hC.2.2.2.2.2.2.2.2.2.2.2.2.2.2.1
  have hmemc : Cond.code (ev_y e2) (ev_by e2) (ev_ml e2) (ev_rt e2) ∈ ev_wz e2 := by unfold ev_wz; rw [← hcw]; exact List.mem_cons_self
  have hcode : (Cond.code (ev_y e2) (ev_by e2) (ev_ml e2) (ev_rt e2)).before args s = true := by rw [← hcw]; exact hts _ w1'
  have hfix : CallFix p m c (ev_by z0) (ev_ml z0) s args ev_all (ev_y z0).cls := ⟨hC.1, hC.2.1, hC.2.2.2.1, hC.2.2.2.2.1, hts⟩
  obtain ⟨⟨q_, hq_⟩, -, -, -⟩ := zs_tab_at hk9
  have hz1_ := (hC.2.2.2.2.2.2.2.2.2.1.2.2.2.2.2.1 k9 q_ hq_).2.kept hS.2.1
  have h9 : ∃ cell : Cell, H[ext (ev_S + 1 + k9)]? = some cell ∧ cell.vm.isStatics = false ∧ s.vm.findClass "java/lang/String" = some cell.cls := by
    obtain ⟨cell_, c1_, c2_, c3_, -⟩ := hz1_.1
    exact ⟨cell_, c1_, c2_, c3_⟩
  have hpre : PreV s H "java/lang/String" (ext (ev_S + 1 + k9)) (ev_Pc D cy base ext SL SX (.ref (ev_S + 1 + k9) :: as) w) (as.map (ev_v base ext)) := by
    refine ⟨ev_Pc_blind, h9, fun U hU hW => ?_⟩
    have h8 := ev_Pc_of (as := .ref (ev_S + 1 + k9) :: as) hC hM hS U hU hW
    rw [List.map_cons, xv_x] at h8
    exact h8
  have hlink' := hts _ hlink
  rw [hC.2.2.2.2.2.2.2.2.2.2.2.1] at hlink'
  have hsel := hts _ (w5' hkd)
  rw [hcl] at hsel
  refine ⟨(Value.ref (ext (ev_S + 1 + k9)) :: as.map (ev_v base ext)).toArray, ?_⟩
  exact vx_runV (n := ev_na e2) (index := ix) (C := "java/lang/String") (bytes := ev_by e2) (maxL := ev_ml e2) (ret := ev_rt e2) (As := as.map (ev_v base ext)) (b := ext (ev_S + 1 + k9)) hfix hcon ⟨⟨rfl, rfl, hroom.1, hroom.2, ev_ws_ok h2 hts, hmemc, hcode, hts _ w2', hok.2.2.2.1, ev_na_of hok, hlink'⟩, hinst, hsel⟩ hpre rfl (by rw [List.length_map]; exact hlen) hE.2.1 hstk (ev_monr hcat) hd ⟨hcR, hsR⟩
end XEXT
section XEX2
variable {G : z_G} {j pc n : Nat} {ls : ev_L} {st r : List Value} {w : ev_W} {o : Option Value ⊕ Nat} {w1 : ev_W} {t : List Bool}
def zx_cX (pc j2 na n : Nat) (z : ev_ME) (ins : Instr) (len : Nat) : Bool := match ins, ev_me j2 with
  | .invokevirtual ix, some e2 => xn pc len n 3 && (Nat.beq (ev_na e2) na && (ev_rmk z e2 && (Nat.beq (ev_kd e2) 1 && ((ev_hh e2).isEmpty && (decide ((ev_y e2).cls = "java/lang/String") && xtg z ix j2)))))
  | _, _ => false
theorem x_cX {j2 na k9 : Nat} {as rest : List Value} {v : Option Value} {w2 : ev_W} (h : z_all (z_at j pc (zx_cX pc j2 na n) :: t) = true) (hst : st = as.reverse ++ .ref (ev_S + 1 + k9) :: rest) (hlen : as.length = na) (hcat : Nat.ble (ev_cat rest) 8 = true) (hk9 : k9 < 29) (hc : z_K G j2 (.ref (ev_S + 1 + k9) :: as) w (.inl v) w2) (kk : z_all t = true → z_R G j n ls (v.toList ++ rest) w2 o w1) : z_R G j pc ls st w o w1 := by
  subst hst
  obtain ⟨h2_, z0_, ins_, len_, hz_, hi_, hf_⟩ := z_any h
  unfold zx_cX at hf_
  split at hf_
  · rename_i ix_ e2_ he2_
    simp only [Bool.and_eq_true] at hf_
    obtain ⟨g1_, g2_, g3_, g4_, g5_, g6_, g7_⟩ := hf_
    obtain ⟨rfl, rfl⟩ := xn_of g1_
    intro D cy base ext
    obtain ⟨c1, c2, c3⟩ := hc D cy base ext e2_ he2_
    have hs := kk h2_ D cy base ext
    exact ev_x_call hz_ (ev_z_cls hz_) c2 c3 hs.1 hs.2.1 (fun v' hv' _ => by cases hv'; exact hs) (fun E hE => by cases hE) (xr_X (ls := ls) he2_ (by rw [hlen]; exact (Nat.eq_of_beq_eq_true g2_).symm) hk9 (Nat.le_of_ble_eq_true hcat) g3_ c1 (Nat.eq_of_beq_eq_true g4_) (List.isEmpty_iff.mp g5_) (of_decide_eq_true g6_) (ev_tg_of (xtg_of g7_) he2_) hi_)
  · cases hf_
theorem x_strl {k : Nat} (h : z_all (z_at j pc (zf_str pc 105 n) :: t) = true) (hk : k < 29) (hcat : Nat.ble (ev_cat r) 8 = true) (kk : z_all t = true → z_R G j n ls (.int (jn (zs_ln k)) :: r) w o w1) : z_R G j pc ls (.ref (ev_S + 1 + k) :: r) w o w1 := by
  obtain ⟨h2_, z0_, ins_, len_, hz_, hi_, hf_⟩ := z_any h
  unfold zf_str at hf_
  split at hf_
  · rename_i ix_
    simp only [Bool.and_eq_true] at hf_
    obtain ⟨g1_, g2_, g3_, g4_, g5_⟩ := hf_
    have e1_ := Nat.eq_of_beq_eq_true g1_
    have e2_ := Nat.eq_of_beq_eq_true g2_
    subst e1_ e2_
    split at g5_
    · rename_i k_ hk_
      rw [Nat.eq_of_beq_eq_true g5_] at hk_
      intro D cy base ext
      exact ev_x_strl hk (Nat.le_of_ble_eq_true hcat) (ev_hz hz_ ⟨hk_, Nat.le_of_ble_eq_true g3_, Nat.le_of_ble_eq_true g4_⟩) (ev_hz hz_ hi_) (kk h2_ D cy base ext)
    · cases g5_
  · cases hf_
def zx_ret (k : Nat) (z : ev_ME) (ins : Instr) (_ : Nat) : Bool := match ins, k with
  | .ireturn, 0 => decide (ev_rt z = some .byte)
  | .areturn, 1 => (match ev_rt z with | some (.array _) => true | _ => false)
  | _, _ => false
theorem x_retb {x : Int32} (h : z_all (z_is j pc (zx_ret 0) :: t) = true) (hx : x = 0 ∨ x = 1) : z_R G j pc ls [.int x] w (.inl (some (.int x))) w := by
  obtain ⟨h1, h2⟩ := z_cons h
  obtain ⟨z0, ins, len, hz, hi9, hl, hf⟩ := z_is_of h1
  cases ins with
  | ireturn =>
    have e : ev_rt z0 = some .byte := of_decide_eq_true hf
    refine z_stop hz hi9 hl (fun go cal => ?_)
    show (bif ev_rok (ev_rt z0) (some (.int x)) then some (Sum.inl (some (Value.int x)), w) else none) = _
    rw [e, show ev_rok (some .byte) (some (.int x)) = true from decide_eq_true hx]
    rfl
  | _ => cases hf
theorem x_retA {x : Nat} (h : z_all (z_is j pc (zx_ret 1) :: t) = true) : z_R G j pc ls [.ref x] w (.inl (some (.ref x))) w := by
  obtain ⟨h1, h2⟩ := z_cons h
  obtain ⟨z0, ins, len, hz, hi9, hl, hf⟩ := z_is_of h1
  cases ins with
  | areturn =>
    have hf' : (match ev_rt z0 with | some (.array _) => true | _ => false) = true := hf
    refine z_stop hz hi9 hl (fun go cal => ?_)
    show (bif ev_rok (ev_rt z0) (some (.ref x)) then some (Sum.inl (some (Value.ref x)), w) else none) = _
    split at hf'
    · rename_i ty_ hq_
      rw [hq_]
      rfl
    · cases hf'
  | _ => cases hf
end XEX2
