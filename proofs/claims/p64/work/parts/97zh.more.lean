/-! String constants' fields, copies, casts, rows of objects and of rows, by wip/gen/p64/x64e.py -/
set_option maxRecDepth 100000 in
theorem xw_val : Cond.fieldLink "java/lang/String" 9 "java/lang/String" "value" "[B" ∈ ev_all ∧ Cond.fieldLink "java/lang/String" 15 "java/lang/String" "coder" "B" ∈ ev_all := ⟨zs_all (zs_in (k := .fieldLink "java/lang/String" 9 "java/lang/String" "value" "[B") 28 rfl), List.mem_filter.mpr ⟨List.mem_of_getElem? (i := 1571) (by decide +kernel), rfl⟩⟩
set_option maxRecDepth 100000 in
theorem xw_cst : Cond.classLink "FlagLaundryLaw$Desk" 66 "FlagLaundryLaw$Flag" ∈ ev_all ∧ Cond.classLink "FlagLaundryLaw" 51 "FlagLaundryLaw$Flag" ∈ ev_all ∧ Cond.classLink "FlagLaundryLaw" 40 "[I" ∈ ev_all ∧ Cond.classLink "java/util/ArrayList" 7 "java/lang/Object" ∈ ev_all := by
  refine ⟨?_, ?_, ?_, ?_⟩ <;> refine List.mem_filter.mpr ⟨?_, rfl⟩
  · exact List.mem_of_getElem? (i := 1506) (by decide +kernel)
  · exact List.mem_of_getElem? (i := 1211) (by decide +kernel)
  · exact List.mem_of_getElem? (i := 1209) (by decide +kernel)
  · exact List.mem_of_getElem? (i := 1313) (by decide +kernel)
section XMOR
variable {G : z_G} {j pc n : Nat} {ls : ev_L} {st r : List Value} {w : ev_W} {o : Option Value ⊕ Nat} {w1 : ev_W} {t : List Bool}
def zx_xval (pc n : Nat) (z : ev_ME) (ins : Instr) (len : Nat) : Bool := match ins with
  | .getfield ix => xn pc len n 3 && (Nat.beq ix 9 && Nat.beq (ev_own1 z) 19)
  | _ => false
theorem x_xval {k9 : Nat} (h : z_all (z_at j pc (zx_xval pc n) :: t) = true) (hk9 : k9 < 29) (kk : z_all t = true → z_R G j n ls (.ref (ev_S + 200 + k9) :: r) w o w1) : z_R G j pc ls (.ref (ev_S + 1 + k9) :: r) w o w1 := by
  obtain ⟨h2_, z0_, ins_, len_, hz_, hi_, hf_⟩ := z_any h
  unfold zx_xval at hf_
  split at hf_
  · rename_i ix_
    simp only [Bool.and_eq_true] at hf_
    obtain ⟨g1_, g2_, g3_⟩ := hf_
    obtain ⟨rfl, rfl⟩ := xn_of g1_
    have g4_ : ix_ = 9 := Nat.eq_of_beq_eq_true g2_
    have g5_ : ev_own1 z0_ = 19 := Nat.eq_of_beq_eq_true g3_
    subst g4_
    intro D cy base ext
    refine ev_pstep (kk h2_ D cy base ext) (fun z hz p e R s m args below meth c hC H locs cells slots Q L hM hS hE hcR hsR k => ?_)
    cases hz_.symm.trans hz
    have ho := hC.2.2.2.2.2.2.2.2.2.2.2.1
    rw [g5_] at ho
    have ho' : "java/lang/String" = (ev_y z0_).cls := ho
    have hA := (hC.2.2.2.2.2.2.2.2.2.1.2.2.2.2.2.2.2.2.1).2.2.2.2.2.2.2.2.2.2.2.2.2 k9 hk9
    have e1_ : ev_ρ base ext (ev_S + 1 + k9) = ext (ev_S + 1 + k9) := if_neg (by omega)
    show W p G.2.2 e R s m args below meth c H locs cells slots Q (F0 m pc L (.ref (ev_ρ base ext (ev_S + 1 + k9)) :: r.map (ev_v base ext)))
    rw [e1_]
    have k : W p G.2.2 e R s m args below meth c H locs cells slots Q (F0 m (pc + 3) L (.ref (ev_ρ base ext (ev_S + 200 + k9)) :: r.map (ev_v base ext))) := k
    rw [show ev_ρ base ext (ev_S + 200 + k9) = ext (ev_S + 200 + k9) from if_neg (by omega)] at k
    exact vk_getf hC.1 hC.2.1 hA.1 hS hC.2.2.2.2.1 (hC.2.2.2.2.2.1 _ (by rw [← ho']; exact xw_val.1)) (fun _ h9_ => h9_) hi_ k
  · cases hf_
def zx_xcod (pc n : Nat) (z : ev_ME) (ins : Instr) (len : Nat) : Bool := match ins with
  | .getfield ix => xn pc len n 3 && (Nat.beq ix 15 && Nat.beq (ev_own1 z) 19)
  | _ => false
theorem x_xcod {k9 : Nat} (h : z_all (z_at j pc (zx_xcod pc n) :: t) = true) (hk9 : k9 < 29) (kk : z_all t = true → z_R G j n ls (.int 0 :: r) w o w1) : z_R G j pc ls (.ref (ev_S + 1 + k9) :: r) w o w1 := by
  obtain ⟨h2_, z0_, ins_, len_, hz_, hi_, hf_⟩ := z_any h
  unfold zx_xcod at hf_
  split at hf_
  · rename_i ix_
    simp only [Bool.and_eq_true] at hf_
    obtain ⟨g1_, g2_, g3_⟩ := hf_
    obtain ⟨rfl, rfl⟩ := xn_of g1_
    have g4_ : ix_ = 15 := Nat.eq_of_beq_eq_true g2_
    have g5_ : ev_own1 z0_ = 19 := Nat.eq_of_beq_eq_true g3_
    subst g4_
    intro D cy base ext
    refine ev_pstep (kk h2_ D cy base ext) (fun z hz p e R s m args below meth c hC H locs cells slots Q L hM hS hE hcR hsR k => ?_)
    cases hz_.symm.trans hz
    have ho := hC.2.2.2.2.2.2.2.2.2.2.2.1
    rw [g5_] at ho
    have ho' : "java/lang/String" = (ev_y z0_).cls := ho
    have hA := (hC.2.2.2.2.2.2.2.2.2.1.2.2.2.2.2.2.2.2.1).2.2.2.2.2.2.2.2.2.2.2.2.2 k9 hk9
    have e1_ : ev_ρ base ext (ev_S + 1 + k9) = ext (ev_S + 1 + k9) := if_neg (by omega)
    show W p G.2.2 e R s m args below meth c H locs cells slots Q (F0 m pc L (.ref (ev_ρ base ext (ev_S + 1 + k9)) :: r.map (ev_v base ext)))
    rw [e1_]
    obtain ⟨⟨q_, hq_⟩, -, -, -⟩ := zs_tab_at hk9
    exact vk_getf hC.1 hC.2.1 (hC.2.2.2.2.2.2.2.2.2.1.2.2.2.2.2.1 k9 q_ hq_).2.2.1 hS hC.2.2.2.2.1 (hC.2.2.2.2.2.1 _ (by rw [← ho']; exact xw_val.2)) (fun _ h9_ => h9_) hi_ k
  · cases hf_
end XMOR
section XE
variable {p : Program} {l : Launch} {e : Env} {R : Room} {s : State} {m : MethodId} {args : Array Value} {below : List Frame} {meth : Method} {c : Code} {H H0 : Heap} {locs : List Loc} {cells slots : Nat} {Q : State → Prop} {D : va_G} {cl : List vw_C} {tys : List (ClassId × FieldType)} {ws : va_W} {A : Nat → Prop} {a pc : Nat} {rest : List Value} {ls : Array Slot} {cc : ByteArray}
theorem xe_aast (hexec : p.tables.exec = Jvm.exec) (hb : c.code = cc) (hK : va_K D cl tys s) (hP : va_P D cl ws H) (hD : va_D A ws) (hS : va_S A H0 H locs) (q0 t0 qk ci : Nat) {E : String} {cA : ClassId} {r : vw_C} {n v : Nat} {vs : List Value} {f : Nat → Option Nat} (ha : ws[q0]? = some (a, .inl (cA, n, .inr (.inr (.inr (.inr f)))))) (ht : tys[t0]? = some (cA, .object E)) (hca : va_Nw (.castable r.1 E) s) (hv : ws[qk]? = some (v, .inr (ci, vs))) (hc : cl[ci]? = some r) {i : Int32} (hin : vp_in i n) (hdg : decode cc pc = .ok (.aastore, 1))
    (kk : ∀ (H1 : Heap) (locs1 : List Loc), va_P D cl (ws.set q0 (a, .inl (cA, n, .inr (.inr (.inr (.inr (va_up f i.toNatClampNeg (some v)))))))) H1 → H1.size = H.size → va_S A H0 H1 locs1 → W p l e R s m args below meth c H1 locs1 cells slots Q (F0 m (pc + 1) ls rest)) : W p l e R s m args below meth c H locs cells slots Q (F0 m pc ls (.ref v :: .int i :: .ref a :: rest)) := by
  have hlt : i.toNatClampNeg < n := Nat.not_le.mp fun q => hin (Or.inr q)
  have h0 : ¬ i < 0 := fun q => hin (Or.inl q)
  obtain ⟨r', hr', cellV, g1, g2, g3, -⟩ := hP qk _ hv
  have hcls := (hK.1 ci r hc).2
  obtain ⟨kA, comp, k1, k2, k3, -⟩ := (hK.2 t0 _ ht).2
  obtain ⟨kE, hkE, -⟩ := Vm.findClass_spec k3
  obtain ⟨c0, t1, f1, f2, f3⟩ := Cond.castable_spec (va_Nw.use (A := args) rfl hca)
  cases hcls.1.symm.trans f1
  cases k3.symm.trans f2
  obtain ⟨kC, hkC, -⟩ := hcls.2
  refine W.aast hexec hb (hP q0 _ ha) (fun q h => by cases h) (fun h => by cases h) k1 k2 rfl hkE ⟨h0, by show _ < (arrV _ _ _).slots.size; rw [arrV_size]; exact hlt⟩ g1 (fun q h => by rw [g3] at h; cases h) (by rw [g2]; exact hkC) (by rw [g2]; exact f3) rfl rfl hdg fun H1 e z oq => ?_
  refine kk H1 _ (hP.set hD ha ?_ oq) z (hS.put z oq (hD.2 q0 _ ha))
  show H1[a]? = some (vp_cell _ _)
  rw [e]
  rw [vp_cell_q, vp_cell_q, arrV_store]
  congr 2
  funext q
  by_cases hq : q = i.toNatClampNeg
  · subst hq
    simp [updV, va_up, va_rf]
  · simp [updV, va_up, hq]
/-- a row of ints into a row of rows -/
theorem xe_aastI (hexec : p.tables.exec = Jvm.exec) (hb : c.code = cc) (hK : va_K D cl tys s) (hP : va_P D cl ws H) (hD : va_D A ws) (hS : va_S A H0 H locs) (q0 t0 qk t1 : Nat) {cA cB : ClassId} {n nv v : Nat} {g : Nat → Int32} {f : Nat → Option Nat} (ha : ws[q0]? = some (a, .inl (cA, n, .inr (.inr (.inr (.inr f)))))) (ht : tys[t0]? = some (cA, .array .int)) (ht1 : tys[t1]? = some (cB, .int)) (hov : (Cond.arrayOver (.array .int)).before #[] s = true) (hv : ws[qk]? = some (v, .inl (cB, nv, .inl g))) {i : Int32} (hin : vp_in i n) (hdg : decode cc pc = .ok (.aastore, 1))
    (kk : ∀ (H1 : Heap) (locs1 : List Loc), va_P D cl (ws.set q0 (a, .inl (cA, n, .inr (.inr (.inr (.inr (va_up f i.toNatClampNeg (some v)))))))) H1 → H1.size = H.size → va_S A H0 H1 locs1 → W p l e R s m args below meth c H1 locs1 cells slots Q (F0 m (pc + 1) ls rest)) : W p l e R s m args below meth c H locs cells slots Q (F0 m pc ls (.ref v :: .int i :: .ref a :: rest)) := by
  have hlt : i.toNatClampNeg < n := Nat.not_le.mp fun q => hin (Or.inr q)
  have h0 : ¬ i < 0 := fun q => hin (Or.inl q)
  obtain ⟨comp, cA', kA, hcomp, hidx, hkA, hkindA, hnameA⟩ := arrayOverA_spec hov
  have e1 : cA' = cA := Option.some.inj (hnameA.symm.trans (hK.2 t0 _ ht).2)
  have e2 : comp = cB := Option.some.inj (hcomp.symm.trans (hK.2 t1 _ ht1).2)
  subst e1 e2
  obtain ⟨kE, hkE, -⟩ := Vm.findClass_spec hcomp
  have g1 := hP qk _ hv
  refine W.aast hexec hb (hP q0 _ ha) (fun q h => by cases h) (fun h => by cases h) hkA hkindA rfl hkE ⟨h0, by show _ < (arrV _ _ _).slots.size; rw [arrV_size]; exact hlt⟩ g1 (fun q h => by cases h) hkE (by show s.vm.assignableAux _ _ _ = true; unfold Vm.assignableAux; simp [vp_cell, arrV]) rfl rfl hdg fun H1 e z oq => ?_
  refine kk H1 _ (hP.set hD ha ?_ oq) z (hS.put z oq (hD.2 q0 _ ha))
  show H1[a]? = some (vp_cell _ _)
  rw [e]
  rw [vp_cell_q, vp_cell_q, arrV_store]
  congr 2
  funext q
  by_cases hq : q = i.toNatClampNeg
  · subst hq
    simp [updV, va_up, va_rf]
  · simp [updV, va_up, hq]
theorem xe_anwI (hexec : p.tables.exec = Jvm.exec) (hb : c.code = cc) {own : String} {index : Nat} (hown : s.vm.findClass own = some m.cls) (hclink : (Cond.classLink own index "[I").before args s = true) (hover : (Cond.arrayOver (.array .int)).before #[] s = true) (hK : va_K D cl tys s) (hS : va_S A H0 H locs) {cA : ClassId} {t0 : Nat} (ht : tys[t0]? = some (cA, .array .int))
    {n : Int32} {N' : Nat} (hn : ¬ n < 0) (hN : n.toNatClampNeg = N') (hbytes : N' * 4 ≤ 536870912) (hcells : cells + 1 ≤ R.cells) (hslots : slots + N' ≤ R.slots) (hdg : decode cc pc = .ok (.anewarray index, 3))
    (kk : ∀ H1 : Heap, H1.size = H.size + 1 → (∀ q, q < H.size → H1[q]? = H[q]?) → va_at D cl (H.size, .inl (cA, N', .inr (.inr (.inr (.inr (fun _ => none)))))) H1 → va_S A H0 H1 locs →
      W p l e R s m args below meth c H1 locs (cells + 1) (slots + N') Q (F0 m (pc + 3) ls (.ref H.size :: rest))) : W p l e R s m args below meth c H locs cells slots Q (F0 m pc ls (.int n :: rest)) := by
  subst hN
  refine W.anewA (t := .int) hexec hb hown hclink (over_moved (Vm.Alike.refl _) hover) rfl hdg rfl hn hbytes hcells hslots fun cB kA comp f1 f2 f3 f4 => ?_
  have h7 : cB = cA := Option.some.inj (f1.symm.trans (hK.2 t0 _ ht).2)
  subst h7
  generalize hH1 : H.push ({ cls := cB, slots := Array.replicate n.toNatClampNeg .null, vm := .none } : Cell) = H1
  have z1 : H1.size = H.size + 1 := by rw [← hH1, Array.size_push]
  have e1 : H1[H.size]? = some (arrV cB n.toNatClampNeg (fun _ => .null)) := by rw [← hH1, Array.getElem?_push_size, ← arrV_new]
  have o1 : ∀ q : Nat, q < H.size → H1[q]? = H[q]? := fun q hq => by rw [← hH1, Array.getElem?_push, if_neg (Nat.ne_of_lt hq)]
  refine kk H1 z1 o1 ?_ ⟨Nat.le_trans hS.1 (by omega), fun x h1 h2 => (o1 x (Nat.lt_of_lt_of_le h1 hS.1)).trans (hS.2.1 x h1 h2), hS.2.2⟩
  show H1[H.size]? = some (vp_cell _ _)
  rw [vp_cell_q]
  exact e1
end XE
section XMO2
variable {G : z_G} {j pc n : Nat} {ls : ev_L} {st r : List Value} {w : ev_W} {o : Option Value ⊕ Nat} {w1 : ev_W} {t : List Bool}
/-- Object's constructor -/
def zx_obj (pc n : Nat) (z : ev_ME) (ins : Instr) (_ : Nat) : Bool := match ins with
  | .invokespecial ix => Nat.beq n (pc + 3) && ((ev_look2 (ev_own1 z) ix ev_tgt).isNone && (ev_rmn z && (match ev_look2 (ev_own1 z) ix ev_nat with | some k => Nat.beq k 103 | none => false)))
  | _ => false
theorem x_obj {a : Nat} (h : z_all (z_is j pc (zx_obj pc n) :: t) = true) (hcat : Nat.ble (ev_cat r) 8 = true) (kk : z_all t = true → z_R G j n ls r w o w1) : z_R G j pc ls (.ref a :: r) w o w1 := by
  obtain ⟨h1, h2⟩ := z_cons h
  obtain ⟨z0, ins, len, hz, hi9, hl, hf⟩ := z_is_of h1
  unfold zx_obj at hf
  split at hf
  · rename_i ix
    simp only [Bool.and_eq_true] at hf
    obtain ⟨g1, g2, g3, g4⟩ := hf
    cases Nat.eq_of_beq_eq_true g1
    split at g4
    · rename_i k hk9
      cases Nat.eq_of_beq_eq_true g4
      have g2' : ev_look2 (ev_own1 z0) ix ev_tgt = none := Option.isNone_iff_eq_none.mp g2
      refine z_step hz hi9 hl (fun go cal => ?_) (kk h2)
      show ev_inv go cal j z0 pc ls w 2 ix (.ref a :: r) = _
      unfold ev_inv
      rw [g2', hk9]
      show (bif decide (ev_cat r ≤ 8) && ev_rmn z0 then go j (pc + 3) ls r w else none) = _
      rw [show (decide (ev_cat r ≤ 8) && ev_rmn z0) = true from by rw [Bool.and_eq_true]; exact ⟨decide_eq_true (Nat.le_of_ble_eq_true hcat), g3⟩]
      rfl
    · cases g4
  · cases hf
def zx_xlen (pc n : Nat) (z : ev_ME) (ins : Instr) (len : Nat) : Bool := match ins with
  | .arraylength => xn pc len n 1
  | _ => false
theorem x_xlen {k9 : Nat} (h : z_all (z_at j pc (zx_xlen pc n) :: t) = true) (hk9 : k9 < 29) (kk : z_all t = true → z_R G j n ls (.int (Int32.ofNat (zs_ln k9)) :: r) w o w1) : z_R G j pc ls (.ref (ev_S + 200 + k9) :: r) w o w1 := by
  obtain ⟨h2_, z0_, ins_, len_, hz_, hi_, hf_⟩ := z_any h
  unfold zx_xlen at hf_
  split at hf_
  · obtain ⟨rfl, rfl⟩ := xn_of hf_
    intro D cy base ext
    refine ev_pstep (kk h2_ D cy base ext) (fun z hz p e R s m args below meth c hC H locs cells slots Q L hM hS hE hcR hsR k => ?_)
    cases hz_.symm.trans hz
    have hA := (hC.2.2.2.2.2.2.2.2.2.1.2.2.2.2.2.2.2.2.1).2.2.2.2.2.2.2.2.2.2.2.2.2 k9 hk9
    have e1_ : ev_ρ base ext (ev_S + 200 + k9) = ext (ev_S + 200 + k9) := if_neg (by omega)
    show W p G.2.2 e R s m args below meth c H locs cells slots Q (F0 m pc L (.ref (ev_ρ base ext (ev_S + 200 + k9)) :: r.map (ev_v base ext)))
    rw [e1_]
    exact va_tlen hC.1 hC.2.1 hA.2 hS rfl hi_ k
  · cases hf_
def zx_acp (pc n : Nat) (z : ev_ME) (ins : Instr) (len : Nat) : Bool := match ins with
  | .invokestatic ix => xn pc len n 3 && (Nat.ble 1 (ev_fr z) && (Nat.ble 40 (ev_lo z) && (match ev_look2 (ev_own1 z) ix ev_nat with | some q => Nat.beq q 104 | none => false)))
  | _ => false
theorem zx_acp_of {pc n : Nat} {z : ev_ME} {ins : Instr} {len : Nat} (h : zx_acp pc n z ins len = true) : ∃ ix, ins = .invokestatic ix ∧ n = pc + 3 ∧ len = 3 ∧ (ev_look2 (ev_own1 z) ix ev_nat = some 104 ∧ 1 ≤ ev_fr z ∧ 40 ≤ ev_lo z) := by
  unfold zx_acp at h
  split at h
  · rename_i ix_
    simp only [Bool.and_eq_true] at h
    obtain ⟨g1_, g2_, g3_, g4_⟩ := h
    obtain ⟨e1_, e2_⟩ := xn_of g1_
    refine ⟨ix_, rfl, e1_, e2_, ?_, Nat.le_of_ble_eq_true g2_, Nat.le_of_ble_eq_true g3_⟩
    split at g4_
    · rename_i q_ hq_
      rw [hq_, Nat.eq_of_beq_eq_true g4_]
    · cases g4_
  · cases h
/-- a String constant's bytes into a row -/
theorem x_acpX {k9 b M dp9 : Nat} {sp dp m9 : Int32} (h : z_all (z_at j pc (zx_acp pc n) :: t) = true) (hk9 : k9 < 29) (hb : b < w_n w) (hkb : w_K w b = 9) (hLb : w_L w b = M) (hs0 : sp = 0) (hd0 : ¬ dp < 0) (hdp : dp.toNatClampNeg = dp9) (hm0 : m9 = Int32.ofNat (zs_ln k9)) (h5 : dp9 + zs_ln k9 ≤ M) (hcat : Nat.ble (ev_cat r) 8 = true)
    (kk : z_all t = true → z_R G j n ls r (w_cp w b (va_cpy (fun i => (ev_sby.getD k9 []).getD i 0) (w_I w b) 0 dp9 (zs_ln k9))) o w1) : z_R G j pc ls (.int m9 :: .int dp :: .ref b :: .int sp :: .ref (ev_S + 200 + k9) :: r) w o w1 := by
  obtain ⟨h2_, z0_, ins_, len_, hz_, hi_, hf_⟩ := z_any h
  obtain ⟨ix_, rfl, rfl, rfl, hx_⟩ := zx_acp_of hf_
  intro D cy base ext
  subst hs0 hdp hm0
  have q1_ : zs_ln k9 ≤ 100 := (by decide +kernel : ∀ k : Fin 29, zs_ln k.val ≤ 100) ⟨k9, hk9⟩
  have q2_ : (Int32.ofNat (zs_ln k9)).toNatClampNeg = zs_ln k9 := by
    rw [← Int32.toNat_toInt]
    have : (Int32.ofNat (zs_ln k9)).toInt = (zs_ln k9 : Int) := Int32.toInt_ofNat_of_lt (by omega)
    omega
  have q3_ : ¬ Int32.ofNat (zs_ln k9) < 0 := by
    rw [Int32.lt_iff_toInt_lt, Int32.toInt_ofNat_of_lt (show zs_ln k9 < 2 ^ 31 by omega)]
    simp
  have q4_ : ∀ k : Fin 29, ∀ i : Fin 100, i.val < zs_ln k.val → fits .byte (.int ((ev_sby.getD k.val []).getD i.val 0)) = true := by decide +kernel
  refine ev_x_acpG (κ := 9) (tk := 0) (ty := .byte) (sv := .ref (ev_S + 200 + k9)) (n0 := zs_ln k9) (f := fun i => (ev_sby.getD k9 []).getD i 0) (Or.inl ⟨rfl, rfl, rfl⟩) hb hkb hLb (by decide) hd0 q3_ (by rw [q2_]; exact Nat.le_of_eq (Nat.zero_add _)) (by rw [q2_]; exact h5) (fun i hi => ?_) (Nat.le_of_ble_eq_true hcat) (ev_hz hz_ hx_) (ev_hz hz_ hi_) (fun z p R s m args meth c H locs hC hM hS => ?_) (by rw [q2_]; exact kk h2_ D cy base ext)
  · rw [q2_] at hi
    have e_ : (0 : Int32).toNatClampNeg + i = i := by
      show 0 + i = i
      omega
    rw [e_]
    exact q4_ ⟨k9, hk9⟩ ⟨i, by omega⟩ hi
  · obtain ⟨cell_, c1_, c2_, c3_, c4_, c5_, c6_, c7_⟩ := ((hC.2.2.2.2.2.2.2.2.2.1.2.2.2.2.2.2.2.2.1).2.2.2.2.2.2.2.2.2.2.2.2.2 k9 hk9).2
    have hlt_ := (Array.getElem?_eq_some_iff.mp c1_).1
    exact ⟨ext (ev_S + 200 + k9), cell_, (by show Value.ref (ev_ρ base ext _) = _; rw [show ev_ρ base ext (ev_S + 200 + k9) = ext (ev_S + 200 + k9) from if_neg (by omega)]), by rw [hS.2.1 _ hlt_ c7_]; exact c1_, c2_, c3_, c4_, fun i hi => c6_ i hi⟩
/-- a row's bytes into another -/
theorem x_acpW {a b N M dp9 sp9 m9 : Nat} {sp dp mm : Int32} (h : z_all (z_at j pc (zx_acp pc n) :: t) = true) (ha : a < w_n w) (hka : w_K w a = 9) (hLa : w_L w a = N) (hb : b < w_n w) (hkb : w_K w b = 9) (hLb : w_L w b = M) (hs0 : ¬ sp < 0) (hd0 : ¬ dp < 0) (hm0 : ¬ mm < 0) (hsp : sp.toNatClampNeg = sp9) (hdp : dp.toNatClampNeg = dp9) (hm : mm.toNatClampNeg = m9) (h4 : sp9 + m9 ≤ N) (h5 : dp9 + m9 ≤ M) (hfit : ∀ i, i < m9 → fits .byte (.int (w_I w a (sp9 + i))) = true) (hcat : Nat.ble (ev_cat r) 8 = true)
    (kk : z_all t = true → z_R G j n ls r (w_cp w b (va_cpy (w_I w a) (w_I w b) sp9 dp9 m9)) o w1) : z_R G j pc ls (.int mm :: .int dp :: .ref b :: .int sp :: .ref a :: r) w o w1 := by
  obtain ⟨h2_, z0_, ins_, len_, hz_, hi_, hf_⟩ := z_any h
  obtain ⟨ix_, rfl, rfl, rfl, hx_⟩ := zx_acp_of hf_
  intro D cy base ext
  subst hsp hdp hm
  exact ev_x_acpW (κ := 9) (tk := 0) (ty := .byte) (Or.inl ⟨rfl, rfl, rfl⟩) ha hka hLa hb hkb hLb hs0 hd0 hm0 h4 h5 hfit (Nat.le_of_ble_eq_true hcat) (ev_hz hz_ hx_) (ev_hz hz_ hi_) (kk h2_ D cy base ext)
/-- a flag by hand is one -/
def zx_cast (pc n : Nat) (z : ev_ME) (ins : Instr) (len : Nat) : Bool := match ins with
  | .checkcast ix => xn pc len n 3 && ((Nat.beq ix 66 && Nat.beq (ev_own1 z) 8) || (Nat.beq ix 51 && Nat.beq (ev_own1 z) 20))
  | _ => false
theorem x_cast {a : Nat} (h : z_all (z_at j pc (zx_cast pc n) :: t) = true) (ha : a < w_n w) (hk : w_K w a = 16) (kk : z_all t = true → z_R G j n ls (.ref a :: r) w o w1) : z_R G j pc ls (.ref a :: r) w o w1 := by
  obtain ⟨h2_, z0_, ins_, len_, hz_, hi_, hf_⟩ := z_any h
  unfold zx_cast at hf_
  split at hf_
  · rename_i ix_
    simp only [Bool.and_eq_true, Bool.or_eq_true] at hf_
    obtain ⟨g1_, g2_⟩ := hf_
    obtain ⟨rfl, rfl⟩ := xn_of g1_
    intro D cy base ext
    refine ev_pstep (kk h2_ D cy base ext) (fun z hz p e R s m args below meth c hC H locs cells slots Q L hM hS hE hcR hsR k => ?_)
    cases hz_.symm.trans hz
    have hr9 : vwCl[16]? = some (RX9, TX9, 12) := rfl
    have h9 := va_recv hC.2.2.2.2.2.2.2.2.1 hM.1 hr9 (show (ev_ws cy base ext w)[a]? = some (base + a, .inr (16, ev_fs base ext w a 16)) by rw [ev_ws_at ha, ev_ents hk (by decide)])
    have hat := (hC.2.2.2.2.2.2.2.2.1.1 16 _ hr9).2
    have ho := hC.2.2.2.2.2.2.2.2.2.2.2.1
    have k : W p G.2.2 e R s m args below meth c H locs cells slots Q (F0 m (pc + 3) L (ev_v base ext (.ref a) :: r.map (ev_v base ext))) := k
    show W p G.2.2 e R s m args below meth c H locs cells slots Q (F0 m pc L (ev_v base ext (.ref a) :: r.map (ev_v base ext)))
    rw [ev_v_ref ⟨H, hM⟩ ha] at k ⊢
    have hl9 : Cond.classLink (ev_y z0_).cls ix_ "FlagLaundryLaw$Flag" ∈ ev_all := by
      rcases g2_ with ⟨g2_, g3_⟩ | ⟨g2_, g3_⟩ <;> (rw [Nat.eq_of_beq_eq_true g3_] at ho; rw [← ho, Nat.eq_of_beq_eq_true g2_])
      · exact xw_cst.1
      · exact xw_cst.2.1
    exact va_castS hC.1 hC.2.1 hC.2.2.2.2.1 (hC.2.2.2.2.2.1 _ hl9) hat h9 hi_ k
  · cases hf_
def zx_aald (pc n : Nat) (z : ev_ME) (ins : Instr) (len : Nat) : Bool := match ins with
  | .aaload => xn pc len n 1
  | _ => false
theorem x_aald {a b κ : Nat} {i : Int32} (h : z_all (z_at j pc (zx_aald pc n) :: t) = true) (ha : a < w_n w) (hk : w_K w a = κ) (hκ : κ = 15 ∨ κ = 20) (hi : ev_ok i (w_L w a) = true) (hr : w_R w a (z_n i) = some b) (kk : z_all t = true → z_R G j n ls (.ref b :: r) w o w1) : z_R G j pc ls (.int i :: .ref a :: r) w o w1 := by
  obtain ⟨h2_, z0_, ins_, len_, hz_, hi_, hf_⟩ := z_any h
  unfold zx_aald at hf_
  split at hf_
  · obtain ⟨rfl, rfl⟩ := xn_of hf_
    intro D cy base ext
    refine ev_pstep (kk h2_ D cy base ext) (fun z hz p e R s m args below meth c hC H locs cells slots Q L hM hS hE hcR hsR k => ?_)
    cases hz_.symm.trans hz
    show W p G.2.2 e R s m args below meth c H locs cells slots Q (F0 m pc L (.int i :: ev_v base ext (.ref a) :: r.map (ev_v base ext)))
    rw [ev_v_ref ⟨H, hM⟩ ha]
    have he : (ev_ws cy base ext w)[a]? = some (base + a, .inl (cy κ, w_L w a, .inr (.inr (.inr (.inr (fun j => (w_R w a j).map (ev_ρ base ext))))))) := by rw [ev_ws_at ha, ev_entq hk (by omega)]
    have k : W p G.2.2 e R s m args below meth c H locs cells slots Q (F0 m (pc + 1) L (va_rf ((w_R w a i.toNatClampNeg).map (ev_ρ base ext)) :: r.map (ev_v base ext))) := by
      rw [hr]
      exact k
    have hin := ev_ok_in hi
    have hlt : i.toNatClampNeg < w_L w a := Nat.not_le.mp fun q => hin (Or.inr q)
    rcases hκ with rfl | rfl
    · exact va_aldq (C := "java/lang/Object") hC.1 hC.2.1 hC.2.2.2.2.2.2.2.2.1 hM.1 a 6 he rfl (ev_ok_in hi) hi_ k
    · have ht : (ev_tys cy)[7]? = some (cy 20, .array .int) := rfl
      exact W.aald (v := va_rf ((w_R w a i.toNatClampNeg).map (ev_ρ base ext))) (ty := .array .int) hC.1 hC.2.1 (hM.1 a _ he) ((hC.2.2.2.2.2.2.2.2.1.2 7 _ ht).1 (w_L w a) (fun j => va_rf ((w_R w a j).map (ev_ρ base ext)))) rfl (fun q => by cases q) (by show ¬ (i < 0 ∨ (arrV _ _ _).slots.size ≤ _); rw [arrV_size]; exact hin) (by show (arrV _ _ _).slots[_]? = _; rw [arrV_read _ _ hlt]) rfl rfl hi_ k
  · cases hf_
def zx_aast (pc n : Nat) (z : ev_ME) (ins : Instr) (len : Nat) : Bool := match ins with
  | .aastore => xn pc len n 1
  | _ => false
theorem x_rup {base : Nat} {ext : Nat → Nat} {a b : Nat} {i : Int32} (hρ : ev_ρ base ext b = base + b) : (fun j => (w_R (w_sR w a (z_n i) (some b)) a j).map (ev_ρ base ext)) = va_up (fun j => (w_R w a j).map (ev_ρ base ext)) i.toNatClampNeg (some (base + b)) := by
  rw [w_sR_at]
  funext j9
  unfold va_up
  by_cases hj9 : j9 = i.toNatClampNeg
  · rw [if_pos hj9, if_pos hj9, ← hρ]; rfl
  · rw [if_neg hj9, if_neg hj9]
/-- a flag into a row of objects -/
theorem x_aast {a b : Nat} {i : Int32} (h : z_all (z_at j pc (zx_aast pc n) :: t) = true) (ha : a < w_n w) (hb : b < w_n w) (hk : w_K w a = 15) (hkb : w_K w b = 16) (hi : ev_ok i (w_L w a) = true) (kk : z_all t = true → z_R G j n ls r (w_sR w a (z_n i) (some b)) o w1) : z_R G j pc ls (.ref b :: .int i :: .ref a :: r) w o w1 := by
  obtain ⟨h2_, z0_, ins_, len_, hz_, hi_, hf_⟩ := z_any h
  unfold zx_aast at hf_
  split at hf_
  · obtain ⟨rfl, rfl⟩ := xn_of hf_
    intro D cy base ext
    refine ev_mstep (w' := w_sR w a (z_n i) (some b)) rfl rfl (kk h2_ D cy base ext) (fun z hz p e R s m args below meth c hC H locs cells slots Q L hM hS k => ?_)
    cases hz_.symm.trans hz
    have hM2 := hM.2.1
    have hρ : ev_ρ base ext b = base + b := ev_ρ_lt (by omega)
    show W p G.2.2 e R s m args below meth c H locs cells slots Q (F0 m pc L (ev_v base ext (.ref b) :: .int i :: ev_v base ext (.ref a) :: r.map (ev_v base ext)))
    rw [ev_v_ref ⟨H, hM⟩ ha, ev_v_ref ⟨H, hM⟩ hb]
    have he : (ev_ws cy base ext w)[a]? = some (base + a, .inl (cy 15, w_L w a, .inr (.inr (.inr (.inr (fun j => (w_R w a j).map (ev_ρ base ext))))))) := by rw [ev_ws_at ha, ev_entq hk (by omega)]
    have hb9 : (ev_ws cy base ext w)[b]? = some (base + b, .inr (16, ev_fs base ext w b 16)) := by rw [ev_ws_at hb, ev_ents hkb (by decide)]
    have hen : ev_ent cy base ext (w_sR w a (z_n i) (some b)) a = .inl (cy 15, w_L w a, .inr (.inr (.inr (.inr (va_up (fun j => (w_R w a j).map (ev_ρ base ext)) i.toNatClampNeg (some (base + b))))))) := by
      rw [ev_entq (w := w_sR w a (z_n i) (some b)) (κ := 15) hk (by omega), x_rup hρ]
      rfl
    exact xe_aast (r := (RX9, TX9, 12)) hC.1 hC.2.1 hC.2.2.2.2.2.2.2.2.1 hM.1 (ev_dis cy base ext w) hS a 6 b 16 (E := "java/lang/Object") he rfl hC.2.2.2.2.2.2.2.2.2.1.2.2.2.2.2.2.2.2.2.2.1.2.1 hb9 rfl (ev_ok_in hi) hi_ (fun H1 locs1 hP1 hz1 hS1 => k H1 locs1 (ev_M_arr hM ha hk (w_sR_w a _ _) hen hP1 hz1) hS1)
  · cases hf_
/-- a row of ints into a row of rows -/
theorem x_aastI {a b : Nat} {i : Int32} (h : z_all (z_at j pc (zx_aast pc n) :: t) = true) (ha : a < w_n w) (hb : b < w_n w) (hk : w_K w a = 20) (hkb : w_K w b = 10) (hi : ev_ok i (w_L w a) = true) (kk : z_all t = true → z_R G j n ls r (w_sR w a (z_n i) (some b)) o w1) : z_R G j pc ls (.ref b :: .int i :: .ref a :: r) w o w1 := by
  obtain ⟨h2_, z0_, ins_, len_, hz_, hi_, hf_⟩ := z_any h
  unfold zx_aast at hf_
  split at hf_
  · obtain ⟨rfl, rfl⟩ := xn_of hf_
    intro D cy base ext
    refine ev_mstep (w' := w_sR w a (z_n i) (some b)) rfl rfl (kk h2_ D cy base ext) (fun z hz p e R s m args below meth c hC H locs cells slots Q L hM hS k => ?_)
    cases hz_.symm.trans hz
    have hM2 := hM.2.1
    have hρ : ev_ρ base ext b = base + b := ev_ρ_lt (by omega)
    show W p G.2.2 e R s m args below meth c H locs cells slots Q (F0 m pc L (ev_v base ext (.ref b) :: .int i :: ev_v base ext (.ref a) :: r.map (ev_v base ext)))
    rw [ev_v_ref ⟨H, hM⟩ ha, ev_v_ref ⟨H, hM⟩ hb]
    have he : (ev_ws cy base ext w)[a]? = some (base + a, .inl (cy 20, w_L w a, .inr (.inr (.inr (.inr (fun j => (w_R w a j).map (ev_ρ base ext))))))) := by rw [ev_ws_at ha, ev_entq hk (by omega)]
    have hb9 : (ev_ws cy base ext w)[b]? = some (base + b, .inl (cy 10, w_L w b, .inl (w_I w b))) := by rw [ev_ws_at hb, ev_enti hkb (by omega)]
    have hen : ev_ent cy base ext (w_sR w a (z_n i) (some b)) a = .inl (cy 20, w_L w a, .inr (.inr (.inr (.inr (va_up (fun j => (w_R w a j).map (ev_ρ base ext)) i.toNatClampNeg (some (base + b))))))) := by
      rw [ev_entq (w := w_sR w a (z_n i) (some b)) (κ := 20) hk (by omega), x_rup hρ]
      rfl
    exact xe_aastI hC.1 hC.2.1 hC.2.2.2.2.2.2.2.2.1 hM.1 (ev_dis cy base ext w) hS a 7 b 1 he rfl rfl hC.2.2.2.2.2.2.2.2.2.1.2.2.2.2.2.2.2.2.2.2.1.1 hb9 (ev_ok_in hi) hi_ (fun H1 locs1 hP1 hz1 hS1 => k H1 locs1 (ev_M_arr hM ha hk (w_sR_w a _ _) hen hP1 hz1) hS1)
  · cases hf_
def zx_anw (pc ow ix9 n : Nat) (z : ev_ME) (ins : Instr) (len : Nat) : Bool := match ins with
  | .anewarray ix => xn pc len n 3 && (Nat.beq ix ix9 && Nat.beq (ev_own1 z) ow)
  | _ => false
theorem x_anw {i : Int32} {κ ow ix9 : Nat} (h : z_all (z_at j pc (zx_anw pc ow ix9 n) :: t) = true) (hκ : (κ = 15 ∧ ow = 17 ∧ ix9 = 7) ∨ (κ = 20 ∧ ow = 20 ∧ ix9 = 40)) (hl : w_l w = true) (hn : w_n w < 1000) (hi : ev_ok i 100000 = true) (kk : z_all t = true → z_R G j n ls (.ref (w_n w) :: r) (w_nw w κ (z_n i)) o w1) : z_R G j pc ls (.int i :: r) w o w1 := by
  obtain ⟨h2_, z0_, ins_, len_, hz_, hi_, hf_⟩ := z_any h
  unfold zx_anw at hf_
  split at hf_
  · rename_i ix_
    simp only [Bool.and_eq_true] at hf_
    obtain ⟨g1_, g2_, g3_⟩ := hf_
    obtain ⟨rfl, rfl⟩ := xn_of g1_
    have g4_ : ix_ = ix9 := Nat.eq_of_beq_eq_true g2_
    have g5_ : ev_own1 z0_ = ow := Nat.eq_of_beq_eq_true g3_
    subst g4_
    intro D cy base ext
    refine ev_nstep (w' := w_nw w κ i.toNatClampNeg) rfl rfl (kk h2_ D cy base ext) (fun z hz p e R s m args below meth c hC H locs cells slots Q L hM hS hcR hsR k => ?_)
    cases hz_.symm.trans hz
    have hsz : H.size = base + w_n w := hM.2.2.2.1 hl
    have e1 : ev_ρ base ext (w_n w) = base + w_n w := ev_ρ_lt (by omega)
    have hin := ev_ok_in hi
    have hb : i.toNatClampNeg < 100000 := Nat.not_le.mp fun q => hin (Or.inr q)
    have h0 : ¬ i < 0 := fun q => hin (Or.inl q)
    have eR : w_R (w_nw w κ i.toNatClampNeg) (w_n w) = fun _ => none := ev_u1_at _ _ _
    have eL : w_L (w_nw w κ i.toNatClampNeg) (w_n w) = i.toNatClampNeg := ev_u1_at _ _ _
    have eK : w_K (w_nw w κ i.toNatClampNeg) (w_n w) = κ := ev_u1_at _ _ _
    have fin : ∀ H1 : Heap, H1.size = H.size + 1 → (∀ q, q < H.size → H1[q]? = H[q]?) → va_at D vwCl (H.size, .inl (cy κ, i.toNatClampNeg, .inr (.inr (.inr (.inr (fun _ => none)))))) H1 → va_S (ev_A base) s.heap H1 locs → W p G.2.2 e R s m args below meth c H1 locs (cells + 1) (slots + i.toNatClampNeg) Q (F0 m (pc + 3) L (.ref H.size :: r.map (ev_v base ext))) := by
      intro H1 z1 o1 at1 hS1
      have k1 := k H1 (ev_M_new hM hl hn z1 o1 (by
        rw [← hsz, ev_entq eK (by omega), eR, eL]
        exact at1)) hS1
      rw [hsz, ← e1]
      exact k1
    have hF := hC.2.2.2.2.2.2.2.2.2.1
    have ho := hC.2.2.2.2.2.2.2.2.2.2.2.1
    rw [g5_] at ho
    rcases hκ with ⟨rfl, rfl, rfl⟩ | ⟨rfl, rfl, rfl⟩
    · have ho' : "java/util/ArrayList" = (ev_y z0_).cls := ho
      exact ev_newqr (t0 := 6) hC.1 hC.2.1 hC.2.2.2.2.1 (hC.2.2.2.2.2.1 _ (by rw [← ho']; exact xw_cst.2.2.2)) hF.2.2.2.2.2.2.2.2.2.1 hC.2.2.2.2.2.2.2.2.1 hS rfl h0 rfl (by omega) hcR hsR hi_ fin
    · have ho' : "FlagLaundryLaw" = (ev_y z0_).cls := ho
      exact xe_anwI (t0 := 7) hC.1 hC.2.1 hC.2.2.2.2.1 (hC.2.2.2.2.2.1 _ (by rw [← ho']; exact xw_cst.2.2.1)) hF.2.2.2.2.2.2.2.2.2.2.1.1 hC.2.2.2.2.2.2.2.2.1 hS rfl h0 rfl (by omega) hcR hsR hi_ fin
  · cases hf_
end XMO2
