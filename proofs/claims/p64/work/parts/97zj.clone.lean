/-! a bytes row is cloned, by wip/gen/p64/x64g.py -/
set_option maxRecDepth 100000 in
theorem xw_cln : Cond.methodLink "java/util/Arrays" 310 ⟨"[B", "clone", "()Ljava/lang/Object;"⟩ ∈ ev_all ∧ Cond.sameMethod "[B" "java/lang/Object" "clone" "()Ljava/lang/Object;" ∈ ev_all ∧ Cond.native ⟨"java/lang/Object", "clone", "()Ljava/lang/Object;"⟩ ∈ ev_all ∧ Cond.instanceMethod ⟨"java/lang/Object", "clone", "()Ljava/lang/Object;"⟩ ∈ ev_all ∧ Cond.selects "[B" ⟨"[B", "clone", "()Ljava/lang/Object;"⟩ ⟨"java/lang/Object", "clone", "()Ljava/lang/Object;"⟩ ∈ ev_all ∧ Cond.classLink "java/util/Arrays" 311 "[B" ∈ ev_all := by
  refine ⟨?_, ?_, ?_, ?_, ?_, ?_⟩ <;> refine List.mem_filter.mpr ⟨?_, rfl⟩
  · exact List.mem_of_getElem? (i := 1367) (by decide +kernel)
  · exact List.mem_of_getElem? (i := 1368) (by decide +kernel)
  · exact List.mem_of_getElem? (i := 1369) (by decide +kernel)
  · exact List.mem_of_getElem? (i := 1370) (by decide +kernel)
  · exact List.mem_of_getElem? (i := 1371) (by decide +kernel)
  · exact List.mem_of_getElem? (i := 1373) (by decide +kernel)
section XE3
variable {p : Program} {l : Launch} {e : Env} {R : Room} {s : State} {m : MethodId} {args : Array Value} {below : List Frame} {meth : Method} {c : Code} {H H0 : Heap} {locs : List Loc} {cells slots : Nat} {Q : State → Prop} {D : va_G} {cl : List vw_C} {tys : List (ClassId × FieldType)} {ws : va_W} {A : Nat → Prop} {a pc : Nat} {rest : List Value} {ls : Array Slot} {cc : ByteArray}
theorem xe_clone (hexec : p.tables.exec = Jvm.exec) (hb : c.code = cc) (hml : c.maxLocals = ls.size) {own ad : String} {index : Nat} (hown : s.vm.findClass own = some m.cls)
    (hlink : (Cond.methodLink own index ⟨ad, "clone", "()Ljava/lang/Object;"⟩).before args s = true) (hsame : (Cond.sameMethod ad "java/lang/Object" "clone" "()Ljava/lang/Object;").before args s = true)
    (hnat : (Cond.native ⟨"java/lang/Object", "clone", "()Ljava/lang/Object;"⟩).before args s = true) (hinst : (Cond.instanceMethod ⟨"java/lang/Object", "clone", "()Ljava/lang/Object;"⟩).before args s = true)
    (hsel : (Cond.selects ad ⟨ad, "clone", "()Ljava/lang/Object;"⟩ ⟨"java/lang/Object", "clone", "()Ljava/lang/Object;"⟩).before args s = true) (hcl : va_Nw (.castable ad "java/lang/Cloneable") s)
    (hK : va_K D cl tys s) (hP : va_P D cl ws H) (hS : va_S A H0 H locs) (q0 t0 : Nat) {cA : ClassId} {nn : Nat} {f : Nat → Int32} {ty : FieldType} (ha : ws[q0]? = some (a, .inl (cA, nn, .inl f))) (ht : tys[t0]? = some (cA, ty))
    (hnm : s.vm.findClass ad = some cA) (hfit : ∀ i, i < nn → fits ty (.int (f i)) = true)
    (hframes : 1 ≤ R.frames) (hlocals : (rest.map fun v => v.category).sum + 14 ≤ R.locals) (hcells : cells + 1 ≤ R.cells) (hslots : slots + nn ≤ R.slots) (hdg : decode cc pc = .ok (.invokevirtual index, 3))
    (kk : ∀ H1 : Heap, H1.size = H.size + 1 → (∀ q, q < H.size → H1[q]? = H[q]?) → va_at D cl (H.size, .inl (cA, nn, .inl f)) H1 → va_S A H0 H1 locs →
      W p l e R s m args below meth c H1 locs (cells + 1) (slots + nn) Q (F0 m (pc + 3) ls (.ref H.size :: rest))) : W p l e R s m args below meth c H locs cells slots Q (F0 m pc ls (.ref a :: rest)) := by
  have hsz : (vp_cell cA (nn, .inl f)).slots.size = nn := arrV_size _ _ _
  obtain ⟨c0, t0', f1, f2, f3⟩ := Cond.castable_spec (va_Nw.use (A := args) rfl hcl)
  cases hnm.symm.trans f1
  intro T hT X
  have hcellT : T.heap[a]? = some (vp_cell cA (nn, .inl f)) := by rw [hT]; exact hP q0 _ ha
  obtain ⟨-, kA, hkA, comp, hkind⟩ := State.isArrayOf_alike X.warmed.alike ((hK.2 t0 _ ht).1 0 (fun _ => .null))
  obtain ⟨-, kS, hkS, compS, hkindS⟩ := (hK.2 t0 _ ht).1 0 (fun _ => .null)
  obtain ⟨vm', X', st⟩ := X.cloneArray hexec hown hlink hsame hnat hinst hsel (a := a) (cell := vp_cell cA (nn, .inl f)) hcellT (fun k h => by cases h) (fun h => by cases h) hnm f2 f3
    (fun i v hv => by
      have hk' : T.vm.classes[cA]? = some kA := hkA
      have hi : i < nn := by
        have := (Array.getElem?_eq_some_iff.mp hv).1
        rw [hsz] at this
        exact this
      have hv2 : (arrV cA nn (fun j => .int (f j))).slots[i]? = some v := hv
      rw [arrV_read _ _ hi] at hv2
      cases hv2
      show State.fitsSlot _ cA _ _ _ = true
      simpa [State.fitsSlot, State.slotType?, hk', hkind] using hfit i hi)
    (g := F0 m pc ls (.ref a :: rest)) rfl (by rw [hml]) rfl (by rw [hb]; exact hdg) hframes (by show 2 * 0 + _ + 14 ≤ _; omega) hcells (by rw [hsz]; exact hslots) (hloader := Vm.clonesLoader_of_array hkS hkindS)
  rw [show ({ cls := (vp_cell cA (nn, .inl f)).cls, slots := (vp_cell cA (nn, .inl f)).slots } : Cell) = vp_cell cA (nn, .inl f) from rfl, hsz] at X'
  generalize hH1 : H.push (vp_cell cA (nn, .inl f)) = H1
  have z1 : H1.size = H.size + 1 := by rw [← hH1, Array.size_push]
  have e1 : H1[H.size]? = some (vp_cell cA (nn, .inl f)) := by rw [← hH1, Array.getElem?_push_size]
  have o1 : ∀ q : Nat, q < H.size → H1[q]? = H[q]? := fun q hq => by rw [← hH1, Array.getElem?_push, if_neg (Nat.ne_of_lt hq)]
  obtain ⟨t, b1, b2⟩ := kk H1 z1 o1 e1 ⟨Nat.le_trans hS.1 (by omega), fun x h1 h2 => (o1 x (Nat.lt_of_lt_of_le h1 hS.1)).trans (hS.2.1 x h1 h2), hS.2.2⟩ ((T.setVm vm').pushCell (vp_cell cA (nn, .inl f))) (by rw [← hH1, ← hT]; rfl) X'
  refine ⟨t, st t ?_, b2⟩
  rw [show ({ cls := (vp_cell cA (nn, .inl f)).cls, slots := (vp_cell cA (nn, .inl f)).slots } : Cell) = vp_cell cA (nn, .inl f) from rfl, hT]
  exact b1
end XE3
theorem ev_M_newI {D : va_G} {cy : Nat → ClassId} {base : Nat} {ext : Nat → Nat} {SL : Nat} {SX : Nat → Int32} {w : ev_W} {H H1 : Heap} {k len : Nat} {f : Nat → Int32} (h : ev_M D cy base ext SL SX w H) (hl : w_l w = true) (hlt : w_n w < 1000) (hz : H1.size = H.size + 1) (hk : ∀ q, q < H.size → H1[q]? = H[q]?)
    (ha : va_at D vwCl (base + w_n w, ev_ent cy base ext (w_cp (w_nw w k len) (w_n w) f) (w_n w)) H1) : ev_M D cy base ext SL SX (w_cp (w_nw w k len) (w_n w) f) H1 := by
  obtain ⟨h1, h2, h3, h4, h5, h6⟩ := h
  have h4' := h4 hl
  have hS : ¬ ev_S = w_n w := by unfold ev_S; omega
  refine ⟨fun i q hq => ?_, by show w_n w + 1 ≤ 1000; omega, by show base + (w_n w + 1) ≤ H1.size; omega, fun _ => by show H1.size = base + (w_n w + 1); omega, ?_, ?_⟩
  · obtain ⟨hi, rfl⟩ := ev_ws_of hq
    have hi' : i < w_n w + 1 := hi
    by_cases e : i = w_n w
    · subst e; exact ha
    · have hi2 : i < w_n w := by omega
      have e2 : ev_ent cy base ext (w_cp (w_nw w k len) (w_n w) f) i = ev_ent cy base ext w i := by
        unfold ev_ent ev_fs ev_fv w_cp w_nw w_K w_L w_R w_I w_J ev_u1
        simp only [if_neg e]
      rw [e2]
      have h9 := h1 i _ (ev_ws_at hi2)
      exact h9.kept (hk _ h9.lt)
  · show ev_u1 (w_L w) (w_n w) len ev_S = SL
    unfold ev_u1; rw [if_neg hS]; exact h5
  · show ev_u1 (ev_u1 (w_I w) (w_n w) (fun _ => 0)) (w_n w) f ev_S = SX
    unfold ev_u1; rw [if_neg hS, if_neg hS]; exact h6
section XCLN
variable {G : z_G} {j pc n : Nat} {ls : ev_L} {st r : List Value} {w : ev_W} {o : Option Value ⊕ Nat} {w1 : ev_W} {t : List Bool}
def zx_cln (pc n : Nat) (z : ev_ME) (ins : Instr) (len : Nat) : Bool := match ins with
  | .invokevirtual ix => xn pc len n 3 && (Nat.beq ix 310 && (Nat.beq (ev_own1 z) 21 && (Nat.ble 1 (ev_fr z) && Nat.ble 40 (ev_lo z))))
  | _ => false
theorem x_cln {a N : Nat} (h : z_all (z_at j pc (zx_cln pc n) :: t) = true) (ha : a < w_n w) (hk : w_K w a = 9) (hL : w_L w a = N) (hl : w_l w = true) (hn : w_n w < 1000) (hfit : ∀ i, fits .byte (.int (w_I w a i)) = true) (hcat : Nat.ble (ev_cat r) 8 = true) (kk : z_all t = true → z_R G j n ls (.ref (w_n w) :: r) (w_cp (w_nw w 9 N) (w_n w) (w_I w a)) o w1) : z_R G j pc ls (.ref a :: r) w o w1 := by
  obtain ⟨h2_, z0_, ins_, len_, hz_, hi_, hf_⟩ := z_any h
  unfold zx_cln at hf_
  split at hf_
  · rename_i ix_
    simp only [Bool.and_eq_true] at hf_
    obtain ⟨g1_, g2_, g3_, g6_, g7_⟩ := hf_
    obtain ⟨rfl, rfl⟩ := xn_of g1_
    have g4_ : ix_ = 310 := Nat.eq_of_beq_eq_true g2_
    have g5_ : ev_own1 z0_ = 21 := Nat.eq_of_beq_eq_true g3_
    have g8_ : 1 ≤ ev_fr z0_ := Nat.le_of_ble_eq_true g6_
    have g9_ : 40 ≤ ev_lo z0_ := Nat.le_of_ble_eq_true g7_
    subst g4_
    have hc8 : ev_cat r ≤ 8 := Nat.le_of_ble_eq_true hcat
    intro D cy base ext
    refine ⟨Nat.le_trans (Nat.le_succ _) (kk h2_ D cy base ext).1, Nat.le_trans (Nat.le_add_right _ N) (kk h2_ D cy base ext).2.1, fun z hz p e R s m args below meth c hC H locs cells slots Q L K N9 hM hS hE hc hs hK hN9 hend => ?_⟩
    cases hz_.symm.trans hz
    have hb1 := (kk h2_ D cy base ext).1
    have hb2 := (kk h2_ D cy base ext).2.1
    have hq1 : w_c (w_cp (w_nw w 9 N) (w_n w) (w_I w a)) = w_c w + 1 := rfl
    have hq2 : w_z (w_cp (w_nw w 9 N) (w_n w) (w_I w a)) = w_z w + N := rfl
    rw [hq1] at hb1
    rw [hq2] at hb2
    have hsz : H.size = base + w_n w := hM.2.2.2.1 hl
    have e1 : ev_ρ base ext (w_n w) = base + w_n w := ev_ρ_lt (by omega)
    have ho := hC.2.2.2.2.2.2.2.2.2.2.2.1
    rw [g5_] at ho
    have ho' : "java/util/Arrays" = (ev_y z0_).cls := ho
    have hF := hC.2.2.2.2.2.2.2.2.2.1
    have hts := hC.2.2.2.2.2.1
    have hnm : s.vm.findClass "[B" = some (cy 9) := (hC.2.2.2.2.2.2.2.2.1.2 0 (cy 9, .byte) rfl).2
    have hfr := hC.2.2.2.2.2.2.2.2.2.2.2.2.2.1
    have hlo := hC.2.2.2.2.2.2.2.2.2.2.2.2.2.2.1
    show W p G.2.2 e R s m args below meth c H locs cells slots Q (F0 m pc L (ev_v base ext (.ref a) :: r.map (ev_v base ext)))
    rw [ev_v_ref ⟨H, hM⟩ ha]
    refine xe_clone (ad := "[B") hC.1 hC.2.1 (hC.2.2.2.1.trans hE.2.1.symm) hC.2.2.2.2.1 (hts _ (by rw [← ho']; exact xw_cln.1)) (hts _ xw_cln.2.1) (hts _ xw_cln.2.2.1) (hts _ xw_cln.2.2.2.1) (hts _ xw_cln.2.2.2.2.1) hF.2.2.2.2.2.2.2.2.2.2.1.2.2.2.2.2 hC.2.2.2.2.2.2.2.2.1 hM.1 hS a 0 (cA := cy 9) (nn := N) (f := w_I w a) (ty := .byte) (by rw [ev_ws_at ha, ev_enti hk (by omega), hL]) rfl hnm (fun i _ => hfit i) (by omega) (by unfold ev_cat at hc8; rw [ev_v_cats]; omega) (by omega) (by omega) hi_ (fun H1 z1 o1 at1 hS1 => ?_)
    have eK : w_K (w_cp (w_nw w 9 N) (w_n w) (w_I w a)) (w_n w) = 9 := ev_u1_at _ _ _
    have k1 := (kk h2_ D cy base ext).2.2 z0_ hz_ p e R s m args below meth c hC H1 locs (cells + 1) (slots + N) Q L K N9 (ev_M_newI hM hl hn z1 o1 (by
      rw [← hsz, ev_enti eK (by omega)]
      show va_at D vwCl (H.size, .inl (cy 9, ev_u1 (w_L w) (w_n w) N (w_n w), .inl (ev_u1 (ev_u1 (w_I w) (w_n w) (fun _ => 0)) (w_n w) (w_I w a) (w_n w)))) H1
      rw [ev_u1_at, ev_u1_at]
      exact at1)) hS1 hE (by rw [hq1]; omega) (by rw [hq2]; omega) hK hN9 hend
    have k2 : W p G.2.2 e R s m args below meth c H1 locs (cells + 1) (slots + N) Q (F0 m (pc + 3) L (.ref (ev_ρ base ext (w_n w)) :: r.map (ev_v base ext))) := k1
    rw [e1, ← hsz] at k2
    exact k2
  · cases hf_
def zx_castA (pc n : Nat) (z : ev_ME) (ins : Instr) (len : Nat) : Bool := match ins with
  | .checkcast ix => xn pc len n 3 && (Nat.beq ix 311 && Nat.beq (ev_own1 z) 21)
  | _ => false
theorem x_castA {a : Nat} (h : z_all (z_at j pc (zx_castA pc n) :: t) = true) (ha : a < w_n w) (hk : w_K w a = 9) (kk : z_all t = true → z_R G j n ls (.ref a :: r) w o w1) : z_R G j pc ls (.ref a :: r) w o w1 := by
  obtain ⟨h2_, z0_, ins_, len_, hz_, hi_, hf_⟩ := z_any h
  unfold zx_castA at hf_
  split at hf_
  · rename_i ix_
    simp only [Bool.and_eq_true] at hf_
    obtain ⟨g1_, g2_, g3_⟩ := hf_
    obtain ⟨rfl, rfl⟩ := xn_of g1_
    have g4_ : ix_ = 311 := Nat.eq_of_beq_eq_true g2_
    have g5_ : ev_own1 z0_ = 21 := Nat.eq_of_beq_eq_true g3_
    subst g4_
    intro D cy base ext
    refine ev_pstep (kk h2_ D cy base ext) (fun z hz p e R s m args below meth c hC H locs cells slots Q L hM hS hE hcR hsR k => ?_)
    cases hz_.symm.trans hz
    have ho := hC.2.2.2.2.2.2.2.2.2.2.2.1
    rw [g5_] at ho
    have ho' : "java/util/Arrays" = (ev_y z0_).cls := ho
    have hnm : s.vm.findClass "[B" = some (cy 9) := (hC.2.2.2.2.2.2.2.2.1.2 0 (cy 9, .byte) rfl).2
    have k : W p G.2.2 e R s m args below meth c H locs cells slots Q (F0 m (pc + 3) L (ev_v base ext (.ref a) :: r.map (ev_v base ext))) := k
    show W p G.2.2 e R s m args below meth c H locs cells slots Q (F0 m pc L (ev_v base ext (.ref a) :: r.map (ev_v base ext)))
    rw [ev_v_ref ⟨H, hM⟩ ha] at k ⊢
    exact va_castA hC.1 hC.2.1 hC.2.2.2.2.1 (hC.2.2.2.2.2.1 _ (by rw [← ho']; exact xw_cln.2.2.2.2.2)) hM.1 a (by rw [ev_ws_at ha, ev_enti hk (by omega)]) hnm hi_ k
  · cases hf_
end XCLN

