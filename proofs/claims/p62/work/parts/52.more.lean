/-! rules for what the evaluator does not read: lookupswitch, iushr, int constants out of the pool, quotients of floats and doubles, arraycopy -/
section ZMORE
variable {D : va_G} {cy : Nat → ClassId} {base : Nat} {ext : Nat → Nat} {SL : Nat} {SX : Nat → Int32} {l : Launch} {j pc : Nat} {ls : ev_L} {r st : List Value} {w : ev_W} {o : Option Value ⊕ Nat} {w1 : ev_W}
theorem ev_x_iushr {x y : Int32} (hd : ∀ z, ev_mel j = some z → decode (ev_by z) pc = .ok (.iushr, 1)) (h : ev_Snd D cy base ext SL SX l j (pc + 1) ls (.int ((x.toUInt32 >>> (y.toUInt32 &&& Int32.toUInt32 31)).toInt32) :: r) w o w1) : ev_Snd D cy base ext SL SX l j pc ls (.int y :: .int x :: r) w o w1 := ev_pstep h (fun z hz p e R s m args below meth c hC H locs cells slots Q L hM hS hE hcR hsR k => lv_iushr hC.1 hC.2.1 (hd z hz) rfl k)
theorem ev_x_lsw {x : Int32} {dd : Int} {ps : Array (Int × Int)} {len q : Nat} (hd : ∀ z, ev_mel j = some z → decode (ev_by z) pc = .ok (.lookupswitch dd ps, len)) (hp : (ps.toList.zip (ps.toList.drop 1)).all (fun (a, next) => a.1 < next.1) = true) (ho : (pc : Int) + Op.lookupswitch.offset ps.toList dd x.toInt = (q : Int)) (h : ev_Snd D cy base ext SL SX l j q ls r w o w1) : ev_Snd D cy base ext SL SX l j pc ls (.int x :: r) w o w1 := ev_pstep h (fun z hz p e R s m args below meth c hC H locs cells slots Q L hM hS hE hcR hsR k => lv_lookup hC.1 hC.2.1 (hd z hz) hp rfl ho k)
theorem ev_x_fdiv {x y : UInt32} (hne : vf_n32 (FP.fdiv x y)) (hd : ∀ z, ev_mel j = some z → decode (ev_by z) pc = .ok (.fdiv, 1)) (h : ev_Snd D cy base ext SL SX l j (pc + 1) ls (.float (FP.fdiv x y) :: r) w o w1) : ev_Snd D cy base ext SL SX l j pc ls (.float y :: .float x :: r) w o w1 := ev_pstep h (fun z hz p e R s m args below meth c hC H locs cells slots Q L hM hS hE hcR hsR k => lv_fdiv hC.1 hC.2.1 (hd z hz) hne k)
theorem ev_x_ddiv {x y : UInt64} (hne : vf_n64 (FP.ddiv x y)) (hd : ∀ z, ev_mel j = some z → decode (ev_by z) pc = .ok (.ddiv, 1)) (h : ev_Snd D cy base ext SL SX l j (pc + 1) ls (.double (FP.ddiv x y) :: r) w o w1) : ev_Snd D cy base ext SL SX l j pc ls (.double y :: .double x :: r) w o w1 := ev_pstep h (fun z hz p e R s m args below meth c hC H locs cells slots Q L hM hS hE hcR hsR k => lv_ddiv hC.1 hC.2.1 (hd z hz) hne k)
theorem ev_x_f2d {x : UInt32} (hne : vf_n64 (FP.f2d x)) (hd : ∀ z, ev_mel j = some z → decode (ev_by z) pc = .ok (.f2d, 1)) (h : ev_Snd D cy base ext SL SX l j (pc + 1) ls (.double (FP.f2d x) :: r) w o w1) : ev_Snd D cy base ext SL SX l j pc ls (.float x :: r) w o w1 := ev_pstep h (fun z hz p e R s m args below meth c hC H locs cells slots Q L hM hS hE hcR hsR k => lv_f2d hC.1 hC.2.1 (hd z hz) hne k)
theorem ev_x_ldcw {x : Int32} {ix : Nat} {q : Nat × Nat × Int32} (hq : q ∈ ev_cst) (h1 : ∀ z, ev_mel j = some z → ev_own1 z = q.1) (h2 : q.2.1 = ix) (h3 : q.2.2 = x) (hd : ∀ z, ev_mel j = some z → decode (ev_by z) pc = .ok (.ldc_w ix, 3)) (h : ev_Snd D cy base ext SL SX l j (pc + 3) ls (.int x :: st) w o w1) : ev_Snd D cy base ext SL SX l j pc ls st w o w1 := ev_pstep h (fun z hz p e R s m args below meth c hC H locs cells slots Q L hM hS hE hcR hsR k => by
  have hw_ : Cond.constant (ev_own.getD q.1 "") q.2.1 q.2.2 ∈ ev_all := ev_all_in ev_cstw_in (List.mem_map.mpr ⟨q, hq, rfl⟩)
  rw [← h1 z hz, hC.2.2.2.2.2.2.2.2.2.2.2.1, h2, h3] at hw_
  exact lv_ldcw hC.1 hC.2.1 hC.2.2.2.2.1 (hC.2.2.2.2.2.1 _ hw_) (hd z hz) k)
theorem w_cp_w (a : Nat) (f : Nat → Int32) : (w_cp w a f).1 = w.1 ∧ w_c (w_cp w a f) = w_c w ∧ w_z (w_cp w a f) = w_z w ∧ w_l (w_cp w a f) = w_l w ∧ w_K (w_cp w a f) = w_K w ∧ w_L (w_cp w a f) = w_L w ∧ (∀ b, b ≠ a → w_I (w_cp w a f) b = w_I w b ∧ w_R (w_cp w a f) b = w_R w b ∧ w_J (w_cp w a f) b = w_J w b ∧ w_D (w_cp w a f) b = w_D w b) :=
  ⟨rfl, rfl, rfl, rfl, rfl, rfl, fun b hb => ⟨if_neg hb, rfl, rfl, rfl⟩⟩
theorem w_cp_at (a : Nat) (f : Nat → Int32) : w_I (w_cp w a f) a = f := if_pos rfl
/-- what a copy of the first n ints leaves -/
def z_cpf (f g : Nat → Int32) (n : Nat) : Nat → Int32 := va_cpy f g 0 0 n
theorem ev_x_acopy {a b N M ix : Nat} {n : Int32} (hl : w_l w = false) (ha : a < w_n w) (hka : w_K w a = 10) (hb : b < w_n w) (hkb : w_K w b = 10) (hLa : w_L w a = N) (hLb : w_L w b = M) (hn : ¬ n < 0) (hN : n.toNatClampNeg ≤ N) (hM9 : n.toNatClampNeg ≤ M) (hcat : ev_cat r ≤ 8) (hx : ∀ z, ev_mel j = some z → ev_look2 (ev_own1 z) ix ev_nat = some 104 ∧ 1 ≤ ev_fr z ∧ 40 ≤ ev_lo z) (hd : ∀ z, ev_mel j = some z → decode (ev_by z) pc = .ok (.invokestatic ix, 3))
    (h : ev_Snd D cy base ext SL SX l j (pc + 3) ls r (w_cp w b (z_cpf (w_I w a) (w_I w b) n.toNatClampNeg)) o w1) : ev_Snd D cy base ext SL SX l j pc ls (.int n :: .int 0 :: .ref b :: .int 0 :: .ref a :: r) w o w1 := by
  refine ⟨h.1, h.2.1, fun z hz p e R s m args below meth c hC H locs cells slots Q L K N9 hM hS hE hc hs hK hN9 hend => ?_⟩
  obtain ⟨x1_, x2_, x3_⟩ := hx z hz
  have hw_ : Cond.methodLink (ev_own.getD (ev_own1 z) "") ix (ev_natn 104) ∈ ev_all := by
    obtain ⟨l9_, h3_, h4_⟩ := ev_look2_mem x1_
    exact ev_all_in ev_natw_in (List.mem_flatMap.mpr ⟨_, h3_, List.mem_map.mpr ⟨_, h4_, rfl⟩⟩)
  rw [hC.2.2.2.2.2.2.2.2.2.2.2.1] at hw_
  have hjd_ : ∀ (i : Nat) (cw : Cond), ev_jdw[i]? = some cw → cw ∈ ev_all := fun i cw hi => ev_all_in ev_jdw_in (List.mem_of_getElem? hi)
  show W p l e R s m args below meth c H locs cells slots Q (F0 m pc L (.int n :: .int 0 :: ev_v base ext (.ref b) :: .int 0 :: ev_v base ext (.ref a) :: r.map (ev_v base ext)))
  rw [ev_v_ref ⟨H, hM⟩ ha, ev_v_ref ⟨H, hM⟩ hb]
  have hSH_ : va_S (ev_A base) H H locs := ⟨Nat.le_refl _, fun _ _ _ => rfl, hS.2.2⟩
  have h0_ : (0 : Int32).toNatClampNeg = 0 := by decide
  refine va_copyi hC.1 hC.2.1 (hC.2.2.2.1.trans hE.2.1.symm) hC.2.2.2.2.1 (hC.2.2.2.2.2.1 _ hw_) (hC.2.2.2.2.2.1 _ (hjd_ 10 _ rfl)) (hC.2.2.2.2.2.1 _ (hjd_ 9 _ rfl)) (hC.2.2.2.2.2.1 _ (hjd_ 11 _ rfl)) hC.2.2.2.2.2.2.2.2.1 hM.1 (ev_dis cy base ext w) hSH_ a b 1 1 (a0 := base + a) (a := base + b) (c0 := cy 10) (c1 := cy 10) (n0 := N) (n1 := M) (f := w_I w a) (g := w_I w b) (ty := .int)
    (by rw [ev_ws_at ha, ev_enti hka (by omega), hLa]) (by rw [ev_ws_at hb, ev_enti hkb (by omega), hLb]) rfl rfl rfl (by decide) (by decide) hn (by rw [h0_]; omega) (by rw [h0_]; omega) (fun _ _ => rfl) (by have := hC.2.2.2.2.2.2.2.2.2.2.2.2.2.1; omega) (by
      have h7_ := hC.2.2.2.2.2.2.2.2.2.2.2.2.2.2.1
      unfold ev_cat at hcat
      rw [ev_v_cats]
      have h8_ : nativeFrameWords "java/lang/System" "arraycopy" 5 ≤ 7 := by decide
      omega) (hd z hz) (fun H1 locs1 hP1 hD1 hS1 => ?_)
  rw [h0_] at hP1
  have hw9_ := w_cp_w (w := w) b (z_cpf (w_I w a) (w_I w b) n.toNatClampNeg)
  have hsz_ : H.size ≤ H1.size := hS1.1
  have hM1_ : ev_M D cy base ext SL SX (w_cp w b (z_cpf (w_I w a) (w_I w b) n.toNatClampNeg)) H1 := by
    obtain ⟨m1_, m2_, m3_, m4_, m5_, m6_⟩ := hM
    have hS9_ : ¬ ev_S = b := by unfold ev_S; omega
    refine ⟨?_, m2_, Nat.le_trans m3_ hsz_, fun q => (by rw [hw9_.2.2.2.1, hl] at q; cases q), m5_, (by rw [(hw9_.2.2.2.2.2.2 _ hS9_).1]; exact m6_)⟩
    have e1_ : (ev_ws cy base ext w).set b (base + b, ev_ent cy base ext (w_cp w b (z_cpf (w_I w a) (w_I w b) n.toNatClampNeg)) b) = ev_ws cy base ext (w_cp w b (z_cpf (w_I w a) (w_I w b) n.toNatClampNeg)) := ev_ws_set rfl (fun b9 hb9 => by
      obtain ⟨i1_, i2_, i3_, i4_⟩ := hw9_.2.2.2.2.2.2 b9 hb9
      unfold ev_ent ev_fs ev_fv
      rw [hw9_.2.2.2.2.1, hw9_.2.2.2.2.2.1, i1_, i2_, i3_, i4_])
    rw [← e1_, ev_enti (w := w_cp w b (z_cpf (w_I w a) (w_I w b) n.toNatClampNeg)) (κ := 10) hkb (by omega), w_cp_at, show w_L (w_cp w b (z_cpf (w_I w a) (w_I w b) n.toNatClampNeg)) b = M from hLb]
    exact hP1
  have hS2_ : va_S (ev_A base) s.heap H1 locs1 := ⟨Nat.le_trans hS.1 hsz_, fun q hq hA => by
    rw [hS1.2.1 q (Nat.lt_of_lt_of_le hq hS.1) hA]
    exact hS.2.1 q hq hA, hS1.2.2⟩
  exact h.2.2 z hz p e R s m args below meth c hC H1 locs1 cells slots Q L K N9 hM1_ hS2_ hE hc hs hK hN9 hend
end ZMORE
section ZMOR2
variable {G : z_G} {j pc n : Nat} {ls : ev_L} {st r : List Value} {w : ev_W} {I : z_H} {o : Option Value ⊕ Nat} {w1 : ev_W} {t : List Bool}
/-- a place with this instruction, of this length -/
def z_at (j pc : Nat) (f : ev_ME → Instr → Nat → Bool) : Bool := match z_i j pc, ev_mel j with
  | some q, some z => f z q.1 q.2
  | _, _ => false
theorem z_at_of {f : ev_ME → Instr → Nat → Bool} (h : z_at j pc f = true) : ∃ z0 ins len, ev_mel j = some z0 ∧ z_i j pc = some (ins, len) ∧ f z0 ins len = true := by
  unfold z_at at h
  split at h
  · rename_i q_ z_ hq_ hz_
    exact ⟨z_, q_.1, q_.2, hz_, hq_, h⟩
  · cases h
def zf_iushr (pc n : Nat) (z : ev_ME) (ins : Instr) (len : Nat) : Bool := match ins with
  | .iushr => Nat.beq n (pc + 1) && Nat.beq len 1
  | _ => false
theorem z_iushr {x y : Int32} (h : z_all (z_at j pc (zf_iushr pc n) :: t) = true) (kk : z_all t = true → z_R G j n ls (.int ((x.toUInt32 >>> (y.toUInt32 &&& Int32.toUInt32 31)).toInt32) :: r) w o w1) : z_R G j pc ls (.int y :: .int x :: r) w o w1 := by
  obtain ⟨h1_, h2_⟩ := z_cons h
  obtain ⟨z0_, ins_, len_, hz_, hi_, hf_⟩ := z_at_of h1_
  unfold zf_iushr at hf_
  split at hf_
  · rw [Bool.and_eq_true] at hf_
    have e1_ := Nat.eq_of_beq_eq_true hf_.1
    have e2_ := Nat.eq_of_beq_eq_true hf_.2
    subst e1_ e2_
    intro D cy base ext
    exact ev_x_iushr (ev_hz hz_ (z_dec hz_ hi_)) (kk h2_ D cy base ext)
  · cases hf_
def zf_fdiv (pc n : Nat) (z : ev_ME) (ins : Instr) (len : Nat) : Bool := match ins with
  | .fdiv => Nat.beq n (pc + 1) && Nat.beq len 1
  | _ => false
theorem z_fdiv {x y : UInt32} (h : z_all (z_at j pc (zf_fdiv pc n) :: t) = true) (hne : vf_n32 (FP.fdiv x y)) (kk : z_all t = true → z_R G j n ls (.float (FP.fdiv x y) :: r) w o w1) : z_R G j pc ls (.float y :: .float x :: r) w o w1 := by
  obtain ⟨h1_, h2_⟩ := z_cons h
  obtain ⟨z0_, ins_, len_, hz_, hi_, hf_⟩ := z_at_of h1_
  unfold zf_fdiv at hf_
  split at hf_
  · rw [Bool.and_eq_true] at hf_
    have e1_ := Nat.eq_of_beq_eq_true hf_.1
    have e2_ := Nat.eq_of_beq_eq_true hf_.2
    subst e1_ e2_
    intro D cy base ext
    exact ev_x_fdiv hne (ev_hz hz_ (z_dec hz_ hi_)) (kk h2_ D cy base ext)
  · cases hf_
def zf_ddiv (pc n : Nat) (z : ev_ME) (ins : Instr) (len : Nat) : Bool := match ins with
  | .ddiv => Nat.beq n (pc + 1) && Nat.beq len 1
  | _ => false
theorem z_ddiv {x y : UInt64} (h : z_all (z_at j pc (zf_ddiv pc n) :: t) = true) (hne : vf_n64 (FP.ddiv x y)) (kk : z_all t = true → z_R G j n ls (.double (FP.ddiv x y) :: r) w o w1) : z_R G j pc ls (.double y :: .double x :: r) w o w1 := by
  obtain ⟨h1_, h2_⟩ := z_cons h
  obtain ⟨z0_, ins_, len_, hz_, hi_, hf_⟩ := z_at_of h1_
  unfold zf_ddiv at hf_
  split at hf_
  · rw [Bool.and_eq_true] at hf_
    have e1_ := Nat.eq_of_beq_eq_true hf_.1
    have e2_ := Nat.eq_of_beq_eq_true hf_.2
    subst e1_ e2_
    intro D cy base ext
    exact ev_x_ddiv hne (ev_hz hz_ (z_dec hz_ hi_)) (kk h2_ D cy base ext)
  · cases hf_
def zf_ldcw (pc : Nat) (x : Int32) (n : Nat) (z : ev_ME) (ins : Instr) (len : Nat) : Bool := match ins with
  | .ldc_w ix => Nat.beq n (pc + 3) && (Nat.beq len 3 && decide ((ev_own1 z, ix, x) ∈ ev_cst))
  | _ => false
theorem z_ldcw {x : Int32} (h : z_all (z_at j pc (zf_ldcw pc x n) :: t) = true) (kk : z_all t = true → z_R G j n ls (.int x :: st) w o w1) : z_R G j pc ls st w o w1 := by
  obtain ⟨h1_, h2_⟩ := z_cons h
  obtain ⟨z0_, ins_, len_, hz_, hi_, hf_⟩ := z_at_of h1_
  unfold zf_ldcw at hf_
  split at hf_
  · rw [Bool.and_eq_true, Bool.and_eq_true, decide_eq_true_eq] at hf_
    have e1_ := Nat.eq_of_beq_eq_true hf_.1
    have e2_ := Nat.eq_of_beq_eq_true hf_.2.1
    subst e1_ e2_
    intro D cy base ext
    exact ev_x_ldcw hf_.2.2 (ev_hz hz_ rfl) rfl rfl (ev_hz hz_ (z_dec hz_ hi_)) (kk h2_ D cy base ext)
  · cases hf_
def z_lgs (pc : Nat) : List (Int × Int) → List (Int32 × Nat) → Bool
  | [], [] => true
  | p :: r, q :: l => decide (q.1.toInt = p.1) && (decide ((pc : Int) + p.2 = (q.2 : Int)) && z_lgs pc r l)
  | _, _ => false
theorem z_lgs_of {d : Nat} {dd : Int} {x : Int32} (hd : (pc : Int) + dd = (d : Int)) : ∀ {ps : List (Int × Int)} {l : List (Int32 × Nat)}, z_lgs pc ps l = true → (pc : Int) + Op.lookupswitch.offset ps dd x.toInt = ((z_sw l d x : Nat) : Int)
  | [], [], _ => hd
  | [], _ :: _, h => by cases h
  | _ :: _, [], h => by cases h
  | p :: r, q :: l, h => by
    unfold z_lgs at h
    rw [Bool.and_eq_true, Bool.and_eq_true, decide_eq_true_eq, decide_eq_true_eq] at h
    obtain ⟨h1_, h2_, h3_⟩ := h
    have ih_ := z_lgs_of (x := x) hd h3_
    unfold z_sw
    by_cases hx_ : x = q.1
    · rw [if_pos hx_]
      unfold Op.lookupswitch.offset
      have e1_ : p.1 = x.toInt := by rw [hx_, h1_]
      simp only [e1_]
      first
        | (rw [if_pos rfl]; exact h2_)
        | (simp only [BEq.rfl, beq_self_eq_true, if_true]; exact h2_)
    · rw [if_neg hx_]
      unfold Op.lookupswitch.offset
      have e1_ : ¬ p.1 = x.toInt := fun h9_ => hx_ (Int32.toInt_inj.mp (by rw [← h9_, h1_]))
      first
        | (rw [if_neg e1_]; exact ih_)
        | (rw [if_neg (by rw [beq_iff_eq]; exact e1_)]; exact ih_)
def zf_lsw (pc : Nat) (l : List (Int32 × Nat)) (d : Nat) (z : ev_ME) (ins : Instr) (_ : Nat) : Bool := match ins with
  | .lookupswitch dd ps => decide ((pc : Int) + dd = (d : Int)) && ((ps.toList.zip (ps.toList.drop 1)).all (fun (a, next) => a.1 < next.1) && z_lgs pc ps.toList l)
  | _ => false
theorem z_lsw {d : Nat} {l : List (Int32 × Nat)} {x : Int32} (h : z_all (z_at j pc (zf_lsw pc l d) :: t) = true) (kk : z_R G j (z_sw l d x) ls r w o w1) : z_R G j pc ls (.int x :: r) w o w1 := by
  obtain ⟨h1_, h2_⟩ := z_cons h
  obtain ⟨z0_, ins_, len_, hz_, hi_, hf_⟩ := z_at_of h1_
  unfold zf_lsw at hf_
  split at hf_
  · rw [Bool.and_eq_true, Bool.and_eq_true, decide_eq_true_eq] at hf_
    obtain ⟨g1_, g2_, g3_⟩ := hf_
    intro D cy base ext
    exact ev_x_lsw (ev_hz hz_ (z_dec hz_ hi_)) g2_ (z_lgs_of g1_ g3_) (kk D cy base ext)
  · cases hf_
def zf_acp (pc n : Nat) (z : ev_ME) (ins : Instr) (len : Nat) : Bool := match ins with
  | .invokestatic ix => Nat.beq n (pc + 3) && (Nat.beq len 3 && (Nat.ble 1 (ev_fr z) && (Nat.ble 40 (ev_lo z) && (match ev_look2 (ev_own1 z) ix ev_nat with | some k => Nat.beq k 104 | none => false))))
  | _ => false
/-- copying the first m ints of a to b -/
def z_cpI (I : z_H) (a b m : Nat) : z_H := ev_u1 I b (z_cpf (I a) (I b) m)
theorem y_acp {a b N M m : Nat} {x : Int32} (ok : z_Ok G w) (h : z_all (z_at j pc (zf_acp pc n) :: t) = true) (ha : zt 10 a = true) (hb : zt 10 b = true) (hLa : z_l a = N) (hLb : z_l b = M) (hx : x.toNatClampNeg = m) (hx0 : ¬ x < 0) (hN : Nat.ble m N = true) (hM : Nat.ble m M = true) (hcat : Nat.ble (ev_cat r) 8 = true) (kk : z_all t = true → z_R G j n ls r (z_w w (z_cpI I a b m)) o w1) : z_R G j pc ls (.int x :: .int 0 :: .ref b :: .int 0 :: .ref a :: r) (z_w w I) o w1 := by
  obtain ⟨h1_, h2_⟩ := z_cons h
  obtain ⟨z0_, ins_, len_, hz_, hi_, hf_⟩ := z_at_of h1_
  unfold zf_acp at hf_
  split at hf_
  · rename_i ix_
    simp only [Bool.and_eq_true] at hf_
    obtain ⟨g1_, g2_, g3_, g4_, g5_⟩ := hf_
    have e1_ := Nat.eq_of_beq_eq_true g1_
    have e2_ := Nat.eq_of_beq_eq_true g2_
    subst e1_ e2_
    split at g5_
    · rename_i k_ hk_
      rw [Nat.eq_of_beq_eq_true g5_] at hk_
      intro D cy base ext
      obtain ⟨a1_, a2_, a3_, a4_⟩ := zt_n ok ha
      obtain ⟨b1_, b2_, b3_, b4_⟩ := zt_n ok hb
      refine ev_x_acopy (w := z_w w I) (N := N) (M := M) (show w_l w = false from ok.2.2.1) a1_ a3_ b1_ b3_ (by rw [← hLa]; exact a4_) (by rw [← hLb]; exact b4_) hx0 (by rw [hx]; exact Nat.le_of_ble_eq_true hN) (by rw [hx]; exact Nat.le_of_ble_eq_true hM) (Nat.le_of_ble_eq_true hcat) (ev_hz hz_ ⟨hk_, Nat.le_of_ble_eq_true g3_, Nat.le_of_ble_eq_true g4_⟩) (ev_hz hz_ (z_dec hz_ hi_)) ?_
      rw [hx]
      exact kk h2_ D cy base ext
    · cases g5_
  · cases hf_
end ZMOR2
