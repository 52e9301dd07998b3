/-! rules of the law's own code -/
section ZLAW
variable {G : z_G} {j pc n : Nat} {ls : ev_L} {st r : List Value} {w : ev_W} {I : z_H} {o : Option Value ⊕ Nat} {w1 : ev_W} {t : List Bool}
theorem z_scr {i : Int32} {x : Int32} (h : z_all (z_is ev_LAW pc (zf_iald pc n) :: t) = true) (hi : ev_ok i (w_L w ev_S) = true) (hx : w_I w ev_S (z_n i) = x) (kk : z_all t = true → z_R G ev_LAW n ls (.int x :: r) w o w1) : z_R G ev_LAW pc ls (.int i :: .ref ev_S :: r) w o w1 := by
  obtain ⟨h1_, h2_⟩ := z_cons h
  obtain ⟨z0_, ins_, len_, hz_, hi_, hl_, hf_⟩ := z_is_of h1_
  unfold zf_iald at hf_
  split at hf_
  · have e1_ := Nat.eq_of_beq_eq_true hf_
    subst e1_ hx
    refine z_step hz_ hi_ hl_ (fun go cal => ?_) (kk h2_)
    show ev_ildS go ev_LAW pc ls w (.int i :: .ref ev_S :: r) = _
    unfold ev_ildS
    dsimp only
    rw [hi, Nat.beq_refl, Nat.beq_refl]
    rfl
  · cases hf_
theorem z_sln (h : z_all (z_is ev_LAW pc (zf_alen pc n) :: t) = true) (kk : z_all t = true → z_R G ev_LAW n ls (.int (Int32.ofNat (w_L w ev_S)) :: r) w o w1) : z_R G ev_LAW pc ls (.ref ev_S :: r) w o w1 := by
  obtain ⟨h1_, h2_⟩ := z_cons h
  obtain ⟨z0_, ins_, len_, hz_, hi_, hl_, hf_⟩ := z_is_of h1_
  unfold zf_alen at hf_
  split at hf_
  · have e1_ := Nat.eq_of_beq_eq_true hf_
    subst e1_
    refine z_step hz_ hi_ hl_ (fun go cal => ?_) (kk h2_)
    show ev_alen go ev_LAW pc ls w (.ref ev_S :: r) = _
    unfold ev_alen
    dsimp only
    rw [Nat.beq_refl, Nat.beq_refl]
    rfl
  · cases hf_
def zf_last (pc n : Nat) (z : ev_ME) (ins : Instr) (_ : Nat) : Bool := match ins with
  | .lastore => Nat.beq n (pc + 1)
  | _ => false
theorem z_last {a : Nat} {i : Int32} {x : Int64} (h : z_all (z_is j pc (zf_last pc n) :: t) = true) (ha : a < w_n w) (hk : w_K w a = 14) (hi : ev_ok i (w_L w a) = true) (kk : z_all t = true → z_R G j n ls r (w_sJ w a (z_n i) x) o w1) : z_R G j pc ls (.long x :: .int i :: .ref a :: r) w o w1 := by
  obtain ⟨h1_, h2_⟩ := z_cons h
  obtain ⟨z0_, ins_, len_, hz_, hi_, hl_, hf_⟩ := z_is_of h1_
  unfold zf_last at hf_
  split at hf_
  · have e1_ := Nat.eq_of_beq_eq_true hf_
    subst e1_
    refine z_step hz_ hi_ hl_ (fun go cal => ?_) (kk h2_)
    show (bif decide (a < w_n w) && (Nat.beq (w_K w a) 14 && ev_ok i (w_L w a)) then go j (pc + 1) ls r (w_sJ w a i.toNatClampNeg x) else none) = _
    rw [decide_eq_true ha, hk, hi]
    rfl
  · cases hf_
def zf_lald (pc n : Nat) (z : ev_ME) (ins : Instr) (_ : Nat) : Bool := match ins with
  | .laload => Nat.beq n (pc + 1)
  | _ => false
theorem z_lald {a : Nat} {i : Int32} (h : z_all (z_is j pc (zf_lald pc n) :: t) = true) (ha : a < w_n w) (hk : w_K w a = 14) (hi : ev_ok i (w_L w a) = true) (kk : z_all t = true → z_R G j n ls (.long (w_J w a (z_n i)) :: r) w o w1) : z_R G j pc ls (.int i :: .ref a :: r) w o w1 := by
  obtain ⟨h1_, h2_⟩ := z_cons h
  obtain ⟨z0_, ins_, len_, hz_, hi_, hl_, hf_⟩ := z_is_of h1_
  unfold zf_lald at hf_
  split at hf_
  · have e1_ := Nat.eq_of_beq_eq_true hf_
    subst e1_
    refine z_step hz_ hi_ hl_ (fun go cal => ?_) (kk h2_)
    show (bif decide (a < w_n w) && (Nat.beq (w_K w a) 14 && ev_ok i (w_L w a)) then go j (pc + 1) ls (.long (w_J w a i.toNatClampNeg) :: r) w else none) = _
    rw [decide_eq_true ha, hk, hi]
    rfl
  · cases hf_
def zf_dast (pc n : Nat) (z : ev_ME) (ins : Instr) (_ : Nat) : Bool := match ins with
  | .dastore => Nat.beq n (pc + 1)
  | _ => false
theorem z_dast {a : Nat} {i : Int32} {x : UInt64} (h : z_all (z_is j pc (zf_dast pc n) :: t) = true) (ha : a < w_n w) (hk : w_K w a = 15) (hi : ev_ok i (w_L w a) = true) (kk : z_all t = true → z_R G j n ls r (w_sD w a (z_n i) x) o w1) : z_R G j pc ls (.double x :: .int i :: .ref a :: r) w o w1 := by
  obtain ⟨h1_, h2_⟩ := z_cons h
  obtain ⟨z0_, ins_, len_, hz_, hi_, hl_, hf_⟩ := z_is_of h1_
  unfold zf_dast at hf_
  split at hf_
  · have e1_ := Nat.eq_of_beq_eq_true hf_
    subst e1_
    refine z_step hz_ hi_ hl_ (fun go cal => ?_) (kk h2_)
    show (bif decide (a < w_n w) && (Nat.beq (w_K w a) 15 && ev_ok i (w_L w a)) then go j (pc + 1) ls r (w_sD w a i.toNatClampNeg x) else none) = _
    rw [decide_eq_true ha, hk, hi]
    rfl
  · cases hf_
def zf_f2d (pc n : Nat) (z : ev_ME) (ins : Instr) (len : Nat) : Bool := match ins with
  | .f2d => Nat.beq n (pc + 1) && Nat.beq len 1
  | _ => false
theorem z_f2d {x : UInt32} (h : z_all (z_at j pc (zf_f2d pc n) :: t) = true) (hne : vf_n64 (FP.f2d x)) (kk : z_all t = true → z_R G j n ls (.double (FP.f2d x) :: r) w o w1) : z_R G j pc ls (.float x :: r) w o w1 := by
  obtain ⟨h1_, h2_⟩ := z_cons h
  obtain ⟨z0_, ins_, len_, hz_, hi_, hf_⟩ := z_at_of h1_
  unfold zf_f2d at hf_
  split at hf_
  · rw [Bool.and_eq_true] at hf_
    have e1_ := Nat.eq_of_beq_eq_true hf_.1
    have e2_ := Nat.eq_of_beq_eq_true hf_.2
    subst e1_ e2_
    intro D cy base ext
    exact ev_x_f2d hne (ev_hz hz_ (z_dec hz_ hi_)) (kk h2_ D cy base ext)
  · cases hf_
/-- a handler takes the exception E that comes from the call at pc: it stores it into b and answers k -/
def z_hd (j pc E b : Nat) (k : Int32) : Bool := match ev_mel j with
  | some z => decide (ev_rt z = some .int) && (match ev_han pc E (ev_hh z) with
    | some q => (match ev_cd j q with
      | some (.astore_n c, 1) => Nat.beq c b && (match ev_cd j (q + 1), ev_cd j (q + 2) with
        | some (.iconst x, 1), some (.ireturn, 1) => decide (Int32.ofInt x = k)
        | _, _ => false)
      | some (.astore c, 2) => Nat.beq c b && (match ev_cd j (q + 2), ev_cd j (q + 3) with
        | some (.iconst x, 1), some (.ireturn, 1) => decide (Int32.ofInt x = k)
        | _, _ => false)
      | _ => false)
    | none => false)
  | none => false
theorem z_hd_of {E b : Nat} {k : Int32} (h : z_hd j pc E b k = true) (hb : b < ls.length) (hc : ev_c1 ls b = true) : ∃ z q, ev_mel j = some z ∧ ev_rt z = some .int ∧ ev_han pc E (ev_hh z) = some q ∧ ev_hret j q ls = some k := by
  unfold z_hd at h
  split at h
  · rename_i z_ hz_
    rw [Bool.and_eq_true, decide_eq_true_eq] at h
    obtain ⟨h1_, h2_⟩ := h
    split at h2_
    · rename_i q_ hq_
      refine ⟨z_, q_, hz_, h1_, hq_, ?_⟩
      unfold ev_hret
      split at h2_
      · rename_i c_ hc_
        rw [Bool.and_eq_true] at h2_
        obtain ⟨g1_, g2_⟩ := h2_
        have e1_ := Nat.eq_of_beq_eq_true g1_
        rw [hc_]
        show (bif decide ((c_ : Nat) < ls.length) && ev_c1 ls (c_ : Nat) then (match ev_cd j (q_ + 1), ev_cd j (q_ + 2) with
          | some (.iconst x, 1), some (.ireturn, 1) => some (Int32.ofInt x)
          | _, _ => none) else none) = some k
        rw [e1_, decide_eq_true hb, hc]
        split at g2_
        · rename_i x_ i1_ i2_
          exact congrArg some (of_decide_eq_true g2_)
        · cases g2_
      · rename_i c_ hc_
        rw [Bool.and_eq_true] at h2_
        obtain ⟨g1_, g2_⟩ := h2_
        have e1_ := Nat.eq_of_beq_eq_true g1_
        rw [hc_]
        show (bif decide (c_ < ls.length) && ev_c1 ls c_ then (match ev_cd j (q_ + 2), ev_cd j (q_ + 3) with
          | some (.iconst x, 1), some (.ireturn, 1) => some (Int32.ofInt x)
          | _, _ => none) else none) = some k
        rw [e1_, decide_eq_true hb, hc]
        split at g2_
        · rename_i x_ i1_ i2_
          exact congrArg some (of_decide_eq_true g2_)
        · cases g2_
      · cases h2_
    · cases h2_
  · cases h
theorem z_callVh {j2 na ow a E b : Nat} {k : Int32} {as rest : List Value} (h : z_all (z_is j pc (zf_cv pc j2 na ow n) :: t) = true) (hst : st = as.reverse ++ .ref a :: rest) (hh : z_hd j pc E b k = true) (hb : Nat.blt b ls.length = true) (hc1 : ev_c1 ls b = true) (hlen : as.length = na) (hcat : Nat.ble (ev_cat rest) 8 = true) (ha : a < w_n w) (hk : w_K w a = ow) (hc : z_K G j2 (.ref a :: as) w (.inr E) w1) : z_R G j pc ls st w (.inl (some (.int k))) w1 := by
  subst hst
  obtain ⟨h1_, h2_⟩ := z_cons h
  obtain ⟨z0_, ins_, len_, hz_, hi9_, hl_, hf_⟩ := z_is_of h1_
  unfold zf_cv at hf_
  split at hf_
  · rename_i ix_ e2_ he2_
    simp only [Bool.and_eq_true] at hf_
    obtain ⟨g1_, g2_, g3_, g4_, g5_, g6_⟩ := hf_
    split at g6_
    · rename_i k_ hk9_
      have ek_ := Nat.eq_of_beq_eq_true g6_
      subst ek_
      intro D cy base ext
      obtain ⟨c1_, c2_, c3_⟩ := hc D cy base ext e2_ he2_
      have hd3_ : decode (ev_by z0_) pc = .ok (.invokevirtual ix_, 3) := by
        have h9_ : Nat.beq len_ 3 = true := hl_
        rw [← Nat.eq_of_beq_eq_true h9_]; exact z_dec hz_ hi9_
      obtain ⟨zz_, q_, y1_, y2_, y3_, y4_⟩ := z_hd_of hh (Nat.le_of_ble_eq_true hb) hc1
      have ez_ := Option.some.inj (hz_.symm.trans y1_)
      subst ez_
      exact ev_x_call hz_ (ev_z_cls hz_) c2_ c3_ (Nat.le_refl _) (Nat.le_refl _) (fun v' hv' => by cases hv') (fun E' hE' => by cases hE'; exact ⟨rfl, Or.inr ⟨q_, k, y3_, y4_, by rw [y2_]; rfl, rfl⟩⟩) (ev_runV (ls := ls) hk9_ he2_ (Nat.eq_of_beq_eq_true g2_) (by rw [hlen]; exact (Nat.eq_of_beq_eq_true g3_).symm) ha (by rw [hk]; exact (Nat.eq_of_beq_eq_true g4_).symm) (Nat.le_of_ble_eq_true hcat) g5_ hd3_ c1_)
    · cases g6_
  · cases hf_
end ZLAW
/-- two worlds that differ in numbers and counts alone -/
def z_sm (w w2 : ev_W) : Prop := w_n w2 = w_n w ∧ w_l w2 = false ∧ w_K w2 = w_K w ∧ w_L w2 = w_L w ∧ w_R w2 = w_R w
theorem z_sm_ok {G : z_G} {w w2 : ev_W} (h : z_sm w w2) (ok : z_Ok G w) : z_Ok G w2 := by
  obtain ⟨h1_, h2_, h3_, h4_, h5_⟩ := h
  obtain ⟨k1_, k2_, k3_, k4_, k5_, k6_⟩ := ok
  exact ⟨k1_, by rw [h1_]; exact k2_, h2_, by rw [h3_, h4_]; exact k4_, by rw [h5_]; exact k5_, by rw [h4_]; exact k6_⟩
theorem z_sm_fc {w w2 : ev_W} {n : Nat} (h : z_sm w w2) (hn : z_fc w n) : z_fc w2 n := ⟨by rw [h.2.2.2.2]; exact hn.1, hn.2⟩
theorem z_sm_fs {w w2 : ev_W} {n : Nat} (h : z_sm w w2) (hn : z_fs w n) : z_fs w2 n := ⟨by rw [h.2.2.2.2]; exact hn.1, hn.2⟩
theorem z_sm_th {w : ev_W} : z_sm w (w_th w) := ⟨rfl, rfl, rfl, rfl, rfl⟩
theorem z_sm_w {G : z_G} {w : ev_W} {I : z_H} (ok : z_Ok G w) : z_sm w (z_w w I) := ⟨rfl, ok.2.2.1, rfl, rfl, rfl⟩
theorem z_sm_J {G : z_G} {w : ev_W} {a i : Nat} {x : Int64} (ok : z_Ok G w) : z_sm w (w_sJ w a i x) := ⟨rfl, ok.2.2.1, rfl, rfl, rfl⟩
theorem z_sm_D {G : z_G} {w : ev_W} {a i : Nat} {x : UInt64} (ok : z_Ok G w) : z_sm w (w_sD w a i x) := ⟨rfl, ok.2.2.1, rfl, rfl, rfl⟩
theorem z_sm_tr {w w2 w3 : ev_W} (h : z_sm w w2) (g : z_sm w2 w3) : z_sm w w3 := ⟨g.1.trans h.1, g.2.1, g.2.2.1.trans h.2.2.1, g.2.2.2.1.trans h.2.2.2.1, g.2.2.2.2.trans h.2.2.2.2⟩
section ZLAW2
variable {G : z_G} {j pc n : Nat} {ls : ev_L} {st r : List Value} {w : ev_W} {I : z_H} {o : Option Value ⊕ Nat} {w1 : ev_W} {t : List Bool}
def zf_fst (pc k n : Nat) (z : ev_ME) (ins : Instr) (_ : Nat) : Bool := match ins with
  | .fstore q => Nat.beq q k && Nat.beq n (pc + 2)
  | _ => false
theorem z_fst {x : UInt32} {k : Nat} (h : z_all (z_is j pc (zf_fst pc k n) :: t) = true) (hv : Nat.blt k ls.length = true) (hc : ev_c1 ls k = true) (kk : z_all t = true → z_R G j n (ls.set k (some (.float x))) r w o w1) : z_R G j pc ls (.float x :: r) w o w1 := by
  obtain ⟨h1_, h2_⟩ := z_cons h
  obtain ⟨z0_, ins_, len_, hz_, hi_, hl_, hf_⟩ := z_is_of h1_
  have hv2_ : k < ls.length := Nat.le_of_ble_eq_true hv
  unfold zf_fst at hf_
  split at hf_
  · rename_i q_
    rw [Bool.and_eq_true] at hf_
    have e1_ := Nat.eq_of_beq_eq_true hf_.1
    have e2_ := Nat.eq_of_beq_eq_true hf_.2
    subst e1_ e2_
    exact z_step hz_ hi_ hl_ (fun go cal => by show ev_st1 go j pc ls w q_ 2 (.float x) r = _; unfold ev_st1; rw [decide_eq_true hv2_, hc]; rfl) (kk h2_)
  · cases hf_
def zf_dst (pc k n : Nat) (z : ev_ME) (ins : Instr) (_ : Nat) : Bool := match ins with
  | .dstore q => Nat.beq q k && Nat.beq n (pc + 2)
  | _ => false
theorem z_dst {x : UInt64} {k : Nat} (h : z_all (z_is j pc (zf_dst pc k n) :: t) = true) (hv : Nat.blt (k + 1) ls.length = true) (hc : ev_c1 ls k = true) (kk : z_all t = true → z_R G j n ((ls.set k (some (.double x))).set (k + 1) none) r w o w1) : z_R G j pc ls (.double x :: r) w o w1 := by
  obtain ⟨h1_, h2_⟩ := z_cons h
  obtain ⟨z0_, ins_, len_, hz_, hi_, hl_, hf_⟩ := z_is_of h1_
  have hv2_ : k + 1 < ls.length := Nat.le_of_ble_eq_true hv
  unfold zf_dst at hf_
  split at hf_
  · rename_i q_
    rw [Bool.and_eq_true] at hf_
    have e1_ := Nat.eq_of_beq_eq_true hf_.1
    have e2_ := Nat.eq_of_beq_eq_true hf_.2
    subst e1_ e2_
    exact z_step hz_ hi_ hl_ (fun go cal => by show ev_st2 go j pc ls w q_ 2 (.double x) r = _; unfold ev_st2; rw [decide_eq_true hv2_, hc]; rfl) (kk h2_)
  · cases hf_
end ZLAW2
