/-! rules for the comparisons of doubles (readyShare, meanDirt) -/
section ZDBL
variable {G : z_G} {j pc n : Nat} {ls : ev_L} {st r : List Value} {w : ev_W} {o : Option Value ⊕ Nat} {w1 : ev_W} {t : List Bool}
def zf_dald (pc n : Nat) (z : ev_ME) (ins : Instr) (_ : Nat) : Bool := match ins with
  | .daload => Nat.beq n (pc + 1)
  | _ => false
theorem z_dald {a : Nat} {i : Int32} (h : z_all (z_is j pc (zf_dald pc n) :: t) = true) (ha : a < w_n w) (hk : w_K w a = 15) (hi : ev_ok i (w_L w a) = true) (kk : z_all t = true → z_R G j n ls (.double (w_D w a (z_n i)) :: r) w o w1) : z_R G j pc ls (.int i :: .ref a :: r) w o w1 := by
  obtain ⟨h1_, h2_⟩ := z_cons h
  obtain ⟨z0_, ins_, len_, hz_, hi_, hl_, hf_⟩ := z_is_of h1_
  unfold zf_dald at hf_
  split at hf_
  · have e1_ := Nat.eq_of_beq_eq_true hf_
    subst e1_
    refine z_step hz_ hi_ hl_ (fun go cal => ?_) (kk h2_)
    show (bif decide (a < w_n w) && (Nat.beq (w_K w a) 15 && ev_ok i (w_L w a)) then go j (pc + 1) ls (.double (w_D w a i.toNatClampNeg) :: r) w else none) = _
    rw [decide_eq_true ha, hk, hi]
    rfl
  · cases hf_
def zf_fld (pc k n : Nat) (z : ev_ME) (ins : Instr) (_ : Nat) : Bool := match ins with
  | .fload q => Nat.beq q k && Nat.beq n (pc + 2)
  | _ => false
theorem z_fld {x : UInt32} {k : Nat} (h : z_all (z_is j pc (zf_fld pc k n) :: t) = true) (hv : ls[k]? = some (some (.float x))) (kk : z_all t = true → z_R G j n ls (.float x :: st) w o w1) : z_R G j pc ls st w o w1 := by
  obtain ⟨h1_, h2_⟩ := z_cons h
  obtain ⟨z0_, ins_, len_, hz_, hi_, hl_, hf_⟩ := z_is_of h1_
  unfold zf_fld at hf_
  split at hf_
  · rename_i q_
    rw [Bool.and_eq_true] at hf_
    have e1_ := Nat.eq_of_beq_eq_true hf_.1
    have e2_ := Nat.eq_of_beq_eq_true hf_.2
    subst e1_ e2_
    exact z_step hz_ hi_ hl_ (fun go cal => by show ev_ld go j pc ls w q_ 2 2 st = _; unfold ev_ld; rw [hv]; rfl) (kk h2_)
  · cases hf_
def zf_dld (pc k n : Nat) (z : ev_ME) (ins : Instr) (_ : Nat) : Bool := match ins with
  | .dload q => Nat.beq q k && Nat.beq n (pc + 2)
  | _ => false
theorem z_dld {x : UInt64} {k : Nat} (h : z_all (z_is j pc (zf_dld pc k n) :: t) = true) (hv : ls[k]? = some (some (.double x))) (kk : z_all t = true → z_R G j n ls (.double x :: st) w o w1) : z_R G j pc ls st w o w1 := by
  obtain ⟨h1_, h2_⟩ := z_cons h
  obtain ⟨z0_, ins_, len_, hz_, hi_, hl_, hf_⟩ := z_is_of h1_
  unfold zf_dld at hf_
  split at hf_
  · rename_i q_
    rw [Bool.and_eq_true] at hf_
    have e1_ := Nat.eq_of_beq_eq_true hf_.1
    have e2_ := Nat.eq_of_beq_eq_true hf_.2
    subst e1_ e2_
    exact z_step hz_ hi_ hl_ (fun go cal => by show ev_ld go j pc ls w q_ 2 3 st = _; unfold ev_ld; rw [hv]; rfl) (kk h2_)
  · cases hf_
theorem ev_x_dcmp {D : va_G} {cy : Nat → ClassId} {base : Nat} {ext : Nat → Nat} {SL : Nat} {SX : Nat → Int32} {l : Launch} {x y : UInt64} {op : CmpOp} (hd : ∀ z, ev_mel j = some z → decode (ev_by z) pc = .ok (.dcmp op, 1)) (h : ev_Snd D cy base ext SL SX l j (pc + 1) ls (.int (Op.cmpValue (FP.dcmp x y) op) :: r) w o w1) : ev_Snd D cy base ext SL SX l j pc ls (.double y :: .double x :: r) w o w1 := ev_pstep h (fun z hz p e R s m args below meth c hC H locs cells slots Q L hM hS hE hcR hsR k => lv_dcmp hC.1 hC.2.1 (hd z hz) k)
def zf_dcmp (pc n : Nat) (z : ev_ME) (ins : Instr) (len : Nat) : Bool := match ins with
  | .dcmp .l => Nat.beq n (pc + 1) && Nat.beq len 1
  | _ => false
theorem z_dcmp {x y : UInt64} (h : z_all (z_at j pc (zf_dcmp pc n) :: t) = true) (kk : z_all t = true → z_R G j n ls (.int (Op.cmpValue (FP.dcmp x y) .l) :: r) w o w1) : z_R G j pc ls (.double y :: .double x :: r) w o w1 := by
  obtain ⟨h1_, h2_⟩ := z_cons h
  obtain ⟨z0_, ins_, len_, hz_, hi_, hf_⟩ := z_at_of h1_
  unfold zf_dcmp at hf_
  split at hf_
  · rw [Bool.and_eq_true] at hf_
    have e1_ := Nat.eq_of_beq_eq_true hf_.1
    have e2_ := Nat.eq_of_beq_eq_true hf_.2
    subst e1_ e2_
    intro D cy base ext
    exact ev_x_dcmp (ev_hz hz_ (z_dec hz_ hi_)) (kk h2_ D cy base ext)
  · cases hf_
theorem dq_cmp (a : Int) : compare a a = .eq := by
  show compareOfLessAndEq a a = .eq
  unfold compareOfLessAndEq
  rw [if_neg (Int.lt_irrefl a), if_pos rfl]
theorem dq_ord {d : FP.Core.Datum} (h : d ≠ .nan) : FP.Core.order d d = some .eq := by
  cases d with
  | nan => exact absurd rfl h
  | inf s => exact congrArg some (dq_cmp _)
  | fin s c q => exact congrArg some (dq_cmp _)
theorem dq_ne {x : UInt64} (h : vf_n64 x) : FP.Core.decode FP.Core.b64 x.toNat ≠ .nan := by
  unfold vf_n64 at h
  have h1_ : (x &&& 0x7fffffffffffffff).toNat ≤ (0x7ff0000000000000 : UInt64).toNat := UInt64.le_iff_toNat_le.mp h
  rw [UInt64.toNat_and] at h1_
  have h2_ : (0x7fffffffffffffff : UInt64).toNat = 2 ^ 63 - 1 := by decide +kernel
  have h3_ : (0x7ff0000000000000 : UInt64).toNat = 9218868437227405312 := by decide +kernel
  have h4_ : (2 : Nat) ^ 63 = 9223372036854775808 := by decide +kernel
  rw [h2_, h3_, Nat.and_two_pow_sub_one_eq_mod, h4_] at h1_
  intro hc_
  have e1_ : FP.Core.b64.exps = 2048 := by decide +kernel
  have e2_ : FP.Core.b64.tails = 4503599627370496 := by decide +kernel
  unfold FP.Core.decode at hc_
  split at hc_
  · rename_i g1_
    split at hc_
    · cases hc_
    · rename_i g2_
      unfold FP.Core.fieldE at g1_
      unfold FP.Core.fieldT at g2_
      rw [e1_, e2_] at g1_
      rw [e2_] at g2_
      omega
  · split at hc_
    · cases hc_
    · cases hc_
theorem dq_same {x : UInt64} (h : vf_n64 x) : Op.cmpValue (FP.dcmp x x) .l = 0 := by
  have h1_ : FP.dcmp x x = some .eq := dq_ord (dq_ne h)
  rw [h1_]
  rfl
theorem wD_at {a i : Nat} {x : UInt64} {J : z_H} : w_D (z_w (w_sD w a i x) J) a i = x := by
  show ev_u2 (w_D w) a i x a i = x
  unfold ev_u2
  rw [if_pos rfl]
  exact if_pos rfl
end ZDBL
