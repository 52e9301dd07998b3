/-! rules for the law's and the JDK's instructions, by wip/gen/p64/x64.py -/
theorem z_any {j pc : Nat} {t : List Bool} {f : ev_ME → Instr → Nat → Bool} (h : z_all (z_at j pc f :: t) = true) : z_all t = true ∧ ∃ z0 ins len, ev_mel j = some z0 ∧ decode (ev_by z0) pc = .ok (ins, len) ∧ f z0 ins len = true := by
  obtain ⟨h1_, h2_⟩ := z_cons h
  obtain ⟨z0_, ins_, len_, hz_, hi_, hf_⟩ := z_at_of h1_
  exact ⟨h2_, z0_, ins_, len_, hz_, z_dec hz_ hi_, hf_⟩
def xn (pc len n l9 : Nat) : Bool := Nat.beq n (pc + l9) && Nat.beq len l9
theorem xn_of {pc len n l9 : Nat} (h : xn pc len n l9 = true) : n = pc + l9 ∧ len = l9 := by
  unfold xn at h
  rw [Bool.and_eq_true] at h
  exact ⟨Nat.eq_of_beq_eq_true h.1, Nat.eq_of_beq_eq_true h.2⟩
def xj (pc : Nat) (off : Int) (q : Nat) : Bool := decide ((pc : Int) + off = (q : Int))
section XRUL
variable {G : z_G} {j pc n : Nat} {ls : ev_L} {st r : List Value} {w : ev_W} {o : Option Value ⊕ Nat} {w1 : ev_W} {t : List Bool}
def zx_null (pc n : Nat) (z : ev_ME) (ins : Instr) (len : Nat) : Bool := match ins with
  | .aconst_null => xn pc len n 1
  | _ => false
theorem x_null {u_ : Unit} (h : z_all (z_at j pc (zx_null pc n) :: t) = true) (kk : z_all t = true → z_R G j n ls (.null :: st) w o w1) : z_R G j pc ls (st) w o w1 := by
  obtain ⟨h2_, z0_, ins_, len_, hz_, hi_, hf_⟩ := z_any h
  unfold zx_null at hf_
  split at hf_
  · obtain ⟨rfl, rfl⟩ := xn_of hf_
    intro D cy base ext
    refine ev_pstep (kk h2_ D cy base ext) (fun z hz p e R s m args below meth c hC H locs cells slots Q L hM hS hE hcR hsR k => ?_)
    cases hz_.symm.trans hz
    have hd := hi_
    exact lv_null hC.1 hC.2.1 hd k
  · cases hf_
def zx_ineg (pc n : Nat) (z : ev_ME) (ins : Instr) (len : Nat) : Bool := match ins with
  | .ineg => xn pc len n 1
  | _ => false
theorem x_ineg {x : Int32} (h : z_all (z_at j pc (zx_ineg pc n) :: t) = true) (kk : z_all t = true → z_R G j n ls (.int (-x) :: r) w o w1) : z_R G j pc ls (.int x :: r) w o w1 := by
  obtain ⟨h2_, z0_, ins_, len_, hz_, hi_, hf_⟩ := z_any h
  unfold zx_ineg at hf_
  split at hf_
  · obtain ⟨rfl, rfl⟩ := xn_of hf_
    intro D cy base ext
    refine ev_pstep (kk h2_ D cy base ext) (fun z hz p e R s m args below meth c hC H locs cells slots Q L hM hS hE hcR hsR k => ?_)
    cases hz_.symm.trans hz
    have hd := hi_
    exact lv_ineg hC.1 hC.2.1 hd k
  · cases hf_
def zx_i2c (pc n : Nat) (z : ev_ME) (ins : Instr) (len : Nat) : Bool := match ins with
  | .i2c => xn pc len n 1
  | _ => false
theorem x_i2c {x : Int32} (h : z_all (z_at j pc (zx_i2c pc n) :: t) = true) (kk : z_all t = true → z_R G j n ls (.int ((x.toUInt32 % 65536).toInt32) :: r) w o w1) : z_R G j pc ls (.int x :: r) w o w1 := by
  obtain ⟨h2_, z0_, ins_, len_, hz_, hi_, hf_⟩ := z_any h
  unfold zx_i2c at hf_
  split at hf_
  · obtain ⟨rfl, rfl⟩ := xn_of hf_
    intro D cy base ext
    refine ev_pstep (kk h2_ D cy base ext) (fun z hz p e R s m args below meth c hC H locs cells slots Q L hM hS hE hcR hsR k => ?_)
    cases hz_.symm.trans hz
    have hd := hi_
    exact lv_i2c hC.1 hC.2.1 hd rfl k
  · cases hf_
def zx_dup (pc n : Nat) (z : ev_ME) (ins : Instr) (len : Nat) : Bool := match ins with
  | .dup => xn pc len n 1
  | _ => false
theorem x_dup {v : Value} (h : z_all (z_at j pc (zx_dup pc n) :: t) = true) (hv : v.category = 1) (kk : z_all t = true → z_R G j n ls (v :: v :: r) w o w1) : z_R G j pc ls (v :: r) w o w1 := by
  obtain ⟨h2_, z0_, ins_, len_, hz_, hi_, hf_⟩ := z_any h
  unfold zx_dup at hf_
  split at hf_
  · obtain ⟨rfl, rfl⟩ := xn_of hf_
    intro D cy base ext
    refine ev_pstep (kk h2_ D cy base ext) (fun z hz p e R s m args below meth c hC H locs cells slots Q L hM hS hE hcR hsR k => ?_)
    cases hz_.symm.trans hz
    have hd := hi_
    exact lv_dup hC.1 hC.2.1 hd (by rw [ev_v_cat]; exact hv) k
  · cases hf_
def zx_pop (pc n : Nat) (z : ev_ME) (ins : Instr) (len : Nat) : Bool := match ins with
  | .pop => xn pc len n 1
  | _ => false
theorem x_pop {v : Value} (h : z_all (z_at j pc (zx_pop pc n) :: t) = true) (hv : v.category = 1) (kk : z_all t = true → z_R G j n ls (r) w o w1) : z_R G j pc ls (v :: r) w o w1 := by
  obtain ⟨h2_, z0_, ins_, len_, hz_, hi_, hf_⟩ := z_any h
  unfold zx_pop at hf_
  split at hf_
  · obtain ⟨rfl, rfl⟩ := xn_of hf_
    intro D cy base ext
    refine ev_pstep (kk h2_ D cy base ext) (fun z hz p e R s m args below meth c hC H locs cells slots Q L hM hS hE hcR hsR k => ?_)
    cases hz_.symm.trans hz
    have hd := hi_
    exact lv_pop hC.1 hC.2.1 hd (by rw [ev_v_cat]; exact hv) k
  · cases hf_
def zx_dupx1 (pc n : Nat) (z : ev_ME) (ins : Instr) (len : Nat) : Bool := match ins with
  | .dup_x1 => xn pc len n 1
  | _ => false
theorem x_dupx1 {v u : Value} (h : z_all (z_at j pc (zx_dupx1 pc n) :: t) = true) (hv : v.category = 1) (hu : u.category = 1) (kk : z_all t = true → z_R G j n ls (v :: u :: v :: r) w o w1) : z_R G j pc ls (v :: u :: r) w o w1 := by
  obtain ⟨h2_, z0_, ins_, len_, hz_, hi_, hf_⟩ := z_any h
  unfold zx_dupx1 at hf_
  split at hf_
  · obtain ⟨rfl, rfl⟩ := xn_of hf_
    intro D cy base ext
    refine ev_pstep (kk h2_ D cy base ext) (fun z hz p e R s m args below meth c hC H locs cells slots Q L hM hS hE hcR hsR k => ?_)
    cases hz_.symm.trans hz
    have hd := hi_
    exact lv_dup_x1 hC.1 hC.2.1 hd (by rw [ev_v_cat]; exact hv) (by rw [ev_v_cat]; exact hu) k
  · cases hf_
def zx_ladd (pc n : Nat) (z : ev_ME) (ins : Instr) (len : Nat) : Bool := match ins with
  | .ladd => xn pc len n 1
  | _ => false
theorem x_ladd {x y : Int64} (h : z_all (z_at j pc (zx_ladd pc n) :: t) = true) (kk : z_all t = true → z_R G j n ls (.long (x + y) :: r) w o w1) : z_R G j pc ls (.long y :: .long x :: r) w o w1 := by
  obtain ⟨h2_, z0_, ins_, len_, hz_, hi_, hf_⟩ := z_any h
  unfold zx_ladd at hf_
  split at hf_
  · obtain ⟨rfl, rfl⟩ := xn_of hf_
    intro D cy base ext
    refine ev_pstep (kk h2_ D cy base ext) (fun z hz p e R s m args below meth c hC H locs cells slots Q L hM hS hE hcR hsR k => ?_)
    cases hz_.symm.trans hz
    have hd := hi_
    exact lv_ladd hC.1 hC.2.1 hd k
  · cases hf_
def zx_lmul (pc n : Nat) (z : ev_ME) (ins : Instr) (len : Nat) : Bool := match ins with
  | .lmul => xn pc len n 1
  | _ => false
theorem x_lmul {x y : Int64} (h : z_all (z_at j pc (zx_lmul pc n) :: t) = true) (kk : z_all t = true → z_R G j n ls (.long (x * y) :: r) w o w1) : z_R G j pc ls (.long y :: .long x :: r) w o w1 := by
  obtain ⟨h2_, z0_, ins_, len_, hz_, hi_, hf_⟩ := z_any h
  unfold zx_lmul at hf_
  split at hf_
  · obtain ⟨rfl, rfl⟩ := xn_of hf_
    intro D cy base ext
    refine ev_pstep (kk h2_ D cy base ext) (fun z hz p e R s m args below meth c hC H locs cells slots Q L hM hS hE hcR hsR k => ?_)
    cases hz_.symm.trans hz
    have hd := hi_
    exact lv_lmul hC.1 hC.2.1 hd k
  · cases hf_
def zx_lxor (pc n : Nat) (z : ev_ME) (ins : Instr) (len : Nat) : Bool := match ins with
  | .lxor => xn pc len n 1
  | _ => false
theorem x_lxor {x y : Int64} (h : z_all (z_at j pc (zx_lxor pc n) :: t) = true) (kk : z_all t = true → z_R G j n ls (.long (x ^^^ y) :: r) w o w1) : z_R G j pc ls (.long y :: .long x :: r) w o w1 := by
  obtain ⟨h2_, z0_, ins_, len_, hz_, hi_, hf_⟩ := z_any h
  unfold zx_lxor at hf_
  split at hf_
  · obtain ⟨rfl, rfl⟩ := xn_of hf_
    intro D cy base ext
    refine ev_pstep (kk h2_ D cy base ext) (fun z hz p e R s m args below meth c hC H locs cells slots Q L hM hS hE hcR hsR k => ?_)
    cases hz_.symm.trans hz
    have hd := hi_
    exact lv_lxor hC.1 hC.2.1 hd k
  · cases hf_
def zx_ilong (pc n : Nat) (z : ev_ME) (ins : Instr) (len : Nat) : Bool := match ins with
  | .i2l => xn pc len n 1
  | _ => false
theorem x_ilong {x : Int32} (h : z_all (z_at j pc (zx_ilong pc n) :: t) = true) (kk : z_all t = true → z_R G j n ls (.long x.toInt64 :: r) w o w1) : z_R G j pc ls (.int x :: r) w o w1 := by
  obtain ⟨h2_, z0_, ins_, len_, hz_, hi_, hf_⟩ := z_any h
  unfold zx_ilong at hf_
  split at hf_
  · obtain ⟨rfl, rfl⟩ := xn_of hf_
    intro D cy base ext
    refine ev_pstep (kk h2_ D cy base ext) (fun z hz p e R s m args below meth c hC H locs cells slots Q L hM hS hE hcR hsR k => ?_)
    cases hz_.symm.trans hz
    have hd := hi_
    exact lv_i2l hC.1 hC.2.1 hd rfl k
  · cases hf_
def zx_lcmp (pc n : Nat) (z : ev_ME) (ins : Instr) (len : Nat) : Bool := match ins with
  | .lcmp => xn pc len n 1
  | _ => false
theorem x_lcmp {x y : Int64} (h : z_all (z_at j pc (zx_lcmp pc n) :: t) = true) (kk : z_all t = true → z_R G j n ls (.int (lg_cmp x y) :: r) w o w1) : z_R G j pc ls (.long y :: .long x :: r) w o w1 := by
  obtain ⟨h2_, z0_, ins_, len_, hz_, hi_, hf_⟩ := z_any h
  unfold zx_lcmp at hf_
  split at hf_
  · obtain ⟨rfl, rfl⟩ := xn_of hf_
    intro D cy base ext
    refine ev_pstep (kk h2_ D cy base ext) (fun z hz p e R s m args below meth c hC H locs cells slots Q L hM hS hE hcR hsR k => ?_)
    cases hz_.symm.trans hz
    have hd := hi_
    exact W.lcmp hC.1 hC.2.1 hd k
  · cases hf_
def zx_aloadN (pc i n : Nat) (z : ev_ME) (ins : Instr) (len : Nat) : Bool := match ins with
  | .aload_n q => (xn pc len n 1) && (decide ((q : Nat) = i))
  | _ => false
theorem x_aloadN {i : Nat} (h : z_all (z_at j pc (zx_aloadN pc i n) :: t) = true) (hv : ls[i]? = some (some .null)) (kk : z_all t = true → z_R G j n ls (.null :: st) w o w1) : z_R G j pc ls (st) w o w1 := by
  obtain ⟨h2_, z0_, ins_, len_, hz_, hi_, hf_⟩ := z_any h
  unfold zx_aloadN at hf_
  split at hf_
  · rename_i q_
    rw [Bool.and_eq_true] at hf_
    obtain ⟨rfl, rfl⟩ := xn_of hf_.1
    intro D cy base ext
    refine ev_pstep (kk h2_ D cy base ext) (fun z hz p e R s m args below meth c hC H locs cells slots Q L hM hS hE hcR hsR k => ?_)
    cases hz_.symm.trans hz
    have hd := hi_
    have h9_ := of_decide_eq_true hf_.2
    rw [← h9_] at hv
    exact lv_aload_nN hC.1 hC.2.1 hd rfl (hE.2.2.2 _ _ hv) k
  · cases hf_
def zx_nnj (pc n : Nat) (z : ev_ME) (ins : Instr) (len : Nat) : Bool := match ins with
  | .ifnonnull off => xj pc off n && Nat.beq len 3
  | _ => false
theorem x_nnj {x : Nat} (h : z_all (z_at j pc (zx_nnj pc n) :: t) = true) (kk : z_all t = true → z_R G j n ls r w o w1) : z_R G j pc ls (.ref x :: r) w o w1 := by
  obtain ⟨h2_, z0_, ins_, len_, hz_, hi_, hf_⟩ := z_any h
  unfold zx_nnj at hf_
  split at hf_
  · rw [Bool.and_eq_true] at hf_
    have h8_ : _ = 3 := Nat.eq_of_beq_eq_true hf_.2
    subst h8_
    have h9_ := of_decide_eq_true hf_.1
    intro D cy base ext
    refine ev_pstep (kk h2_ D cy base ext) (fun z hz p e R s m args below meth c hC H locs cells slots Q L hM hS hE hcR hsR k => ?_)
    cases hz_.symm.trans hz
    have hd := hi_
    exact lv_ifnonnull hC.1 hC.2.1 hd h9_ k
  · cases hf_
def zx_nun (pc n : Nat) (z : ev_ME) (ins : Instr) (len : Nat) : Bool := match ins with
  | .ifnull off => xn pc len n 3
  | _ => false
theorem x_nun {x : Nat} (h : z_all (z_at j pc (zx_nun pc n) :: t) = true) (kk : z_all t = true → z_R G j n ls r w o w1) : z_R G j pc ls (.ref x :: r) w o w1 := by
  obtain ⟨h2_, z0_, ins_, len_, hz_, hi_, hf_⟩ := z_any h
  unfold zx_nun at hf_
  split at hf_
  · obtain ⟨rfl, rfl⟩ := xn_of hf_
    intro D cy base ext
    refine ev_pstep (kk h2_ D cy base ext) (fun z hz p e R s m args below meth c hC H locs cells slots Q L hM hS hE hcR hsR k => ?_)
    cases hz_.symm.trans hz
    have hd := hi_
    exact lv_ifnull hC.1 hC.2.1 hd k
  · cases hf_
def zx_nnN (pc n : Nat) (z : ev_ME) (ins : Instr) (len : Nat) : Bool := match ins with
  | .ifnonnull off => xn pc len n 3
  | _ => false
theorem x_nnN {u_ : Unit} (h : z_all (z_at j pc (zx_nnN pc n) :: t) = true) (kk : z_all t = true → z_R G j n ls r w o w1) : z_R G j pc ls (.null :: r) w o w1 := by
  obtain ⟨h2_, z0_, ins_, len_, hz_, hi_, hf_⟩ := z_any h
  unfold zx_nnN at hf_
  split at hf_
  · obtain ⟨rfl, rfl⟩ := xn_of hf_
    intro D cy base ext
    refine ev_pstep (kk h2_ D cy base ext) (fun z hz p e R s m args below meth c hC H locs cells slots Q L hM hS hE hcR hsR k => ?_)
    cases hz_.symm.trans hz
    have hd := hi_
    exact lv_ifnonnullN hC.1 hC.2.1 hd k
  · cases hf_
def zx_nuN (pc n : Nat) (z : ev_ME) (ins : Instr) (len : Nat) : Bool := match ins with
  | .ifnull off => xj pc off n && Nat.beq len 3
  | _ => false
theorem x_nuN {u_ : Unit} (h : z_all (z_at j pc (zx_nuN pc n) :: t) = true) (kk : z_all t = true → z_R G j n ls r w o w1) : z_R G j pc ls (.null :: r) w o w1 := by
  obtain ⟨h2_, z0_, ins_, len_, hz_, hi_, hf_⟩ := z_any h
  unfold zx_nuN at hf_
  split at hf_
  · rw [Bool.and_eq_true] at hf_
    have h8_ : _ = 3 := Nat.eq_of_beq_eq_true hf_.2
    subst h8_
    have h9_ := of_decide_eq_true hf_.1
    intro D cy base ext
    refine ev_pstep (kk h2_ D cy base ext) (fun z hz p e R s m args below meth c hC H locs cells slots Q L hM hS hE hcR hsR k => ?_)
    cases hz_.symm.trans hz
    have hd := hi_
    exact lv_ifnullN hC.1 hC.2.1 hd h9_ k
  · cases hf_
def zx_aeqj (pc n : Nat) (z : ev_ME) (ins : Instr) (len : Nat) : Bool := match ins with
  | .if_acmp .eq off => xj pc off n && Nat.beq len 3
  | _ => false
theorem x_aeqj {x : Nat} (h : z_all (z_at j pc (zx_aeqj pc n) :: t) = true) (kk : z_all t = true → z_R G j n ls r w o w1) : z_R G j pc ls (.ref x :: .ref x :: r) w o w1 := by
  obtain ⟨h2_, z0_, ins_, len_, hz_, hi_, hf_⟩ := z_any h
  unfold zx_aeqj at hf_
  split at hf_
  · rw [Bool.and_eq_true] at hf_
    have h8_ : _ = 3 := Nat.eq_of_beq_eq_true hf_.2
    subst h8_
    have h9_ := of_decide_eq_true hf_.1
    intro D cy base ext
    refine ev_pstep (kk h2_ D cy base ext) (fun z hz p e R s m args below meth c hC H locs cells slots Q L hM hS hE hcR hsR k => ?_)
    cases hz_.symm.trans hz
    have hd := hi_
    exact lv_acmp_eq (rx := some _) (ry := some _) hC.1 hC.2.1 hd h9_ (fun _ => k) (fun q_ => absurd rfl q_)
  · cases hf_
def zx_aneN (pc n : Nat) (z : ev_ME) (ins : Instr) (len : Nat) : Bool := match ins with
  | .if_acmp .ne off => xj pc off n && Nat.beq len 3
  | _ => false
theorem x_aneN {x y : Nat} (h : z_all (z_at j pc (zx_aneN pc n) :: t) = true) (hne : ∀ (D : va_G) (cy : Nat → ClassId) (base : Nat) (ext : Nat → Nat), (∃ H, ev_M D cy base ext G.1 G.2.1 w H) → ¬ some (ev_ρ base ext x) = some (ev_ρ base ext y)) (kk : z_all t = true → z_R G j n ls r w o w1) : z_R G j pc ls (.ref y :: .ref x :: r) w o w1 := by
  obtain ⟨h2_, z0_, ins_, len_, hz_, hi_, hf_⟩ := z_any h
  unfold zx_aneN at hf_
  split at hf_
  · rw [Bool.and_eq_true] at hf_
    have h8_ : _ = 3 := Nat.eq_of_beq_eq_true hf_.2
    subst h8_
    have h9_ := of_decide_eq_true hf_.1
    intro D cy base ext
    refine ev_pstep (kk h2_ D cy base ext) (fun z hz p e R s m args below meth c hC H locs cells slots Q L hM hS hE hcR hsR k => ?_)
    cases hz_.symm.trans hz
    have hd := hi_
    exact lv_acmp_ne (rx := some _) (ry := some _) hC.1 hC.2.1 hd h9_ (fun _ => k) (fun q_ => absurd q_ (hne D cy base ext ⟨H, hM⟩))
  · cases hf_
/-- where a field stands: in the class's own table, in the nest mates', or modCount -/
def xf1 (z : ev_ME) (ix ci k : Nat) : Bool := match ev_look2 (ev_own1 z) ix ev_flt with
  | some q => Nat.beq q.1 ci && Nat.beq q.2 k
  | none => false
def xf2 (z : ev_ME) (ix ci k : Nat) : Bool := match ev_look2 (ev_own1 z) ix ev_fnt with
  | some q => Nat.beq q.1 ci && Nat.beq q.2 k
  | none => false
def xf3 (z : ev_ME) (ix ci k : Nat) : Bool := Nat.beq ci 17 && (Nat.beq k 0 && ((Nat.beq (ev_own1 z) 17 && Nat.beq ix 63) || (Nat.beq (ev_own1 z) 23 && Nat.beq ix 7)))
def xfl (z : ev_ME) (ix ci k : Nat) : Bool := xf1 z ix ci k || (xf2 z ix ci k || xf3 z ix ci k)
def xnf (ci k : Nat) : Bool := match vwCl[ci]? with
  | some r => !(r.2.1 k).2.2.2
  | none => false
def xpf (z : ev_ME) (ix ci k : Nat) : Bool := (xf1 z ix ci k && ev_pfok z (ci, k)) || ((xf2 z ix ci k || xf3 z ix ci k) && xnf ci k)
theorem xf1_of {z : ev_ME} {ix ci k : Nat} (h : xf1 z ix ci k = true) : ev_look2 (ev_own1 z) ix ev_flt = some (ci, k) := by
  unfold xf1 at h
  split at h
  · rename_i q_ hq_
    rw [Bool.and_eq_true] at h
    rw [hq_, ← Nat.eq_of_beq_eq_true h.1, ← Nat.eq_of_beq_eq_true h.2]
  · cases h
theorem xf2_of {z : ev_ME} {ix ci k : Nat} (h : xf2 z ix ci k = true) : ev_look2 (ev_own1 z) ix ev_fnt = some (ci, k) := by
  unfold xf2 at h
  split at h
  · rename_i q_ hq_
    rw [Bool.and_eq_true] at h
    rw [hq_, ← Nat.eq_of_beq_eq_true h.1, ← Nat.eq_of_beq_eq_true h.2]
  · cases h
theorem xf2_w {o9 ix : Nat} {q : Nat × Nat} (h : ev_look2 o9 ix ev_fnt = some q) : ∃ r, vwCl[q.1]? = some r ∧ q.2 < r.2.2 ∧ Cond.fieldLinkNest (ev_own.getD o9 "") ix (r.2.1 q.2).1 (r.2.1 q.2).2.1 (r.2.1 q.2).2.2.1 "FlagLaundryLaw" ∈ ev_fnw := by
  obtain ⟨l, h1, h2⟩ := ev_look2_mem h
  have h3 := List.all_eq_true.mp (List.all_eq_true.mp ev_fn_ok _ h1) _ h2
  dsimp only at h3
  cases hr : vwCl[q.1]? with
  | none => rw [hr] at h3; cases h3
  | some r =>
    rw [hr] at h3
    refine ⟨r, rfl, of_decide_eq_true h3, ?_⟩
    have h4 : ev_fnw1 o9 (ix, q) ∈ ev_fnw := List.mem_flatMap.mpr ⟨_, h1, List.mem_map.mpr ⟨_, h2, rfl⟩⟩
    unfold ev_fnw1 at h4
    dsimp only at h4
    rw [hr] at h4
    exact h4
set_option maxRecDepth 100000 in
theorem xmod_w : Cond.fieldLink "java/util/AbstractList" 7 "java/util/AbstractList" "modCount" "I" ∈ ev_all ∧ Cond.fieldLink "java/util/ArrayList" 63 "java/util/ArrayList" "modCount" "I" ∈ ev_all ∧ Cond.sameField "java/util/ArrayList" "java/util/AbstractList" "modCount" "I" ∈ ev_all := by
  refine ⟨?_, ?_, ?_⟩ <;> refine List.mem_filter.mpr ⟨?_, rfl⟩
  · exact List.mem_of_getElem? (i := 1164) (by decide +kernel)
  · exact List.mem_of_getElem? (i := 1165) (by decide +kernel)
  · exact List.mem_of_getElem? (i := 1166) (by decide +kernel)
theorem xf3_of {z : ev_ME} {ix ci k : Nat} (h : xf3 z ix ci k = true) : ci = 17 ∧ k = 0 ∧ ((ev_own1 z = 17 ∧ ix = 63) ∨ (ev_own1 z = 23 ∧ ix = 7)) := by
  unfold xf3 at h
  simp only [Bool.and_eq_true, Bool.or_eq_true] at h
  exact ⟨Nat.eq_of_beq_eq_true h.1, Nat.eq_of_beq_eq_true h.2.1, h.2.2.imp (fun q_ => ⟨Nat.eq_of_beq_eq_true q_.1, Nat.eq_of_beq_eq_true q_.2⟩) (fun q_ => ⟨Nat.eq_of_beq_eq_true q_.1, Nat.eq_of_beq_eq_true q_.2⟩)⟩
end XRUL
section XFLD
variable {D : va_G} {cy : Nat → ClassId} {base : Nat} {ext : Nat → Nat} {SL : Nat} {SX : Nat → Int32} {l : Launch} {j pc : Nat} {ls : ev_L} {r st : List Value} {w : ev_W} {o : Option Value ⊕ Nat} {w1 : ev_W}
theorem x_getW {z0 : ev_ME} (hz0 : ev_mel j = some z0) {a ix ci k9 : Nat} {v : Value} (hf : xfl z0 ix ci k9 = true) (hi9 : ev_isO ci) (ha : a < w_n w) (hk : w_K w a = ci) (hd : decode (ev_by z0) pc = .ok (.getfield ix, 3))
    (hv : ev_fv base ext w a (ev_fty ci k9, k9) = ev_v base ext v) (h : ev_Snd D cy base ext SL SX l j (pc + 3) ls (v :: r) w o w1) : ev_Snd D cy base ext SL SX l j pc ls (.ref a :: r) w o w1 := by
  unfold xfl at hf
  rcases Bool.or_eq_true_iff.mp hf with hf | hf
  · exact ev_x_getf (q := (ci, k9)) (ev_hz hz0 (xf1_of hf)) ha hk (ev_hz hz0 hd) hv h
  refine ev_pstep h (fun z hz p e R s m args below meth c hC H locs cells slots Q L hM hS hE hcR hsR k => ?_)
  cases hz0.symm.trans hz
  have he : (ev_ws cy base ext w)[a]? = some (base + a, .inr (ci, ev_fs base ext w a ci)) := by rw [ev_ws_at ha, ev_ents hk hi9]
  show W p l e R s m args below meth c H locs cells slots Q (F0 m pc L (ev_v base ext (.ref a) :: r.map (ev_v base ext)))
  rw [ev_v_ref ⟨H, hM⟩ ha]
  rcases Bool.or_eq_true_iff.mp hf with hf | hf
  · obtain ⟨⟨C, T, N⟩, h1, h2, h3⟩ := xf2_w (xf2_of hf)
    obtain ⟨ty, t1, t2, t3, t4, t5, t6⟩ := ev_cls ci _ h1
    rw [hC.2.2.2.2.2.2.2.2.2.2.2.1] at h3
    exact va_getN hC.1 hC.2.1 hC.2.2.2.2.2.1 t3 hC.2.2.2.2.1 hC.2.2.2.2.2.2.2.2.1 hM.1 a he h1 k9 h2 (va_Nw.use rfl (hC.2.2.2.2.2.2.2.2.2.1.2.2.2.2.2.2.2.2.2.2.2.2 _ h3)) (fun _ h9 => h9) (by rw [ev_fs_at (by rw [t4]; exact h2), hv]) hd k
  · obtain ⟨rfl, rfl, ho⟩ := xf3_of hf
    have hown := hC.2.2.2.2.2.2.2.2.2.2.2.1
    have h1 : vwCl[17]? = some (RJx4a65c, TJx4a65c, 3) := rfl
    obtain ⟨ty, t1, t2, t3, t4, t5, t6⟩ := ev_cls 17 _ h1
    rcases ho with ⟨ho, rfl⟩ | ⟨ho, rfl⟩
    · rw [ho] at hown
      have hown' : "java/util/ArrayList" = (ev_y z0).cls := hown
      exact va_get (ref := "java/util/ArrayList") hC.1 hC.2.1 hC.2.2.2.2.2.1 t3 hC.2.2.2.2.1 hC.2.2.2.2.2.2.2.2.1 hM.1 a he h1 0 (by decide) (hC.2.2.2.2.2.1 _ (by rw [← hown']; exact xmod_w.2.1)) (fun x_ h9 => u_same (hC.2.2.2.2.2.1 _ xmod_w.2.2) x_ h9) (by rw [ev_fs_at (by rw [t4]; decide), hv]) hd k
    · rw [ho] at hown
      have hown' : "java/util/AbstractList" = (ev_y z0).cls := hown
      exact va_get (ref := "java/util/AbstractList") hC.1 hC.2.1 hC.2.2.2.2.2.1 t3 hC.2.2.2.2.1 hC.2.2.2.2.2.2.2.2.1 hM.1 a he h1 0 (by decide) (hC.2.2.2.2.2.1 _ (by rw [← hown']; exact xmod_w.1)) (fun _ h9 => h9) (by rw [ev_fs_at (by rw [t4]; decide), hv]) hd k
theorem ev_putN {p : Program} {e : Env} {R : Room} {s : State} {m : MethodId} {args : Array Value} {below : List Frame} {meth : Method} {c : Code} {H H0 : Heap} {locs : List Loc} {cells slots : Nat} {Q : State → Prop} {cl : List vw_C} {tys : List (ClassId × FieldType)} {ws : va_W} {A : Nat → Prop} {a : Nat} {rest : List Value} {lo : Array Slot} {cc : ByteArray} (hexec : p.tables.exec = Jvm.exec) (hb : c.code = cc) {own ref C host : String} {T : u_T} {N ci index : Nat} {Ts : List Cond} (hts : ∀ w ∈ Ts, w.before args s = true) (hin : ∀ w ∈ u_ws C T N, w ∈ Ts) (ty0 : Nat → FieldType) (hty : ∀ k, k < N → parseFieldDescriptor (T k).2.2.1 = some (ty0 k)) (hnm : ∀ a, a < N → ∀ b, b < N → a ≠ b → (T a).2.1 ≠ (T b).2.1) (hown : s.vm.findClass own = some m.cls) (hK : va_K D cl tys s) (hP : va_P D cl ws H) (hD : va_D A ws) (hS0 : va_S A H0 H locs) (q0 : Nat) {fs : List Value} (he : ws[q0]? = some (a, .inr (ci, fs))) (hc : cl[ci]? = some (C, T, N)) (k : Nat) (hk : k < N)
    (hlink : (Cond.fieldLinkNest own index ref (T k).2.1 (T k).2.2.1 host).before args s = true) (hsame : ∀ x, s.fieldFound? (T k).1 (T k).2.1 (T k).2.2.1 = some x → s.fieldFound? ref (T k).2.1 (T k).2.2.1 = some x) (hfin : (T k).2.2.2 = false) {ty : FieldType} {v : Value} (hd : parseFieldDescriptor (T k).2.2.1 = some ty) (hn : narrow ty v = v) (hfit : fits ty v = true) (hl : k < fs.length)
    (hdg : decode cc pc = .ok (.putfield index, 3)) (kk : ∀ (H1 : Heap) (locs1 : List Loc), va_P D cl (ws.set q0 (a, .inr (ci, fs.set k v))) H1 → H1.size = H.size → va_S A H0 H1 locs1 → W p l e R s m args below meth c H1 locs1 cells slots Q (F0 m (pc + 3) lo rest)) : W p l e R s m args below meth c H locs cells slots Q (F0 m pc lo (v :: .ref a :: rest)) := by
  have hap := va_apart (own := own) hts hin ty0 hty hnm hK hc
  obtain ⟨r, h1, cell, q1, q2, q3, q4⟩ := hP q0 _ he
  have hr : r = (C, T, N) := Option.some.inj (h1.symm.trans hc)
  subst hr
  obtain ⟨hS, hfc, kC, hkC, hkind⟩ := hK.1 ci _ hc
  obtain ⟨cf, kf, fi, f, hi, hsl⟩ := hS k hk
  have hlay := hts _ (hin _ (u_in_lay hk))
  unfold u_lay at hlay
  rw [if_neg (by rw [hfin]; decide)] at hlay
  have hst := (u_facts hfc hkC (u_lays hts hin hk) hi).1
  have h6 := u_store hfc hkC hkind hlay hi hd hn hfit
  refine va_WputK hexec hb (f := f) hown hlink (hsame _ hi) hst (by rw [q2]; exact h6) q1 q3 (by rw [hsl]; exact k2_hasslot (q4 k hk)) rfl rfl hdg fun H' e1 e2 e3 => ?_
  rw [hsl] at e1 ⊢
  exact kk H' _ (hP.set hD he ⟨_, hc, t_OB.to (V := updV (vp_V fs) k v) ⟨_, e1, q2, q3, t_set q4 hap hk v⟩ (fun j _ => vp_updV_set hl v j)⟩ e3) e2 (hS0.put e2 e3 (hD.2 q0 _ he))
theorem x_putW {z0 : ev_ME} (hz0 : ev_mel j = some z0) {a ix ci k9 : Nat} {v : Value} {w' : ev_W} (hf : xpf z0 ix ci k9 = true) (hi9 : ev_isO ci) (ha : a < w_n w) (hk : w_K w a = ci) (hd : decode (ev_by z0) pc = .ok (.putfield ix, 3))
    (hv : ∀ ty, ev_ftk (ev_fty ci k9) ty = true → narrow ty (ev_v base ext v) = ev_v base ext v ∧ fits ty (ev_v base ext v) = true)
    (hw : w'.1 = w.1 ∧ w_c w' = w_c w ∧ w_z w' = w_z w ∧ w_l w' = w_l w ∧ w_K w' = w_K w ∧ w_L w' = w_L w ∧ (∀ b, b ≠ a → w_I w' b = w_I w b ∧ w_R w' b = w_R w b ∧ w_J w' b = w_J w b ∧ w_D w' b = w_D w b))
    (hw2 : ev_fv base ext w' a (ev_fty ci k9, k9) = ev_v base ext v) (hw3 : ∀ i t, i ≠ k9 → ev_fv base ext w' a (t, i) = ev_fv base ext w a (t, i))
    (h : ev_Snd D cy base ext SL SX l j (pc + 3) ls r w' o w1) : ev_Snd D cy base ext SL SX l j pc ls (v :: .ref a :: r) w o w1 := by
  unfold xpf at hf
  rcases Bool.or_eq_true_iff.mp hf with hf | hf
  · rw [Bool.and_eq_true] at hf
    exact ev_x_putf (q := (ci, k9)) (ev_hz hz0 ⟨xf1_of hf.1, hf.2⟩) ha hk (ev_hz hz0 hd) hv hw hw2 hw3 h
  obtain ⟨g1, g2, g3, g4, g5, g6, g7⟩ := hw
  rw [Bool.and_eq_true] at hf
  obtain ⟨hf, hnf⟩ := hf
  refine ev_mstep g2 g3 h (fun z hz p e R s m args below meth c hC H locs cells slots Q L hM hS k => ?_)
  cases hz0.symm.trans hz
  have he : (ev_ws cy base ext w)[a]? = some (base + a, .inr (ci, ev_fs base ext w a ci)) := by rw [ev_ws_at ha, ev_ents hk hi9]
  have hM2 := hM.2.1
  show W p l e R s m args below meth c H locs cells slots Q (F0 m pc L (ev_v base ext v :: ev_v base ext (.ref a) :: r.map (ev_v base ext)))
  rw [ev_v_ref ⟨H, hM⟩ ha]
  have fin_ : ∀ (H1 : Heap) (locs1 : List Loc), va_P D vwCl ((ev_ws cy base ext w).set a (base + a, .inr (ci, (ev_fs base ext w a ci).set k9 (ev_v base ext v)))) H1 → H1.size = H.size → va_S (ev_A base) s.heap H1 locs1 → W p l e R s m args below meth c H1 locs1 cells slots Q (F0 m (pc + 3) L (r.map (ev_v base ext))) := by
    intro H1 locs1 hP1 hz1 hS1
    have hS9 : ¬ ev_S = a := by unfold ev_S; omega
    refine k H1 locs1 (ev_M_ws hM ha g1 g4 g6 (g7 _ hS9).1 (fun b hb => ?_) ?_ hP1 hz1) hS1
    · obtain ⟨i1, i2, i3, i4⟩ := g7 b hb
      unfold ev_ent ev_fs ev_fv
      rw [g5, g6, i1, i2, i3]
    · rw [ev_ents (ci := ci) (by rw [g5]; exact hk) hi9]
      rw [ev_fs_set (fun _ => hw2) hw3]
  rcases Bool.or_eq_true_iff.mp hf with hf | hf
  · obtain ⟨⟨C, T, N⟩, h1, h2, h3⟩ := xf2_w (xf2_of hf)
    obtain ⟨ty, t1, t2, t3, t4, t5, t6⟩ := ev_cls ci _ h1
    rw [hC.2.2.2.2.2.2.2.2.2.2.2.1] at h3
    obtain ⟨n1, n2⟩ := hv (ty k9) (t5 k9 h2)
    have hnf' : (T k9).2.2.2 = false := by
      unfold xnf at hnf
      rw [h1] at hnf
      simpa using hnf
    exact ev_putN hC.1 hC.2.1 hC.2.2.2.2.2.1 t3 ty t1 t2 hC.2.2.2.2.1 hC.2.2.2.2.2.2.2.2.1 hM.1 (ev_dis cy base ext w) hS a he h1 k9 h2 (va_Nw.use rfl (hC.2.2.2.2.2.2.2.2.2.1.2.2.2.2.2.2.2.2.2.2.2.2 _ h3)) (fun _ h9 => h9) hnf' (t1 k9 h2) n1 n2 (by rw [ev_fs_len, t4]; exact h2) hd fin_
  · obtain ⟨rfl, rfl, ho⟩ := xf3_of hf
    have hown := hC.2.2.2.2.2.2.2.2.2.2.2.1
    have h1 : vwCl[17]? = some (RJx4a65c, TJx4a65c, 3) := rfl
    obtain ⟨ty, t1, t2, t3, t4, t5, t6⟩ := ev_cls 17 _ h1
    obtain ⟨n1, n2⟩ := hv (ty 0) (t5 0 (by decide))
    have hnf' : (TJx4a65c 0).2.2.2 = false := by decide
    rcases ho with ⟨ho, rfl⟩ | ⟨ho, rfl⟩
    · rw [ho] at hown
      have hown' : "java/util/ArrayList" = (ev_y z0).cls := hown
      exact ev_put (ref := "java/util/ArrayList") hC.1 hC.2.1 hC.2.2.2.2.2.1 t3 ty t1 t2 hC.2.2.2.2.1 hC.2.2.2.2.2.2.2.2.1 hM.1 (ev_dis cy base ext w) hS a he h1 0 (by decide) (hC.2.2.2.2.2.1 _ (by rw [← hown']; exact xmod_w.2.1)) (fun x_ h9 => u_same (hC.2.2.2.2.2.1 _ xmod_w.2.2) x_ h9) (fun q_ => by rw [hnf'] at q_; cases q_) (t1 0 (by decide)) n1 n2 (by rw [ev_fs_len, t4]; decide) hd fin_
    · rw [ho] at hown
      have hown' : "java/util/AbstractList" = (ev_y z0).cls := hown
      exact ev_put (ref := "java/util/AbstractList") hC.1 hC.2.1 hC.2.2.2.2.2.1 t3 ty t1 t2 hC.2.2.2.2.1 hC.2.2.2.2.2.2.2.2.1 hM.1 (ev_dis cy base ext w) hS a he h1 0 (by decide) (hC.2.2.2.2.2.1 _ (by rw [← hown']; exact xmod_w.1)) (fun _ h9 => h9) (fun q_ => by rw [hnf'] at q_; cases q_) (t1 0 (by decide)) n1 n2 (by rw [ev_fs_len, t4]; decide) hd fin_
end XFLD
section XRUL2
variable {G : z_G} {j pc n : Nat} {ls : ev_L} {st r : List Value} {w : ev_W} {o : Option Value ⊕ Nat} {w1 : ev_W} {t : List Bool}
def xio (ci : Nat) : Bool := decide (ev_isO ci)
def zf_gi (pc ci k n : Nat) (z : ev_ME) (ins : Instr) (len : Nat) : Bool := match ins with
  | .getfield ix => xn pc len n 3 && (xfl z ix ci k && (xio ci && !(Nat.beq (ev_fty ci k) 2)))
  | _ => false
theorem x_geti {ci k a : Nat} (h : z_all (z_at j pc (zf_gi pc ci k n) :: t) = true) (ha : a < w_n w) (hk : w_K w a = ci) (kk : z_all t = true → z_R G j n ls (.int (w_I w a k) :: r) w o w1) : z_R G j pc ls (.ref a :: r) w o w1 := by
  obtain ⟨h2_, z0_, ins_, len_, hz_, hi_, hf_⟩ := z_any h
  unfold zf_gi at hf_
  split at hf_
  · simp only [Bool.and_eq_true] at hf_
    obtain ⟨g1_, g2_, g3_, g4_⟩ := hf_
    obtain ⟨rfl, rfl⟩ := xn_of g1_
    intro D cy base ext
    refine x_getW hz_ g2_ (of_decide_eq_true g3_) ha hk hi_ ?_ (kk h2_ D cy base ext)
    unfold ev_fv
    rw [if_neg (fun q_ => by rw [show ev_fty ci k = 2 from q_] at g4_; cases g4_)]
    rfl
  · cases hf_
def zf_gr (pc ci k n : Nat) (z : ev_ME) (ins : Instr) (len : Nat) : Bool := match ins with
  | .getfield ix => xn pc len n 3 && (xfl z ix ci k && (xio ci && Nat.beq (ev_fty ci k) 2))
  | _ => false
theorem x_getr {ci k a b : Nat} (h : z_all (z_at j pc (zf_gr pc ci k n) :: t) = true) (ha : a < w_n w) (hk : w_K w a = ci) (hr : w_R w a k = some b) (kk : z_all t = true → z_R G j n ls (.ref b :: r) w o w1) : z_R G j pc ls (.ref a :: r) w o w1 := by
  obtain ⟨h2_, z0_, ins_, len_, hz_, hi_, hf_⟩ := z_any h
  unfold zf_gr at hf_
  split at hf_
  · simp only [Bool.and_eq_true] at hf_
    obtain ⟨g1_, g2_, g3_, g4_⟩ := hf_
    obtain ⟨rfl, rfl⟩ := xn_of g1_
    intro D cy base ext
    refine x_getW hz_ g2_ (of_decide_eq_true g3_) ha hk hi_ ?_ (kk h2_ D cy base ext)
    unfold ev_fv
    rw [if_pos (Nat.eq_of_beq_eq_true g4_)]
    dsimp only
    rw [hr]
    rfl
  · cases hf_
def zf_pi (pc ci k n : Nat) (z : ev_ME) (ins : Instr) (len : Nat) : Bool := match ins with
  | .putfield ix => xn pc len n 3 && (xpf z ix ci k && (xio ci && Nat.beq (ev_fty ci k) 0))
  | _ => false
theorem x_puti {ci k a : Nat} {x : Int32} (h : z_all (z_at j pc (zf_pi pc ci k n) :: t) = true) (ha : a < w_n w) (hk : w_K w a = ci) (kk : z_all t = true → z_R G j n ls r (w_sI w a k x) o w1) : z_R G j pc ls (.int x :: .ref a :: r) w o w1 := by
  obtain ⟨h2_, z0_, ins_, len_, hz_, hi_, hf_⟩ := z_any h
  unfold zf_pi at hf_
  split at hf_
  · simp only [Bool.and_eq_true] at hf_
    obtain ⟨g1_, g2_, g3_, g4_⟩ := hf_
    obtain ⟨rfl, rfl⟩ := xn_of g1_
    have g5_ : ev_fty ci k = 0 := Nat.eq_of_beq_eq_true g4_
    intro D cy base ext
    refine x_putW hz_ g2_ (of_decide_eq_true g3_) ha hk hi_ (fun ty ht => ?_) (w_sI_w a k x) ?_ (fun i t9 hi => ?_) (kk h2_ D cy base ext)
    · rw [g5_] at ht
      cases ty <;> first | exact ⟨rfl, rfl⟩ | cases ht
    · unfold ev_fv
      rw [if_neg (by intro q_; have q2_ : ev_fty ci k = 2 := q_; omega)]
      show Value.int (w_I (w_sI w a k x) a k) = .int x
      rw [w_sI_at]
      unfold upd
      simp
    · unfold ev_fv
      dsimp only
      have e_ : w_I (w_sI w a k x) a i = w_I w a i := by rw [w_sI_at]; unfold upd; simp [hi]
      rw [e_]
      rfl
  · cases hf_
def zf_pb (pc ci k n : Nat) (z : ev_ME) (ins : Instr) (len : Nat) : Bool := match ins with
  | .putfield ix => xn pc len n 3 && (xpf z ix ci k && (xio ci && (Nat.beq (ev_fty ci k) 1 || Nat.beq (ev_fty ci k) 3)))
  | _ => false
theorem x_putb {ci k a : Nat} {x : Int32} (h : z_all (z_at j pc (zf_pb pc ci k n) :: t) = true) (ha : a < w_n w) (hk : w_K w a = ci) (hx : x = 0 ∨ x = 1) (kk : z_all t = true → z_R G j n ls r (w_sI w a k x) o w1) : z_R G j pc ls (.int x :: .ref a :: r) w o w1 := by
  obtain ⟨h2_, z0_, ins_, len_, hz_, hi_, hf_⟩ := z_any h
  unfold zf_pb at hf_
  split at hf_
  · simp only [Bool.and_eq_true] at hf_
    obtain ⟨g1_, g2_, g3_, g4_⟩ := hf_
    obtain ⟨rfl, rfl⟩ := xn_of g1_
    have g5_ : ev_fty ci k = 1 ∨ ev_fty ci k = 3 := (Bool.or_eq_true_iff.mp g4_).imp Nat.eq_of_beq_eq_true Nat.eq_of_beq_eq_true
    intro D cy base ext
    refine x_putW hz_ g2_ (of_decide_eq_true g3_) ha hk hi_ (fun ty ht => ?_) (w_sI_w a k x) ?_ (fun i t9 hi => ?_) (kk h2_ D cy base ext)
    · rcases g5_ with g5_ | g5_ <;> rw [g5_] at ht <;> cases ty <;> first | (rcases hx with rfl | rfl <;> exact ⟨rfl, rfl⟩) | cases ht
    · unfold ev_fv
      rw [if_neg (by intro q_; have q2_ : ev_fty ci k = 2 := q_; omega)]
      show Value.int (w_I (w_sI w a k x) a k) = .int x
      rw [w_sI_at]
      unfold upd
      simp
    · unfold ev_fv
      dsimp only
      have e_ : w_I (w_sI w a k x) a i = w_I w a i := by rw [w_sI_at]; unfold upd; simp [hi]
      rw [e_]
      rfl
  · cases hf_
def zf_pr (pc ci k n : Nat) (z : ev_ME) (ins : Instr) (len : Nat) : Bool := match ins with
  | .putfield ix => xn pc len n 3 && (xpf z ix ci k && (xio ci && Nat.beq (ev_fty ci k) 2))
  | _ => false
theorem x_putr {ci k a b : Nat} (h : z_all (z_at j pc (zf_pr pc ci k n) :: t) = true) (ha : a < w_n w) (hk : w_K w a = ci) (kk : z_all t = true → z_R G j n ls r (w_sR w a k (some b)) o w1) : z_R G j pc ls (.ref b :: .ref a :: r) w o w1 := by
  obtain ⟨h2_, z0_, ins_, len_, hz_, hi_, hf_⟩ := z_any h
  unfold zf_pr at hf_
  split at hf_
  · simp only [Bool.and_eq_true] at hf_
    obtain ⟨g1_, g2_, g3_, g4_⟩ := hf_
    obtain ⟨rfl, rfl⟩ := xn_of g1_
    have g5_ : ev_fty ci k = 2 := Nat.eq_of_beq_eq_true g4_
    intro D cy base ext
    refine x_putW hz_ g2_ (of_decide_eq_true g3_) ha hk hi_ (fun ty ht => ?_) (w_sR_w a k (some b)) ?_ (fun i t9 hi => ?_) (kk h2_ D cy base ext)
    · rw [g5_] at ht
      cases ty <;> first | exact ⟨rfl, rfl⟩ | cases ht
    · unfold ev_fv
      rw [if_pos g5_]
      dsimp only
      rw [w_sR_at]
      unfold va_up
      simp [va_rf, ev_v]
    · unfold ev_fv
      dsimp only
      have e_ : w_R (w_sR w a k (some b)) a i = w_R w a i := by rw [w_sR_at]; unfold va_up; simp [hi]
      rw [e_]
      rfl
  · cases hf_

def xak (t9 : ArrayType) (κ : Nat) : Bool := match ev_akind t9 with
  | some q => Nat.beq q κ
  | none => false
theorem xak_of {t9 : ArrayType} {κ : Nat} (h : xak t9 κ = true) : ev_akind t9 = some κ := by
  unfold xak at h
  split at h
  · rename_i q_ hq_
    rw [hq_, Nat.eq_of_beq_eq_true h]
  · cases h
def xcl (z : ev_ME) (ix ci : Nat) : Bool := match ev_look2 (ev_own1 z) ix ev_clt with
  | some q => Nat.beq q ci
  | none => false
theorem xcl_of {z : ev_ME} {ix ci : Nat} (h : xcl z ix ci = true) : ev_look2 (ev_own1 z) ix ev_clt = some ci := by
  unfold xcl at h
  split at h
  · rename_i q_ hq_
    rw [hq_, Nat.eq_of_beq_eq_true h]
  · cases h
def xnc (ci N : Nat) : Bool := match vwCl[ci]? with
  | some q => Nat.beq q.2.2 N
  | none => false
theorem xnc_of {ci N : Nat} (h : xnc ci N = true) : ∃ q, vwCl[ci]? = some q ∧ q.2.2 = N := by
  unfold xnc at h
  split at h
  · rename_i q_ hq_
    exact ⟨q_, hq_, Nat.eq_of_beq_eq_true h⟩
  · cases h
def zx_iald (pc n : Nat) (z : ev_ME) (ins : Instr) (len : Nat) : Bool := match ins with
  | .iaload => xn pc len n 1
  | _ => false
theorem x_iald {a : Nat} {i : Int32} (h : z_all (z_at j pc (zx_iald pc n) :: t) = true) (ha : a < w_n w) (hk : w_K w a = 10) (hi : ev_ok i (w_L w a) = true) (kk : z_all t = true → z_R G j n ls (.int (w_I w a (z_n i)) :: r) (w) o w1) : z_R G j pc ls (.int i :: .ref a :: r) w o w1 := by
  obtain ⟨h2_, z0_, ins_, len_, hz_, hi_, hf_⟩ := z_any h
  unfold zx_iald at hf_
  split at hf_
  · obtain ⟨rfl, rfl⟩ := xn_of hf_
    intro D cy base ext
    exact ev_x_iald ha hk hi (ev_hz hz_ hi_) (kk h2_ D cy base ext)
  · cases hf_
def zx_bald (pc n : Nat) (z : ev_ME) (ins : Instr) (len : Nat) : Bool := match ins with
  | .baload => xn pc len n 1
  | _ => false
theorem x_bald {a κ : Nat} {i : Int32} (h : z_all (z_at j pc (zx_bald pc n) :: t) = true) (ha : a < w_n w) (hk : w_K w a = κ) (hκ : κ = 9 ∨ κ = 11) (hi : ev_ok i (w_L w a) = true) (kk : z_all t = true → z_R G j n ls (.int (w_I w a (z_n i)) :: r) (w) o w1) : z_R G j pc ls (.int i :: .ref a :: r) w o w1 := by
  obtain ⟨h2_, z0_, ins_, len_, hz_, hi_, hf_⟩ := z_any h
  unfold zx_bald at hf_
  split at hf_
  · obtain ⟨rfl, rfl⟩ := xn_of hf_
    intro D cy base ext
    exact ev_x_bald ha hk hκ hi (ev_hz hz_ hi_) (kk h2_ D cy base ext)
  · cases hf_
def zx_lald (pc n : Nat) (z : ev_ME) (ins : Instr) (len : Nat) : Bool := match ins with
  | .laload => xn pc len n 1
  | _ => false
theorem x_lald {a : Nat} {i : Int32} (h : z_all (z_at j pc (zx_lald pc n) :: t) = true) (ha : a < w_n w) (hk : w_K w a = 14) (hi : ev_ok i (w_L w a) = true) (kk : z_all t = true → z_R G j n ls (.long (w_J w a (z_n i)) :: r) (w) o w1) : z_R G j pc ls (.int i :: .ref a :: r) w o w1 := by
  obtain ⟨h2_, z0_, ins_, len_, hz_, hi_, hf_⟩ := z_any h
  unfold zx_lald at hf_
  split at hf_
  · obtain ⟨rfl, rfl⟩ := xn_of hf_
    intro D cy base ext
    exact ev_x_lald ha hk hi (ev_hz hz_ hi_) (kk h2_ D cy base ext)
  · cases hf_
def zx_iast (pc n : Nat) (z : ev_ME) (ins : Instr) (len : Nat) : Bool := match ins with
  | .iastore => xn pc len n 1
  | _ => false
theorem x_iast {a : Nat} {i x : Int32} (h : z_all (z_at j pc (zx_iast pc n) :: t) = true) (ha : a < w_n w) (hk : w_K w a = 10) (hi : ev_ok i (w_L w a) = true) (kk : z_all t = true → z_R G j n ls (r) (w_sI w a (z_n i) x) o w1) : z_R G j pc ls (.int x :: .int i :: .ref a :: r) w o w1 := by
  obtain ⟨h2_, z0_, ins_, len_, hz_, hi_, hf_⟩ := z_any h
  unfold zx_iast at hf_
  split at hf_
  · obtain ⟨rfl, rfl⟩ := xn_of hf_
    intro D cy base ext
    exact ev_x_iast ha hk hi (ev_hz hz_ hi_) (kk h2_ D cy base ext)
  · cases hf_
def zx_bast (pc n : Nat) (z : ev_ME) (ins : Instr) (len : Nat) : Bool := match ins with
  | .bastore => xn pc len n 1
  | _ => false
theorem x_bast {a : Nat} {i x : Int32} (h : z_all (z_at j pc (zx_bast pc n) :: t) = true) (ha : a < w_n w) (hk : w_K w a = 9) (hi : ev_ok i (w_L w a) = true) (kk : z_all t = true → z_R G j n ls (r) (w_sI w a (z_n i) (vp_nar .byte x)) o w1) : z_R G j pc ls (.int x :: .int i :: .ref a :: r) w o w1 := by
  obtain ⟨h2_, z0_, ins_, len_, hz_, hi_, hf_⟩ := z_any h
  unfold zx_bast at hf_
  split at hf_
  · obtain ⟨rfl, rfl⟩ := xn_of hf_
    intro D cy base ext
    exact ev_x_bast ha hk hi (ev_hz hz_ hi_) (kk h2_ D cy base ext)
  · cases hf_
def zx_last (pc n : Nat) (z : ev_ME) (ins : Instr) (len : Nat) : Bool := match ins with
  | .lastore => xn pc len n 1
  | _ => false
theorem x_last {a : Nat} {i : Int32} {x : Int64} (h : z_all (z_at j pc (zx_last pc n) :: t) = true) (ha : a < w_n w) (hk : w_K w a = 14) (hi : ev_ok i (w_L w a) = true) (kk : z_all t = true → z_R G j n ls (r) (w_sJ w a (z_n i) x) o w1) : z_R G j pc ls (.long x :: .int i :: .ref a :: r) w o w1 := by
  obtain ⟨h2_, z0_, ins_, len_, hz_, hi_, hf_⟩ := z_any h
  unfold zx_last at hf_
  split at hf_
  · obtain ⟨rfl, rfl⟩ := xn_of hf_
    intro D cy base ext
    exact ev_x_last ha hk hi (ev_hz hz_ hi_) (kk h2_ D cy base ext)
  · cases hf_
def zx_alen (pc n : Nat) (z : ev_ME) (ins : Instr) (len : Nat) : Bool := match ins with
  | .arraylength => xn pc len n 1
  | _ => false
theorem x_alen {a : Nat} (h : z_all (z_at j pc (zx_alen pc n) :: t) = true) (ha : a < w_n w) (h9 : 9 ≤ w_K w a) (h16 : w_K w a < 16) (kk : z_all t = true → z_R G j n ls (.int (Int32.ofNat (w_L w a)) :: r) (w) o w1) : z_R G j pc ls (.ref a :: r) w o w1 := by
  obtain ⟨h2_, z0_, ins_, len_, hz_, hi_, hf_⟩ := z_any h
  unfold zx_alen at hf_
  split at hf_
  · obtain ⟨rfl, rfl⟩ := xn_of hf_
    intro D cy base ext
    exact ev_x_alen ha h9 h16 (ev_hz hz_ hi_) (kk h2_ D cy base ext)
  · cases hf_
def zx_newa (pc κ n : Nat) (z : ev_ME) (ins : Instr) (len : Nat) : Bool := match ins with
  | .newarray t9 => (xn pc len n 2) && (xak t9 κ)
  | _ => false
theorem x_newa {i : Int32} {κ : Nat} (h : z_all (z_at j pc (zx_newa pc κ n) :: t) = true) (hl : w_l w = true) (hn : w_n w < 1000) (hi : ev_ok i 100000 = true) (kk : z_all t = true → z_R G j n ls (.ref (w_n w) :: r) (w_nw w κ (z_n i)) o w1) : z_R G j pc ls (.int i :: r) w o w1 := by
  obtain ⟨h2_, z0_, ins_, len_, hz_, hi_, hf_⟩ := z_any h
  unfold zx_newa at hf_
  split at hf_
  · rename_i t9_
    simp only [Bool.and_eq_true] at hf_
    obtain ⟨rfl, rfl⟩ := xn_of hf_.1
    intro D cy base ext
    exact ev_x_newa (xak_of hf_.2) hl hn hi (ev_hz hz_ hi_) (kk h2_ D cy base ext)
  · cases hf_
def zx_new (pc ci N9 n : Nat) (z : ev_ME) (ins : Instr) (len : Nat) : Bool := match ins with
  | .new ix => (xn pc len n 3) && (xcl z ix ci && xnc ci N9)
  | _ => false
theorem x_new {ci N9 : Nat} (h : z_all (z_at j pc (zx_new pc ci N9 n) :: t) = true) (hl : w_l w = true) (hn : w_n w < 1000) (kk : z_all t = true → z_R G j n ls (.ref (w_n w) :: st) (w_nw w ci N9) o w1) : z_R G j pc ls (st) w o w1 := by
  obtain ⟨h2_, z0_, ins_, len_, hz_, hi_, hf_⟩ := z_any h
  unfold zx_new at hf_
  split at hf_
  · rename_i ix_
    simp only [Bool.and_eq_true] at hf_
    obtain ⟨rfl, rfl⟩ := xn_of hf_.1
    intro D cy base ext
    exact (by obtain ⟨q9_, e1_, e2_⟩ := xnc_of hf_.2.2; subst e2_; exact ev_x_new (ev_hz hz_ (xcl_of hf_.2.1)) e1_ hl hn (ev_hz hz_ hi_) (kk h2_ D cy base ext))
  · cases hf_
end XRUL2
