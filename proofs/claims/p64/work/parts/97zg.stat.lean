/-! statics of the JDK, rows outside the world, the script in any method, by wip/gen/p64/x64d.py -/
theorem ev_ρ_x {base : Nat} {ext : Nat → Nat} (k : Nat) : ev_ρ base ext (ev_S + k) = ext (ev_S + k) := if_neg (by omega)
section XSTAT
variable {G : z_G} {j pc n : Nat} {ls : ev_L} {st r : List Value} {w : ev_W} {o : Option Value ⊕ Nat} {w1 : ev_W} {t : List Bool}
set_option maxRecDepth 100000 in
theorem xw_cs19 : Cond.fieldLink "java/lang/String" 38 "java/lang/String" "COMPACT_STRINGS" "Z" ∈ ev_all := List.mem_filter.mpr ⟨List.mem_of_getElem? (i := 511) (by decide +kernel), rfl⟩
def zx_cs19 (pc n : Nat) (z : ev_ME) (ins : Instr) (len : Nat) : Bool := match ins with
  | .getstatic ix => xn pc len n 3 && (Nat.beq ix 38 && Nat.beq (ev_own1 z) 19)
  | _ => false
theorem x_cs19 (h : z_all (z_at j pc (zx_cs19 pc n) :: t) = true) (kk : z_all t = true → z_R G j n ls (.int 1 :: st) w o w1) : z_R G j pc ls st w o w1 := by
  obtain ⟨h2_, z0_, ins_, len_, hz_, hi_, hf_⟩ := z_any h
  unfold zx_cs19 at hf_
  split at hf_
  · rename_i ix_
    simp only [Bool.and_eq_true] at hf_
    obtain ⟨g1_, g2_, g3_⟩ := hf_
    obtain ⟨rfl, rfl⟩ := xn_of g1_
    have g4_ : ix_ = 38 := Nat.eq_of_beq_eq_true g2_
    have g5_ : ev_own1 z0_ = 19 := Nat.eq_of_beq_eq_true g3_
    subst g4_
    intro D cy base ext
    refine ev_pstep (kk h2_ D cy base ext) (fun z hz p e R s m args below meth c hC H locs cells slots Q L hM hS hE hcR hsR k => ?_)
    cases hz_.symm.trans hz
    have hd := hi_
    have ho := hC.2.2.2.2.2.2.2.2.2.2.2.1
    rw [g5_] at ho
    have ho' : "java/lang/String" = (ev_y z0_).cls := ho
    have hA := hC.2.2.2.2.2.2.2.2.2.1.2.2.2.2.2.2.2.2.1
    exact va_gets (C := "java/lang/String") (ref := "java/lang/String") hC.1 hC.2.1 (hA.1) hS hC.2.2.2.2.1 (hC.2.2.2.2.2.1 _ (by rw [← ho']; exact xw_cs19)) (fun _ h9 => h9) hd k
  · cases hf_
set_option maxRecDepth 100000 in
theorem xw_cs25 : Cond.fieldLink "java/lang/AbstractStringBuilder" 18 "java/lang/String" "COMPACT_STRINGS" "Z" ∈ ev_all := List.mem_filter.mpr ⟨List.mem_of_getElem? (i := 1379) (by decide +kernel), rfl⟩
def zx_cs25 (pc n : Nat) (z : ev_ME) (ins : Instr) (len : Nat) : Bool := match ins with
  | .getstatic ix => xn pc len n 3 && (Nat.beq ix 18 && Nat.beq (ev_own1 z) 25)
  | _ => false
theorem x_cs25 (h : z_all (z_at j pc (zx_cs25 pc n) :: t) = true) (kk : z_all t = true → z_R G j n ls (.int 1 :: st) w o w1) : z_R G j pc ls st w o w1 := by
  obtain ⟨h2_, z0_, ins_, len_, hz_, hi_, hf_⟩ := z_any h
  unfold zx_cs25 at hf_
  split at hf_
  · rename_i ix_
    simp only [Bool.and_eq_true] at hf_
    obtain ⟨g1_, g2_, g3_⟩ := hf_
    obtain ⟨rfl, rfl⟩ := xn_of g1_
    have g4_ : ix_ = 18 := Nat.eq_of_beq_eq_true g2_
    have g5_ : ev_own1 z0_ = 25 := Nat.eq_of_beq_eq_true g3_
    subst g4_
    intro D cy base ext
    refine ev_pstep (kk h2_ D cy base ext) (fun z hz p e R s m args below meth c hC H locs cells slots Q L hM hS hE hcR hsR k => ?_)
    cases hz_.symm.trans hz
    have hd := hi_
    have ho := hC.2.2.2.2.2.2.2.2.2.2.2.1
    rw [g5_] at ho
    have ho' : "java/lang/AbstractStringBuilder" = (ev_y z0_).cls := ho
    have hA := hC.2.2.2.2.2.2.2.2.2.1.2.2.2.2.2.2.2.2.1
    exact va_gets (C := "java/lang/String") (ref := "java/lang/String") hC.1 hC.2.1 (hA.1) hS hC.2.2.2.2.1 (hC.2.2.2.2.2.1 _ (by rw [← ho']; exact xw_cs25)) (fun _ h9 => h9) hd k
  · cases hf_
set_option maxRecDepth 100000 in
theorem xw_empt : Cond.fieldLink "java/util/ArrayList" 39 "java/util/ArrayList" "DEFAULTCAPACITY_EMPTY_ELEMENTDATA" "[Ljava/lang/Object;" ∈ ev_all := List.mem_filter.mpr ⟨List.mem_of_getElem? (i := 1160) (by decide +kernel), rfl⟩
def zx_empt (pc n : Nat) (z : ev_ME) (ins : Instr) (len : Nat) : Bool := match ins with
  | .getstatic ix => xn pc len n 3 && (Nat.beq ix 39 && Nat.beq (ev_own1 z) 17)
  | _ => false
theorem x_empt (h : z_all (z_at j pc (zx_empt pc n) :: t) = true) (kk : z_all t = true → z_R G j n ls (.ref (ev_S + 100) :: st) w o w1) : z_R G j pc ls st w o w1 := by
  obtain ⟨h2_, z0_, ins_, len_, hz_, hi_, hf_⟩ := z_any h
  unfold zx_empt at hf_
  split at hf_
  · rename_i ix_
    simp only [Bool.and_eq_true] at hf_
    obtain ⟨g1_, g2_, g3_⟩ := hf_
    obtain ⟨rfl, rfl⟩ := xn_of g1_
    have g4_ : ix_ = 39 := Nat.eq_of_beq_eq_true g2_
    have g5_ : ev_own1 z0_ = 17 := Nat.eq_of_beq_eq_true g3_
    subst g4_
    intro D cy base ext
    refine ev_pstep (kk h2_ D cy base ext) (fun z hz p e R s m args below meth c hC H locs cells slots Q L hM hS hE hcR hsR k => ?_)
    cases hz_.symm.trans hz
    have hd := hi_
    have ho := hC.2.2.2.2.2.2.2.2.2.2.2.1
    rw [g5_] at ho
    have ho' : "java/util/ArrayList" = (ev_y z0_).cls := ho
    have hA := hC.2.2.2.2.2.2.2.2.2.1.2.2.2.2.2.2.2.2.1
    have k : W p G.2.2 e R s m args below meth c H locs cells slots Q (F0 m (pc + 3) L (.ref (ev_ρ base ext (ev_S + 100)) :: st.map (ev_v base ext))) := k
    rw [ev_ρ_x] at k
    exact va_gets (C := "java/util/ArrayList") (ref := "java/util/ArrayList") hC.1 hC.2.1 (hA.2.2.1) hS hC.2.2.2.2.1 (hC.2.2.2.2.2.1 _ (by rw [← ho']; exact xw_empt)) (fun _ h9 => h9) hd k
  · cases hf_
set_option maxRecDepth 100000 in
theorem xw_ones : Cond.fieldLink "java/lang/Integer" 83 "java/lang/Integer" "DigitOnes" "[B" ∈ ev_all := List.mem_filter.mpr ⟨List.mem_of_getElem? (i := 1453) (by decide +kernel), rfl⟩
def zx_ones (pc n : Nat) (z : ev_ME) (ins : Instr) (len : Nat) : Bool := match ins with
  | .getstatic ix => xn pc len n 3 && (Nat.beq ix 83 && Nat.beq (ev_own1 z) 22)
  | _ => false
theorem x_ones (h : z_all (z_at j pc (zx_ones pc n) :: t) = true) (kk : z_all t = true → z_R G j n ls (.ref (ev_S + 101) :: st) w o w1) : z_R G j pc ls st w o w1 := by
  obtain ⟨h2_, z0_, ins_, len_, hz_, hi_, hf_⟩ := z_any h
  unfold zx_ones at hf_
  split at hf_
  · rename_i ix_
    simp only [Bool.and_eq_true] at hf_
    obtain ⟨g1_, g2_, g3_⟩ := hf_
    obtain ⟨rfl, rfl⟩ := xn_of g1_
    have g4_ : ix_ = 83 := Nat.eq_of_beq_eq_true g2_
    have g5_ : ev_own1 z0_ = 22 := Nat.eq_of_beq_eq_true g3_
    subst g4_
    intro D cy base ext
    refine ev_pstep (kk h2_ D cy base ext) (fun z hz p e R s m args below meth c hC H locs cells slots Q L hM hS hE hcR hsR k => ?_)
    cases hz_.symm.trans hz
    have hd := hi_
    have ho := hC.2.2.2.2.2.2.2.2.2.2.2.1
    rw [g5_] at ho
    have ho' : "java/lang/Integer" = (ev_y z0_).cls := ho
    have hA := hC.2.2.2.2.2.2.2.2.2.1.2.2.2.2.2.2.2.2.1
    have k : W p G.2.2 e R s m args below meth c H locs cells slots Q (F0 m (pc + 3) L (.ref (ev_ρ base ext (ev_S + 101)) :: st.map (ev_v base ext))) := k
    rw [ev_ρ_x] at k
    exact va_gets (C := "java/lang/Integer") (ref := "java/lang/Integer") hC.1 hC.2.1 (hA.2.2.2.2.1) hS hC.2.2.2.2.1 (hC.2.2.2.2.2.1 _ (by rw [← ho']; exact xw_ones)) (fun _ h9 => h9) hd k
  · cases hf_
set_option maxRecDepth 100000 in
theorem xw_tens : Cond.fieldLink "java/lang/Integer" 87 "java/lang/Integer" "DigitTens" "[B" ∈ ev_all := List.mem_filter.mpr ⟨List.mem_of_getElem? (i := 1455) (by decide +kernel), rfl⟩
def zx_tens (pc n : Nat) (z : ev_ME) (ins : Instr) (len : Nat) : Bool := match ins with
  | .getstatic ix => xn pc len n 3 && (Nat.beq ix 87 && Nat.beq (ev_own1 z) 22)
  | _ => false
theorem x_tens (h : z_all (z_at j pc (zx_tens pc n) :: t) = true) (kk : z_all t = true → z_R G j n ls (.ref (ev_S + 102) :: st) w o w1) : z_R G j pc ls st w o w1 := by
  obtain ⟨h2_, z0_, ins_, len_, hz_, hi_, hf_⟩ := z_any h
  unfold zx_tens at hf_
  split at hf_
  · rename_i ix_
    simp only [Bool.and_eq_true] at hf_
    obtain ⟨g1_, g2_, g3_⟩ := hf_
    obtain ⟨rfl, rfl⟩ := xn_of g1_
    have g4_ : ix_ = 87 := Nat.eq_of_beq_eq_true g2_
    have g5_ : ev_own1 z0_ = 22 := Nat.eq_of_beq_eq_true g3_
    subst g4_
    intro D cy base ext
    refine ev_pstep (kk h2_ D cy base ext) (fun z hz p e R s m args below meth c hC H locs cells slots Q L hM hS hE hcR hsR k => ?_)
    cases hz_.symm.trans hz
    have hd := hi_
    have ho := hC.2.2.2.2.2.2.2.2.2.2.2.1
    rw [g5_] at ho
    have ho' : "java/lang/Integer" = (ev_y z0_).cls := ho
    have hA := hC.2.2.2.2.2.2.2.2.2.1.2.2.2.2.2.2.2.2.1
    have k : W p G.2.2 e R s m args below meth c H locs cells slots Q (F0 m (pc + 3) L (.ref (ev_ρ base ext (ev_S + 102)) :: st.map (ev_v base ext))) := k
    rw [ev_ρ_x] at k
    exact va_gets (C := "java/lang/Integer") (ref := "java/lang/Integer") hC.1 hC.2.1 (hA.2.2.2.2.2.2.1) hS hC.2.2.2.2.1 (hC.2.2.2.2.2.1 _ (by rw [← ho']; exact xw_tens)) (fun _ h9 => h9) hd k
  · cases hf_
set_option maxRecDepth 100000 in
theorem xw_lbas : Cond.fieldLink "jdk/internal/util/ArraysSupport" 170 "jdk/internal/misc/Unsafe" "ARRAY_LONG_BASE_OFFSET" "I" ∈ ev_all := List.mem_filter.mpr ⟨List.mem_of_getElem? (i := 1647) (by decide +kernel), rfl⟩
def zx_lbas (pc n : Nat) (z : ev_ME) (ins : Instr) (len : Nat) : Bool := match ins with
  | .getstatic ix => xn pc len n 3 && (Nat.beq ix 170 && Nat.beq (ev_own1 z) 27)
  | _ => false
theorem x_lbas (h : z_all (z_at j pc (zx_lbas pc n) :: t) = true) (kk : z_all t = true → z_R G j n ls (.int 16 :: st) w o w1) : z_R G j pc ls st w o w1 := by
  obtain ⟨h2_, z0_, ins_, len_, hz_, hi_, hf_⟩ := z_any h
  unfold zx_lbas at hf_
  split at hf_
  · rename_i ix_
    simp only [Bool.and_eq_true] at hf_
    obtain ⟨g1_, g2_, g3_⟩ := hf_
    obtain ⟨rfl, rfl⟩ := xn_of g1_
    have g4_ : ix_ = 170 := Nat.eq_of_beq_eq_true g2_
    have g5_ : ev_own1 z0_ = 27 := Nat.eq_of_beq_eq_true g3_
    subst g4_
    intro D cy base ext
    refine ev_pstep (kk h2_ D cy base ext) (fun z hz p e R s m args below meth c hC H locs cells slots Q L hM hS hE hcR hsR k => ?_)
    cases hz_.symm.trans hz
    have hd := hi_
    have ho := hC.2.2.2.2.2.2.2.2.2.2.2.1
    rw [g5_] at ho
    have ho' : "jdk/internal/util/ArraysSupport" = (ev_y z0_).cls := ho
    have hA := hC.2.2.2.2.2.2.2.2.2.1.2.2.2.2.2.2.2.2.1
    exact va_gets (C := "jdk/internal/misc/Unsafe") (ref := "jdk/internal/misc/Unsafe") hC.1 hC.2.1 (hA.2.2.2.2.2.2.2.2.2.2.1) hS hC.2.2.2.2.1 (hC.2.2.2.2.2.1 _ (by rw [← ho']; exact xw_lbas)) (fun _ h9 => h9) hd k
  · cases hf_
set_option maxRecDepth 100000 in
theorem xw_lsca : Cond.fieldLink "jdk/internal/util/ArraysSupport" 20 "jdk/internal/util/ArraysSupport" "LOG2_ARRAY_LONG_INDEX_SCALE" "I" ∈ ev_all := List.mem_filter.mpr ⟨List.mem_of_getElem? (i := 1649) (by decide +kernel), rfl⟩
def zx_lsca (pc n : Nat) (z : ev_ME) (ins : Instr) (len : Nat) : Bool := match ins with
  | .getstatic ix => xn pc len n 3 && (Nat.beq ix 20 && Nat.beq (ev_own1 z) 27)
  | _ => false
theorem x_lsca (h : z_all (z_at j pc (zx_lsca pc n) :: t) = true) (kk : z_all t = true → z_R G j n ls (.int 3 :: st) w o w1) : z_R G j pc ls st w o w1 := by
  obtain ⟨h2_, z0_, ins_, len_, hz_, hi_, hf_⟩ := z_any h
  unfold zx_lsca at hf_
  split at hf_
  · rename_i ix_
    simp only [Bool.and_eq_true] at hf_
    obtain ⟨g1_, g2_, g3_⟩ := hf_
    obtain ⟨rfl, rfl⟩ := xn_of g1_
    have g4_ : ix_ = 20 := Nat.eq_of_beq_eq_true g2_
    have g5_ : ev_own1 z0_ = 27 := Nat.eq_of_beq_eq_true g3_
    subst g4_
    intro D cy base ext
    refine ev_pstep (kk h2_ D cy base ext) (fun z hz p e R s m args below meth c hC H locs cells slots Q L hM hS hE hcR hsR k => ?_)
    cases hz_.symm.trans hz
    have hd := hi_
    have ho := hC.2.2.2.2.2.2.2.2.2.2.2.1
    rw [g5_] at ho
    have ho' : "jdk/internal/util/ArraysSupport" = (ev_y z0_).cls := ho
    have hA := hC.2.2.2.2.2.2.2.2.2.1.2.2.2.2.2.2.2.2.1
    exact va_gets (C := "jdk/internal/util/ArraysSupport") (ref := "jdk/internal/util/ArraysSupport") hC.1 hC.2.1 (hA.2.2.2.2.2.2.2.2.2.2.2.1) hS hC.2.2.2.2.1 (hC.2.2.2.2.2.1 _ (by rw [← ho']; exact xw_lsca)) (fun _ h9 => h9) hd k
  · cases hf_
def zx_elen (pc n : Nat) (z : ev_ME) (ins : Instr) (len : Nat) : Bool := match ins with
  | .arraylength => xn pc len n 1
  | _ => false
theorem x_elen {u_ : Unit} (h : z_all (z_at j pc (zx_elen pc n) :: t) = true) (kk : z_all t = true → z_R G j n ls (.int (Int32.ofNat 0) :: r) w o w1) : z_R G j pc ls (.ref (ev_S + 100) :: r) w o w1 := by
  obtain ⟨h2_, z0_, ins_, len_, hz_, hi_, hf_⟩ := z_any h
  unfold zx_elen at hf_
  split at hf_
  · obtain ⟨rfl, rfl⟩ := xn_of hf_
    intro D cy base ext
    refine ev_pstep (kk h2_ D cy base ext) (fun z hz p e R s m args below meth c hC H locs cells slots Q L hM hS hE hcR hsR k => ?_)
    cases hz_.symm.trans hz
    have hd := hi_
    have hA := hC.2.2.2.2.2.2.2.2.2.1.2.2.2.2.2.2.2.2.1
    show W p G.2.2 e R s m args below meth c H locs cells slots Q (F0 m pc L (.ref (ev_ρ base ext (ev_S + 100)) :: r.map (ev_v base ext)))
    rw [ev_ρ_x]
    exact va_tlen hC.1 hC.2.1 hA.2.2.2.1 hS rfl hd k
  · cases hf_
def zx_dig1 (pc n : Nat) (z : ev_ME) (ins : Instr) (len : Nat) : Bool := match ins with
  | .baload => xn pc len n 1
  | _ => false
theorem x_dig1 {i : Int32} (h : z_all (z_at j pc (zx_dig1 pc n) :: t) = true) (hi : ev_ok i 100 = true) (kk : z_all t = true → z_R G j n ls (.int (Int32.ofNat (48 + z_n i % 10)) :: r) w o w1) : z_R G j pc ls (.int i :: .ref (ev_S + 101) :: r) w o w1 := by
  obtain ⟨h2_, z0_, ins_, len_, hz_, hi_, hf_⟩ := z_any h
  unfold zx_dig1 at hf_
  split at hf_
  · obtain ⟨rfl, rfl⟩ := xn_of hf_
    intro D cy base ext
    refine ev_pstep (kk h2_ D cy base ext) (fun z hz p e R s m args below meth c hC H locs cells slots Q L hM hS hE hcR hsR k => ?_)
    cases hz_.symm.trans hz
    have hd := hi_
    have hA := hC.2.2.2.2.2.2.2.2.2.1.2.2.2.2.2.2.2.2.1
    show W p G.2.2 e R s m args below meth c H locs cells slots Q (F0 m pc L (.int i :: .ref (ev_ρ base ext (ev_S + 101)) :: r.map (ev_v base ext)))
    rw [ev_ρ_x]
    exact va_tb hC.1 hC.2.1 hA.2.2.2.2.2.1 hS (ev_ok_in hi) rfl hd k
  · cases hf_
def zx_dig2 (pc n : Nat) (z : ev_ME) (ins : Instr) (len : Nat) : Bool := match ins with
  | .baload => xn pc len n 1
  | _ => false
theorem x_dig2 {i : Int32} (h : z_all (z_at j pc (zx_dig2 pc n) :: t) = true) (hi : ev_ok i 100 = true) (kk : z_all t = true → z_R G j n ls (.int (Int32.ofNat (48 + z_n i / 10)) :: r) w o w1) : z_R G j pc ls (.int i :: .ref (ev_S + 102) :: r) w o w1 := by
  obtain ⟨h2_, z0_, ins_, len_, hz_, hi_, hf_⟩ := z_any h
  unfold zx_dig2 at hf_
  split at hf_
  · obtain ⟨rfl, rfl⟩ := xn_of hf_
    intro D cy base ext
    refine ev_pstep (kk h2_ D cy base ext) (fun z hz p e R s m args below meth c hC H locs cells slots Q L hM hS hE hcR hsR k => ?_)
    cases hz_.symm.trans hz
    have hd := hi_
    have hA := hC.2.2.2.2.2.2.2.2.2.1.2.2.2.2.2.2.2.2.1
    show W p G.2.2 e R s m args below meth c H locs cells slots Q (F0 m pc L (.int i :: .ref (ev_ρ base ext (ev_S + 102)) :: r.map (ev_v base ext)))
    rw [ev_ρ_x]
    exact va_tb hC.1 hC.2.1 hA.2.2.2.2.2.2.2.1 hS (ev_ok_in hi) rfl hd k
  · cases hf_
def zx_sald (pc n : Nat) (z : ev_ME) (ins : Instr) (len : Nat) : Bool := match ins with
  | .iaload => xn pc len n 1
  | _ => false
theorem x_sald {i : Int32} (h : z_all (z_at j pc (zx_sald pc n) :: t) = true) (hi : ev_ok i (w_L w ev_S) = true) (kk : z_all t = true → z_R G j n ls (.int (w_I w ev_S (z_n i)) :: r) w o w1) : z_R G j pc ls (.int i :: .ref ev_S :: r) w o w1 := by
  obtain ⟨h2_, z0_, ins_, len_, hz_, hi_, hf_⟩ := z_any h
  unfold zx_sald at hf_
  split at hf_
  · obtain ⟨rfl, rfl⟩ := xn_of hf_
    intro D cy base ext
    refine ev_pstep (kk h2_ D cy base ext) (fun z hz p e R s m args below meth c hC H locs cells slots Q L hM hS hE hcR hsR k => ?_)
    cases hz_.symm.trans hz
    have hd := hi_
    have hA := hC.2.2.2.2.2.2.2.2.2.1.2.2.2.2.2.2.2.2.1
    obtain ⟨x1, x2, x3⟩ := hC.2.2.2.2.2.2.2.2.2.2.2.2.2.2.2.2
    have hL := hM.2.2.2.2.1
    have hI := hM.2.2.2.2.2
    rw [hL] at hi
    show W p G.2.2 e R s m args below meth c H locs cells slots Q (F0 m pc L (.int i :: .ref (ev_ρ base ext (ev_S + 0)) :: r.map (ev_v base ext)))
    rw [ev_ρ_x]
    refine va_sld hC.1 hC.2.1 x1 x2 (fun q => absurd (show base ≤ ext ev_S from q) (by omega)) hS (ev_ok_in hi) hd ?_
    rw [← hI]
    exact k
  · cases hf_
def zx_slen (pc n : Nat) (z : ev_ME) (ins : Instr) (len : Nat) : Bool := match ins with
  | .arraylength => xn pc len n 1
  | _ => false
theorem x_slen {u_ : Unit} (h : z_all (z_at j pc (zx_slen pc n) :: t) = true) (kk : z_all t = true → z_R G j n ls (.int (Int32.ofNat (w_L w ev_S)) :: r) w o w1) : z_R G j pc ls (.ref ev_S :: r) w o w1 := by
  obtain ⟨h2_, z0_, ins_, len_, hz_, hi_, hf_⟩ := z_any h
  unfold zx_slen at hf_
  split at hf_
  · obtain ⟨rfl, rfl⟩ := xn_of hf_
    intro D cy base ext
    refine ev_pstep (kk h2_ D cy base ext) (fun z hz p e R s m args below meth c hC H locs cells slots Q L hM hS hE hcR hsR k => ?_)
    cases hz_.symm.trans hz
    have hd := hi_
    have hA := hC.2.2.2.2.2.2.2.2.2.1.2.2.2.2.2.2.2.2.1
    obtain ⟨x1, x2, x3⟩ := hC.2.2.2.2.2.2.2.2.2.2.2.2.2.2.2.2
    have hL := hM.2.2.2.2.1
    have hI := hM.2.2.2.2.2
    show W p G.2.2 e R s m args below meth c H locs cells slots Q (F0 m pc L (.ref (ev_ρ base ext (ev_S + 0)) :: r.map (ev_v base ext)))
    rw [ev_ρ_x]
    refine va_slen hC.1 hC.2.1 x1 x2 (fun q => absurd (show base ≤ ext ev_S from q) (by omega)) hS hd ?_
    rw [← hL]
    exact k
  · cases hf_
def zx_ldci (pc : Nat) (x : Int32) (n : Nat) (z : ev_ME) (ins : Instr) (len : Nat) : Bool := match ins with
  | .ldc ix => xn pc len n 2 && decide ((ev_own1 z, ix, x) ∈ ev_cst)
  | _ => false
theorem x_ldci {x : Int32} (h : z_all (z_at j pc (zx_ldci pc x n) :: t) = true) (kk : z_all t = true → z_R G j n ls (.int x :: st) w o w1) : z_R G j pc ls st w o w1 := by
  obtain ⟨h2_, z0_, ins_, len_, hz_, hi_, hf_⟩ := z_any h
  unfold zx_ldci at hf_
  split at hf_
  · rename_i ix_
    rw [Bool.and_eq_true, decide_eq_true_eq] at hf_
    obtain ⟨rfl, rfl⟩ := xn_of hf_.1
    intro D cy base ext
    refine ev_pstep (kk h2_ D cy base ext) (fun z hz p e R s m args below meth c hC H locs cells slots Q L hM hS hE hcR hsR k => ?_)
    cases hz_.symm.trans hz
    have hw_ : Cond.constant (ev_own.getD (ev_own1 z0_) "") ix_ x ∈ ev_all := ev_all_in ev_cstw_in (List.mem_map.mpr ⟨_, hf_.2, rfl⟩)
    rw [hC.2.2.2.2.2.2.2.2.2.2.2.1] at hw_
    exact lv_ldc hC.1 hC.2.1 hC.2.2.2.2.1 (hC.2.2.2.2.2.1 _ hw_) hi_ k
  · cases hf_
end XSTAT
section XCAL2
variable {G : z_G} {j pc n : Nat} {ls : ev_L} {st r : List Value} {w : ev_W} {o : Option Value ⊕ Nat} {w1 : ev_W} {t : List Bool}
def xtg (z : ev_ME) (ix j2 : Nat) : Bool := match ev_look2 (ev_own1 z) ix ev_tgt with
  | some k => Nat.beq k j2
  | none => false
theorem xtg_of {z : ev_ME} {ix j2 : Nat} (h : xtg z ix j2 = true) : ev_look2 (ev_own1 z) ix ev_tgt = some j2 := by
  unfold xtg at h
  split at h
  · rename_i q_ hq_
    rw [hq_, Nat.eq_of_beq_eq_true h]
  · cases h
def zx_cC (pc j2 na n : Nat) (z : ev_ME) (ins : Instr) (len : Nat) : Bool := match ins, ev_me j2 with
  | .invokevirtual ix, some e2 => xn pc len n 3 && (Nat.beq (ev_na e2) na && (ev_rmk z e2 && (xtg z ix j2)))
  | _, _ => false
theorem x_cC {j2 na a : Nat} {as rest : List Value} {v : Option Value} {w2 : ev_W} (h : z_all (z_at j pc (zx_cC pc j2 na n) :: t) = true) (hst : st = as.reverse ++ .ref a :: rest) (hlen : as.length = na) (hcat : Nat.ble (ev_cat rest) 8 = true) (ha : a < w_n w) (hk : w_K w a = 18) (hs9 : xSel j2) (hc : z_K G j2 (.ref a :: as) w (.inl v) w2) (kk : z_all t = true → z_R G j n ls (v.toList ++ rest) w2 o w1) : z_R G j pc ls st w o w1 := by
  subst hst
  obtain ⟨h2_, z0_, ins_, len_, hz_, hi_, hf_⟩ := z_any h
  unfold zx_cC at hf_
  split at hf_
  · rename_i ix_ e2_ he2_
    simp only [Bool.and_eq_true] at hf_
    obtain ⟨g1_, g2_, g3_, g4_⟩ := hf_
    obtain ⟨rfl, rfl⟩ := xn_of g1_
    intro D cy base ext
    obtain ⟨c1, c2, c3⟩ := hc D cy base ext e2_ he2_
    have hs := kk h2_ D cy base ext
    obtain ⟨q1_, q2_, q3_⟩ := hs9 e2_ he2_
    exact ev_x_call hz_ (ev_z_cls hz_) c2 c3 hs.1 hs.2.1 (fun v' hv' _ => by cases hv'; exact hs) (fun E hE => by cases hE) (xr_C (ls := ls) (r9 := (RJ4, TJ4, 4)) he2_ (by rw [hlen]; exact (Nat.eq_of_beq_eq_true g2_).symm) ha (Nat.le_of_ble_eq_true hcat) g3_ c1 q1_ q2_ hk (by decide) rfl (ev_tg_of (xtg_of g4_) he2_) q3_ hi_)
  · cases hf_
def zx_cI (pc j2 na n : Nat) (z : ev_ME) (ins : Instr) (len : Nat) : Bool := match ins, ev_me j2 with
  | .invokespecial ix, some e2 => xn pc len n 3 && (Nat.beq (ev_na e2) na && (ev_rmk z e2 && (Nat.beq (ev_kd e2) 2 && xtg z ix j2)))
  | _, _ => false
theorem x_cI {j2 na a : Nat} {as rest : List Value} {v : Option Value} {w2 : ev_W} (h : z_all (z_at j pc (zx_cI pc j2 na n) :: t) = true) (hst : st = as.reverse ++ .ref a :: rest) (hlen : as.length = na) (hcat : Nat.ble (ev_cat rest) 8 = true) (ha : a < w_n w) (hc : z_K G j2 (.ref a :: as) w (.inl v) w2) (kk : z_all t = true → z_R G j n ls (v.toList ++ rest) w2 o w1) : z_R G j pc ls st w o w1 := by
  subst hst
  obtain ⟨h2_, z0_, ins_, len_, hz_, hi_, hf_⟩ := z_any h
  unfold zx_cI at hf_
  split at hf_
  · rename_i ix_ e2_ he2_
    simp only [Bool.and_eq_true] at hf_
    obtain ⟨g1_, g2_, g3_, g4_⟩ := hf_
    obtain ⟨rfl, rfl⟩ := xn_of g1_
    intro D cy base ext
    obtain ⟨c1, c2, c3⟩ := hc D cy base ext e2_ he2_
    have hs := kk h2_ D cy base ext
    obtain ⟨g4_, g5_⟩ := g4_
    have g4_ : ev_kd e2_ = 2 := Nat.eq_of_beq_eq_true g4_
    have hrt_ : ev_rt e2_ = none := (ev_me_ok he2_).2.2.2.2.2.1 (Or.inl g4_) |>.2.2
    exact ev_x_call hz_ (ev_z_cls hz_) c2 c3 hs.1 hs.2.1 (fun v' hv' _ => by cases hv'; exact hs) (fun E hE => by cases hE) (ev_runI (ls := ls) (Or.inl ⟨xtg_of g5_, g4_⟩) he2_ (by rw [hlen]; exact (Nat.eq_of_beq_eq_true g2_).symm) ha (Nat.le_of_ble_eq_true hcat) g3_ hi_ c1)
  · cases hf_
def zx_cN (pc j2 na n : Nat) (z : ev_ME) (ins : Instr) (len : Nat) : Bool := match ins, ev_me j2 with
  | .invokespecial ix, some e2 => xn pc len n 3 && (Nat.beq (ev_na e2) na && (ev_rmk z e2 && (Nat.beq (ev_kd e2) 3 && (List.contains [(20, 27, 148), (20, 53, 153)] (ev_own1 z, ix, j2)))))
  | _, _ => false
theorem x_cN {j2 na a : Nat} {as rest : List Value} {v : Option Value} {w2 : ev_W} (h : z_all (z_at j pc (zx_cN pc j2 na n) :: t) = true) (hst : st = as.reverse ++ .ref a :: rest) (hlen : as.length = na) (hcat : Nat.ble (ev_cat rest) 8 = true) (ha : a < w_n w) (hc : z_K G j2 (.ref a :: as) w (.inl v) w2) (kk : z_all t = true → z_R G j n ls (v.toList ++ rest) w2 o w1) : z_R G j pc ls st w o w1 := by
  subst hst
  obtain ⟨h2_, z0_, ins_, len_, hz_, hi_, hf_⟩ := z_any h
  unfold zx_cN at hf_
  split at hf_
  · rename_i ix_ e2_ he2_
    simp only [Bool.and_eq_true] at hf_
    obtain ⟨g1_, g2_, g3_, g4_⟩ := hf_
    obtain ⟨rfl, rfl⟩ := xn_of g1_
    intro D cy base ext
    obtain ⟨c1, c2, c3⟩ := hc D cy base ext e2_ he2_
    have hs := kk h2_ D cy base ext
    obtain ⟨g4_, g5_⟩ := g4_
    have g4_ : ev_kd e2_ = 3 := Nat.eq_of_beq_eq_true g4_
    have hk9_ := (ev_me_ok he2_).2.2.2.2.2.1 (Or.inr g4_)
    have hl9_ : Cond.methodLinkNest (ev_own.getD (ev_own1 z0_) "") ix_ (ev_y e2_) "FlagLaundryLaw" ∈ ev_nslw := by
      have g6_ : (ev_own1 z0_, ix_, j2) = (20, 27, 148) ∨ (ev_own1 z0_, ix_, j2) = (20, 53, 153) := by simpa using g5_
      rcases g6_ with g6_ | g6_ <;> (injection g6_ with q1_ q2_; injection q2_ with q2_ q3_; subst q2_ q3_; rw [q1_])
      · rw [xy_of (y := ⟨"FlagLaundryLaw$Desk", "<init>", "()V"⟩) (by decide +kernel) he2_]; exact List.mem_cons_self
      · rw [xy_of (y := ⟨"FlagLaundryLaw$Flag", "<init>", "()V"⟩) (by decide +kernel) he2_]; exact List.mem_cons_of_mem _ List.mem_cons_self
    exact ev_x_call hz_ (ev_z_cls hz_) c2 c3 hs.1 hs.2.1 (fun v' hv' _ => by cases hv'; exact hs) (fun E hE => by cases hE) (xr_IN (ls := ls) he2_ (by rw [hlen]; exact (Nat.eq_of_beq_eq_true g2_).symm) ha (Nat.le_of_ble_eq_true hcat) g3_ c1 (by rw [g4_]; decide) hk9_.2.1 hk9_.2.2 hk9_.1 hl9_ hi_)
  · cases hf_
/-- what a StringBuilder's own methods call of their superclass -/
def xSup (j2 : Nat) : Prop := ∀ e2, ev_me j2 = some e2 → ev_kd e2 ≠ 0 ∧ ev_hh e2 = [] ∧ Cond.sameMethod (ev_y e2).cls (ev_y e2).cls (ev_y e2).name (ev_y e2).desc ∈ ev_all ∧ Cond.superclass "java/lang/StringBuilder" (ev_y e2).cls ∈ ev_all ∧ (ev_y e2).name ≠ "<init>"
theorem xSup_of {j2 : Nat} {nm ds : String} (hy : xyb j2 (yA nm ds) 4 = true) (hp : Cond.sameMethod "java/lang/AbstractStringBuilder" "java/lang/AbstractStringBuilder" nm ds ∈ ev_all) (hn : nm ≠ "<init>") : xSup j2 := by
  intro e2 h2
  obtain ⟨y1, y2, y3⟩ := xyb_of hy h2
  rw [y1]
  exact ⟨by rw [y2]; decide, y3, hp, xs_sup, hn⟩
theorem xs_180 : xSup 180 := xSup_of (nm := "append") (ds := "(Ljava/lang/String;)Ljava/lang/AbstractStringBuilder;") (by decide +kernel) xs_sm1.1 (by decide)
theorem xs_181 : xSup 181 := xSup_of (nm := "append") (ds := "(C)Ljava/lang/AbstractStringBuilder;") (by decide +kernel) xs_sm1.2.2.1 (by decide)
theorem xs_182 : xSup 182 := xSup_of (nm := "append") (ds := "(I)Ljava/lang/AbstractStringBuilder;") (by decide +kernel) xs_sm1.2.1 (by decide)
theorem xs_189 : xSup 189 := xSup_of (nm := "length") (ds := "()I") (by decide +kernel) xs_sm1.2.2.2 (by decide)
def zx_cS (pc j2 na n : Nat) (z : ev_ME) (ins : Instr) (len : Nat) : Bool := match ins, ev_me j2 with
  | .invokespecial ix, some e2 => xn pc len n 3 && (Nat.beq (ev_na e2) na && (ev_rmk z e2 && (Nat.beq (ev_own1 z) 18 && xtg z ix j2)))
  | _, _ => false
theorem x_cS {j2 na a : Nat} {as rest : List Value} {v : Option Value} {w2 : ev_W} (h : z_all (z_at j pc (zx_cS pc j2 na n) :: t) = true) (hst : st = as.reverse ++ .ref a :: rest) (hlen : as.length = na) (hcat : Nat.ble (ev_cat rest) 8 = true) (ha : a < w_n w) (hk : w_K w a = 18) (hs9 : xSup j2) (hc : z_K G j2 (.ref a :: as) w (.inl v) w2) (kk : z_all t = true → z_R G j n ls (v.toList ++ rest) w2 o w1) : z_R G j pc ls st w o w1 := by
  subst hst
  obtain ⟨h2_, z0_, ins_, len_, hz_, hi_, hf_⟩ := z_any h
  unfold zx_cS at hf_
  split at hf_
  · rename_i ix_ e2_ he2_
    simp only [Bool.and_eq_true] at hf_
    obtain ⟨g1_, g2_, g3_, g4_⟩ := hf_
    obtain ⟨rfl, rfl⟩ := xn_of g1_
    intro D cy base ext
    obtain ⟨c1, c2, c3⟩ := hc D cy base ext e2_ he2_
    have hs := kk h2_ D cy base ext
    obtain ⟨g4_, g5_⟩ := g4_
    obtain ⟨q1_, q2_, q3_, q4_, q5_⟩ := hs9 e2_ he2_
    exact ev_x_call hz_ (ev_z_cls hz_) c2 c3 hs.1 hs.2.1 (fun v' hv' _ => by cases hv'; exact hs) (fun E hE => by cases hE) (xr_SU (ls := ls) (r9 := (RJ4, TJ4, 4)) he2_ (by rw [hlen]; exact (Nat.eq_of_beq_eq_true g2_).symm) ha (Nat.le_of_ble_eq_true hcat) g3_ c1 q1_ q2_ hk (by decide) rfl (ev_tg_of (xtg_of g5_) he2_) (Nat.eq_of_beq_eq_true g4_) q3_ q4_ q5_ hi_)
  · cases hf_
def zx_cUa (pc j2 na n : Nat) (z : ev_ME) (ins : Instr) (len : Nat) : Bool := match ins, ev_me j2 with
  | .invokevirtual ix, some e2 => xn pc len n 3 && (Nat.beq (ev_na e2) na && (ev_rmk z e2 && (Nat.beq (ev_own1 z) 25 && Nat.beq ix 43 && Nat.beq j2 177 && xtg z ix 180)))
  | _, _ => false
theorem x_cUa {j2 na a : Nat} {as rest : List Value} {v : Option Value} {w2 : ev_W} (h : z_all (z_at j pc (zx_cUa pc j2 na n) :: t) = true) (hst : st = as.reverse ++ .ref a :: rest) (hlen : as.length = na) (hcat : Nat.ble (ev_cat rest) 8 = true) (ha : a < w_n w) (hk : w_K w a = 18) (hc : z_K G j2 (.ref a :: as) w (.inl v) w2) (kk : z_all t = true → z_R G j n ls (v.toList ++ rest) w2 o w1) : z_R G j pc ls st w o w1 := by
  subst hst
  obtain ⟨h2_, z0_, ins_, len_, hz_, hi_, hf_⟩ := z_any h
  unfold zx_cUa at hf_
  split at hf_
  · rename_i ix_ e2_ he2_
    simp only [Bool.and_eq_true] at hf_
    obtain ⟨g1_, g2_, g3_, g4_⟩ := hf_
    obtain ⟨rfl, rfl⟩ := xn_of g1_
    intro D cy base ext
    obtain ⟨c1, c2, c3⟩ := hc D cy base ext e2_ he2_
    have hs := kk h2_ D cy base ext
    obtain ⟨⟨⟨g4_, g5_⟩, g6_⟩, g7_⟩ := g4_
    have g6_ : j2 = 177 := Nat.eq_of_beq_eq_true g6_
    subst g6_
    obtain ⟨y1_, q1_, q2_⟩ := xyb_of (kd := 4) (y := ⟨"java/lang/StringBuilder", "append", "(Ljava/lang/String;)Ljava/lang/AbstractStringBuilder;"⟩) (by decide +kernel) he2_
    have q1_ : ev_kd e2_ ≠ 0 := by rw [q1_]; decide
    have y4_ : ev_na e2_ = 1 := by
      have h8_ : (ev_me 177).map ev_na = some 1 := by decide +kernel
      rw [he2_] at h8_
      exact Option.some.inj h8_
    obtain ⟨ex_, hex_⟩ : ∃ ex, ev_me 180 = some ex := ⟨_, rfl⟩
    obtain ⟨x1_, x2_, x3_⟩ := xyb_of (kd := 4) (y := (yA "append" "(Ljava/lang/String;)Ljava/lang/AbstractStringBuilder;")) (by decide +kernel) hex_
    have x2_ : ev_kd ex_ ≠ 0 := by rw [x2_]; decide
    have hl9_ : Cond.methodLink (ev_own.getD (ev_own1 z0_) "") ix_ (yA "append" "(Ljava/lang/String;)Ljava/lang/AbstractStringBuilder;") ∈ ev_all := by
      have h8_ := ev_tg_of (xtg_of g7_) hex_
      rw [x1_] at h8_
      exact h8_
    have hdc_ : ∀ (args : Array Value) (s : State), (∀ w ∈ ev_all, w.before args s = true) → va_Decl s (yA "append" "(Ljava/lang/String;)Ljava/lang/AbstractStringBuilder;") := fun args s hts => by
      have hw_ := ev_me_words hex_
      have hcw_ : ev_cw ex_ = Cond.code (ev_y ex_) (ev_by ex_) (ev_ml ex_) (ev_rt ex_) := by
        unfold ev_cw
        rw [x3_]
      have hi9_ := hts _ (hw_.2.2.2.1 x2_)
      have hc9_ := hts _ hw_.1
      rw [hcw_] at hc9_
      rw [x1_] at hi9_ hc9_
      exact va_Decl.of hi9_ hc9_
    have hx9_ : ∀ sig, parseMethodDescriptor (yA "append" "(Ljava/lang/String;)Ljava/lang/AbstractStringBuilder;").desc = some sig → ev_na e2_ = sig.parameters.length := fun sig hsig => by
      have h8_ : (parseMethodDescriptor (yA "append" "(Ljava/lang/String;)Ljava/lang/AbstractStringBuilder;").desc).map (fun d => d.parameters.length) = some 1 := by decide +kernel
      rw [hsig] at h8_
      rw [y4_]
      exact (Option.some.inj h8_).symm
    exact ev_x_call hz_ (ev_z_cls hz_) c2 c3 hs.1 hs.2.1 (fun v' hv' _ => by cases hv'; exact hs) (fun E hE => by cases hE) (xr_U (ls := ls) (r9 := (RJ4, TJ4, 4)) (x := (yA "append" "(Ljava/lang/String;)Ljava/lang/AbstractStringBuilder;")) (ow := "java/lang/AbstractStringBuilder") he2_ (by rw [hlen]; exact (Nat.eq_of_beq_eq_true g2_).symm) ha (Nat.le_of_ble_eq_true hcat) g3_ c1 q1_ q2_ hk (by decide) rfl hl9_ xs_sm1.1 hdc_ ⟨by decide, by decide⟩ hx9_ (by rw [y1_]; exact xs_app) hi_)
  · cases hf_
def zx_cUl (pc j2 na n : Nat) (z : ev_ME) (ins : Instr) (len : Nat) : Bool := match ins, ev_me j2 with
  | .invokevirtual ix, some e2 => xn pc len n 3 && (Nat.beq (ev_na e2) na && (ev_rmk z e2 && (Nat.beq (ev_own1 z) 19 && Nat.beq ix 549 && Nat.beq j2 215 && xtg z ix 189)))
  | _, _ => false
theorem x_cUl {j2 na a : Nat} {as rest : List Value} {v : Option Value} {w2 : ev_W} (h : z_all (z_at j pc (zx_cUl pc j2 na n) :: t) = true) (hst : st = as.reverse ++ .ref a :: rest) (hlen : as.length = na) (hcat : Nat.ble (ev_cat rest) 8 = true) (ha : a < w_n w) (hk : w_K w a = 18) (hc : z_K G j2 (.ref a :: as) w (.inl v) w2) (kk : z_all t = true → z_R G j n ls (v.toList ++ rest) w2 o w1) : z_R G j pc ls st w o w1 := by
  subst hst
  obtain ⟨h2_, z0_, ins_, len_, hz_, hi_, hf_⟩ := z_any h
  unfold zx_cUl at hf_
  split at hf_
  · rename_i ix_ e2_ he2_
    simp only [Bool.and_eq_true] at hf_
    obtain ⟨g1_, g2_, g3_, g4_⟩ := hf_
    obtain ⟨rfl, rfl⟩ := xn_of g1_
    intro D cy base ext
    obtain ⟨c1, c2, c3⟩ := hc D cy base ext e2_ he2_
    have hs := kk h2_ D cy base ext
    obtain ⟨⟨⟨g4_, g5_⟩, g6_⟩, g7_⟩ := g4_
    have g6_ : j2 = 215 := Nat.eq_of_beq_eq_true g6_
    subst g6_
    obtain ⟨y1_, q1_, q2_⟩ := xyb_of (kd := 4) (y := ⟨"java/lang/StringBuilder", "length", "()I"⟩) (by decide +kernel) he2_
    have q1_ : ev_kd e2_ ≠ 0 := by rw [q1_]; decide
    have y4_ : ev_na e2_ = 0 := by
      have h8_ : (ev_me 215).map ev_na = some 0 := by decide +kernel
      rw [he2_] at h8_
      exact Option.some.inj h8_
    obtain ⟨ex_, hex_⟩ : ∃ ex, ev_me 189 = some ex := ⟨_, rfl⟩
    obtain ⟨x1_, x2_, x3_⟩ := xyb_of (kd := 4) (y := (yA "length" "()I")) (by decide +kernel) hex_
    have x2_ : ev_kd ex_ ≠ 0 := by rw [x2_]; decide
    have hl9_ : Cond.methodLink (ev_own.getD (ev_own1 z0_) "") ix_ (yA "length" "()I") ∈ ev_all := by
      have h8_ := ev_tg_of (xtg_of g7_) hex_
      rw [x1_] at h8_
      exact h8_
    have hdc_ : ∀ (args : Array Value) (s : State), (∀ w ∈ ev_all, w.before args s = true) → va_Decl s (yA "length" "()I") := fun args s hts => by
      have hw_ := ev_me_words hex_
      have hcw_ : ev_cw ex_ = Cond.code (ev_y ex_) (ev_by ex_) (ev_ml ex_) (ev_rt ex_) := by
        unfold ev_cw
        rw [x3_]
      have hi9_ := hts _ (hw_.2.2.2.1 x2_)
      have hc9_ := hts _ hw_.1
      rw [hcw_] at hc9_
      rw [x1_] at hi9_ hc9_
      exact va_Decl.of hi9_ hc9_
    have hx9_ : ∀ sig, parseMethodDescriptor (yA "length" "()I").desc = some sig → ev_na e2_ = sig.parameters.length := fun sig hsig => by
      have h8_ : (parseMethodDescriptor (yA "length" "()I").desc).map (fun d => d.parameters.length) = some 0 := by decide +kernel
      rw [hsig] at h8_
      rw [y4_]
      exact (Option.some.inj h8_).symm
    exact ev_x_call hz_ (ev_z_cls hz_) c2 c3 hs.1 hs.2.1 (fun v' hv' _ => by cases hv'; exact hs) (fun E hE => by cases hE) (xr_U (ls := ls) (r9 := (RJ4, TJ4, 4)) (x := (yA "length" "()I")) (ow := "java/lang/AbstractStringBuilder") he2_ (by rw [hlen]; exact (Nat.eq_of_beq_eq_true g2_).symm) ha (Nat.le_of_ble_eq_true hcat) g3_ c1 q1_ q2_ hk (by decide) rfl hl9_ xs_sm1.2.2.2 hdc_ ⟨by decide, by decide⟩ hx9_ (by rw [y1_]; exact xs_len) hi_)
  · cases hf_
/-! walks that end somewhere -/
def z_Q (G : z_G) (j pc : Nat) (ls : ev_L) (st : List Value) (w : ev_W) (P : Option Value → ev_W → Prop) : Prop := ∃ v w1, z_R G j pc ls st w (.inl v) w1 ∧ P v w1
def z_N (G : z_G) (j : Nat) (as : List Value) (w : ev_W) (P : Option Value → ev_W → Prop) : Prop := ∃ v w1, z_K G j as w (.inl v) w1 ∧ P v w1
theorem q_s {P : Option Value → ev_W → Prop} {b : Bool} {pc' : Nat} {ls' : ev_L} {st' : List Value} {w' : ev_W} (hB : z_all (b :: t) = true) (hr : ∀ o w1, (z_all t = true → z_R G j pc' ls' st' w' o w1) → z_R G j pc ls st w o w1) (k : z_all t = true → z_Q G j pc' ls' st' w' P) : z_Q G j pc ls st w P := by
  obtain ⟨v_, w_, h_, p_⟩ := k (z_cons hB).2
  exact ⟨v_, w_, hr _ _ (fun _ => h_), p_⟩
theorem q_r {P : Option Value → ev_W → Prop} {v : Option Value} (hr : z_R G j pc ls st w (.inl v) w) (hp : P v w) : z_Q G j pc ls st w P := ⟨v, w, hr, hp⟩
theorem q_con (hl : G.2.2.stackTraces = false) {as : List Value} {P : Option Value → ev_W → Prop} {ml : Nat} (hm : ((ev_me j).map ev_ml) = some ml) (hc : as.all (fun v => Nat.beq v.category 1) = true) (hn : Nat.ble as.length ml = true) (h : z_Q G j 0 (ev_in ml as) [] w P) : z_N G j as w P := by
  obtain ⟨v_, w_, h_, p_⟩ := h
  exact ⟨v_, w_, z_con hl hm hc hn h_, p_⟩
theorem q_w {P P' : Option Value → ev_W → Prop} (h : z_Q G j pc ls st w P) (hp : ∀ v w1, P v w1 → P' v w1) : z_Q G j pc ls st w P' := by
  obtain ⟨v_, w_, h_, p_⟩ := h
  exact ⟨v_, w_, h_, hp _ _ p_⟩
theorem n_w {as : List Value} {P P' : Option Value → ev_W → Prop} (h : z_N G j as w P) (hp : ∀ v w1, P v w1 → P' v w1) : z_N G j as w P' := by
  obtain ⟨v_, w_, h_, p_⟩ := h
  exact ⟨v_, w_, h_, hp _ _ p_⟩
end XCAL2
