/-! longs in locals and arguments: by wip/gen/p64/x64j.py -/
def ev_flat (as : List Value) : ev_L := as.flatMap (fun v => if v.category = 2 then [some v, none] else [some v])
def ev_inL (n : Nat) (as : List Value) : ev_L := ev_flat as ++ List.replicate (n - (ev_flat as).length) none
theorem ev_flat_c (v : Value) (r : List Value) : ev_flat (v :: r) = (if v.category = 2 then [some v, none] else [some v]) ++ ev_flat r := List.flatMap_cons
theorem lg_sl_c (v : Value) (r : List Value) : lg_sl (v :: r) = (if v.category = 2 then [Slot.val v, Slot.second] else [Slot.val v]) ++ lg_sl r := List.flatMap_cons
theorem ev_flat_len (base : Nat) (ext : Nat → Nat) : ∀ as : List Value, (lg_sl (as.map (ev_v base ext))).length = (ev_flat as).length
  | [] => rfl
  | v :: r => by
    rw [List.map_cons, lg_sl_c, ev_flat_c, ev_v_cat, List.length_append, List.length_append, ev_flat_len base ext r]
    by_cases h : v.category = 2
    · rw [if_pos h, if_pos h]; rfl
    · rw [if_neg h, if_neg h]; rfl
theorem ev_flat_at {base : Nat} {ext : Nat → Nat} : ∀ (as : List Value) (k i : Nat) (v : Value), (ev_flat as)[i]? = some (some v) → (k + i, ev_v base ext v) ∈ lv_args k (as.map (ev_v base ext))
  | [], k, i, v, h => by
    have h2 : ([] : ev_L)[i]? = some (some v) := h
    rw [List.getElem?_nil] at h2
    cases h2
  | u :: r, k, i, v, h => by
    rw [ev_flat_c] at h
    show (k + i, ev_v base ext v) ∈ (k, ev_v base ext u) :: lv_args (if (ev_v base ext u).category = 2 then k + 2 else k + 1) (r.map (ev_v base ext))
    rw [ev_v_cat]
    by_cases hc : u.category = 2
    · rw [if_pos hc] at h ⊢
      match i, h with
      | 0, h =>
        have h2 : some u = some v := Option.some.inj h
        rw [Option.some.inj h2]
        exact List.mem_cons_self
      | 1, h => have h2 : (none : Option Value) = some v := Option.some.inj h; cases h2
      | i + 2, h =>
        have h2 := ev_flat_at (base := base) (ext := ext) r (k + 2) i v h
        rw [show k + (i + 2) = k + 2 + i by omega]
        exact List.mem_cons_of_mem _ h2
    · rw [if_neg hc] at h ⊢
      match i, h with
      | 0, h =>
        have h2 : some u = some v := Option.some.inj h
        rw [Option.some.inj h2]
        exact List.mem_cons_self
      | i + 1, h =>
        have h2 := ev_flat_at (base := base) (ext := ext) r (k + 1) i v h
        rw [show k + (i + 1) = k + 1 + i by omega]
        exact List.mem_cons_of_mem _ h2
theorem ev_EL_inL {base : Nat} {ext : Nat → Nat} {n : Nat} {as : List Value} (hn : (ev_flat as).length ≤ n) : ev_EL base ext ((lg_sl (as.map (ev_v base ext)) ++ List.replicate (n - (lg_sl (as.map (ev_v base ext))).length) Slot.unset).toArray) n (ev_inL n as) := by
  have h1 := lv_entry (as.map (ev_v base ext)) (n := n) (by rw [ev_flat_len]; exact hn)
  refine ⟨by unfold ev_inL; rw [List.length_append, List.length_replicate]; omega, h1.1, h1.2.1, fun i v hv => ?_⟩
  unfold ev_inL at hv
  have hi : i < (ev_flat as).length := by
    rcases Nat.lt_or_ge i (ev_flat as).length with q | q
    · exact q
    · rw [List.getElem?_append_right q, List.getElem?_replicate] at hv
      split at hv <;> cases hv
  rw [List.getElem?_append_left hi] at hv
  have h2 := ev_flat_at (base := base) (ext := ext) as 0 i v hv
  rw [Nat.zero_add] at h2
  exact h1.2.2 _ h2
section CONL
variable {D : va_G} {cy : Nat → ClassId} {base : Nat} {ext : Nat → Nat} {SL : Nat} {SX : Nat → Int32} {l : Launch} {j pc : Nat} {ls : ev_L} {r st : List Value} {w : ev_W} {o : Option Value ⊕ Nat} {w1 : ev_W}
theorem ev_conL {z : ev_ME} {as : List Value} (hz : ev_me j = some z) (hl : l.stackTraces = false) (hlen : (ev_flat as).length ≤ ev_ml z) (h : ev_Snd D cy base ext SL SX l j 0 (ev_inL (ev_ml z) as) [] w o w1) : ev_Con D cy base ext SL SX l z as w o w1 := by
  obtain ⟨h1, h2, h3⟩ := h
  have hzl := ev_mel_me hz
  have hok := ev_me_ok hz
  have main : ∀ (p : Program) (e : Env) (s : State) (m : MethodId) (args : Array Value) (below : List Frame) (meth : Method) (c : Code) (s₁ : State), BodyLoose p l (ev_y z) (headSpec (ev_wz z) (ev_rm z (w_c w1 - w_c w) (w_z w1 - w_z w))) (ev_by z) (ev_ml z) (ev_rt z) e s m args below meth c s₁ → c.maxLocals = ev_ml z → (ev_hh z = [] → ∀ x ∈ c.exceptionTable.toList, False) → ev_Pc D cy base ext SL SX as w args s →
      W p l e (headSpec (ev_wz z) (ev_rm z (w_c w1 - w_c w) (w_z w1 - w_z w))).room s m args below meth c s.heap [] 0 0 (vx_MQ below (ev_Qc D cy base ext SL SX z o w1) (ev_XC D cy base ext SL SX o w1) args s (w_c w1 - w_c w) (w_z w1 - w_z w) (ev_A base)) (entryFrame m args (ev_ml z)) := by
    intro p e s m args below meth c s₁ B hml ht hP
    obtain ⟨rfl, hM, hK, hF, hbs, hXs⟩ := hP
    have hts : ∀ w ∈ ev_wz z, w.before (as.map (ev_v base ext)).toArray s = true := atoms_spec (ws := ev_wz z) B.pre
    have hC : ev_Cx D cy base ext SL SX l j z p (headSpec (ev_wz z) (ev_rm z (w_c w1 - w_c w) (w_z w1 - w_z w))).room s m (as.map (ev_v base ext)).toArray meth c := by
      refine ⟨B.exec, B.bytes, B.returns, hml, findClass_of_methodNamed B.named, fun w hw => hts w (List.mem_cons_of_mem _ hw), B.notSynchronized, fun _ => (name_of_methodNamed B.named B.method).1, hK, hF, hbs, hok.2.1, fun hne => ?_, Nat.le_refl _, Nat.le_refl _, hl, hXs⟩
      · refine vx_table (x := ev_y z) B (y := ev_y z) (bytes := ev_by z) (maxL' := ev_ml z) (ret' := ev_rt z) ?_
        have h9 := hts _ (List.mem_cons_self : ev_cw z ∈ ev_wz z)
        unfold ev_cw at h9
        cases hh : ev_hh z with
        | nil => exact absurd hh hne
        | cons a b => rw [hh] at h9; exact h9
    rw [lg_entry_eq]
    exact h3 z hzl p e _ s m _ below meth c hC s.heap [] 0 0 _ _ (w_c w1 - w_c w) (w_z w1 - w_z w) hM va_S.rf (ev_EL_inL hlen) (by omega) (by omega) (Nat.le_refl _) (Nat.le_refl _) (ev_con_end B.exec B.bytes B.returns B.notSynchronized ht)
  unfold ev_Con
  cases hh : ev_hh z with
  | nil =>
    have hw : ev_wz z = Cond.code (ev_y z) (ev_by z) (ev_ml z) (ev_rt z) :: ev_all := by
      unfold ev_wz ev_cw
      rw [hh]
    exact vx_ofW hok.2.2.1 hw (fun p e s m args below meth c s₁ B hml ht hP => main p e s m args below meth c s₁ B hml (fun _ => ht) hP)
  | cons a b =>
    have hw : ev_wz z = Cond.codeWith (ev_y z) (ev_by z) (ev_ml z) (ev_rt z) (a :: b) :: ev_all := by
      unfold ev_wz ev_cw
      rw [hh]
    exact vx_ofWH hok.2.2.1 hw (fun p e s m args below meth c s₁ B hml hP => main p e s m args below meth c s₁ B hml (fun q => by rw [hh] at q; cases q) hP)
end CONL
theorem z_conL {G : z_G} (hl : G.2.2.stackTraces = false) {j : Nat} {as : List Value} {w : ev_W} {o : Option Value ⊕ Nat} {w1 : ev_W} {ml : Nat} (hm : ((ev_me j).map ev_ml) = some ml) (hn : Nat.ble (ev_flat as).length ml = true) (h : z_R G j 0 (ev_inL ml as) [] w o w1) : z_K G j as w o w1 := by
  intro D cy base ext e2 he
  rw [he] at hm
  cases Option.some.inj hm
  exact ⟨ev_conL he hl (Nat.le_of_ble_eq_true hn) (h D cy base ext), (h D cy base ext).1, (h D cy base ext).2.1⟩
section XL
variable {G : z_G} {j pc n : Nat} {ls : ev_L} {st r : List Value} {w : ev_W} {o : Option Value ⊕ Nat} {w1 : ev_W} {t : List Bool}
theorem q_conL (hl : G.2.2.stackTraces = false) {as : List Value} {P : Option Value → ev_W → Prop} {ml : Nat} (hm : ((ev_me j).map ev_ml) = some ml) (hn : Nat.ble (ev_flat as).length ml = true) (h : z_Q G j 0 (ev_inL ml as) [] w P) : z_N G j as w P := by
  obtain ⟨v, w1, h1, h2⟩ := h
  exact ⟨v, w1, z_conL hl hm hn h1, h2⟩

def zx_lcon (pc v n : Nat) (z : ev_ME) (ins : Instr) (len : Nat) : Bool := match ins with
  | .lconst k => xn pc len n 1 && Nat.beq k.val v
  | _ => false
theorem x_lcon {v : Nat} (h : z_all (z_at j pc (zx_lcon pc v n) :: t) = true) (kk : z_all t = true → z_R G j n ls (.long (Int64.ofNat v) :: st) w o w1) : z_R G j pc ls st w o w1 := by
  obtain ⟨h2_, z0_, ins_, len_, hz_, hi_, hf_⟩ := z_any h
  unfold zx_lcon at hf_
  split at hf_
  · rename_i k9_
    rw [Bool.and_eq_true] at hf_
    obtain ⟨rfl, rfl⟩ := xn_of hf_.1
    have e9_ := Nat.eq_of_beq_eq_true hf_.2
    intro D cy base ext
    refine ev_pstep (kk h2_ D cy base ext) (fun z hz p e R s m args below meth c hC H locs cells slots Q L hM hS hE hcR hsR k => ?_)
    cases hz_.symm.trans hz
    exact lv_lconst hC.1 hC.2.1 hi_ (by rw [e9_]) k
  · cases hf_
theorem xw_c31 : Cond.constantLong "FlagLaundryLaw" 320 31 ∈ ev_all := List.mem_filter.mpr ⟨List.mem_of_getElem? (i := 1640) (by decide +kernel), rfl⟩
def zx_ldc2 (pc n : Nat) (z : ev_ME) (ins : Instr) (len : Nat) : Bool := match ins with
  | .ldc2_w ix => xn pc len n 3 && (Nat.beq ix 320 && Nat.beq (ev_own1 z) 20)
  | _ => false
theorem x_ldc2 (h : z_all (z_at j pc (zx_ldc2 pc n) :: t) = true) (kk : z_all t = true → z_R G j n ls (.long 31 :: st) w o w1) : z_R G j pc ls st w o w1 := by
  obtain ⟨h2_, z0_, ins_, len_, hz_, hi_, hf_⟩ := z_any h
  unfold zx_ldc2 at hf_
  split at hf_
  · rename_i ix_
    simp only [Bool.and_eq_true] at hf_
    obtain ⟨g1_, g2_, g3_⟩ := hf_
    obtain ⟨rfl, rfl⟩ := xn_of g1_
    have g4_ : ix_ = 320 := Nat.eq_of_beq_eq_true g2_
    have g5_ : ev_own1 z0_ = 20 := Nat.eq_of_beq_eq_true g3_
    subst g4_
    intro D cy base ext
    refine ev_pstep (kk h2_ D cy base ext) (fun z hz p e R s m args below meth c hC H locs cells slots Q L hM hS hE hcR hsR k => ?_)
    cases hz_.symm.trans hz
    have ho := hC.2.2.2.2.2.2.2.2.2.2.2.1
    rw [g5_] at ho
    have ho' : "FlagLaundryLaw" = (ev_y z0_).cls := ho
    exact lv_ldc2 hC.1 hC.2.1 hC.2.2.2.2.1 (hC.2.2.2.2.2.1 _ (by rw [← ho']; exact xw_c31)) hi_ k
  · cases hf_
def zx_lload (pc i n : Nat) (z : ev_ME) (ins : Instr) (len : Nat) : Bool := match ins with
  | .lload_n k => xn pc len n 1 && Nat.beq k.val i
  | .lload k => xn pc len n 2 && Nat.beq k i
  | _ => false
theorem x_lload {i : Nat} {x : Int64} (h : z_all (z_at j pc (zx_lload pc i n) :: t) = true) (hl9 : ls[i]? = some (some (.long x))) (kk : z_all t = true → z_R G j n ls (.long x :: st) w o w1) : z_R G j pc ls st w o w1 := by
  obtain ⟨h2_, z0_, ins_, len_, hz_, hi_, hf_⟩ := z_any h
  unfold zx_lload at hf_
  split at hf_
  · rename_i k9_
    rw [Bool.and_eq_true] at hf_
    obtain ⟨rfl, rfl⟩ := xn_of hf_.1
    have e9_ := Nat.eq_of_beq_eq_true hf_.2
    intro D cy base ext
    refine ev_pstep (kk h2_ D cy base ext) (fun z hz p e R s m args below meth c hC H locs cells slots Q L hM hS hE hcR hsR k => ?_)
    cases hz_.symm.trans hz
    exact lv_lload_n hC.1 hC.2.1 hi_ e9_ (hE.2.2.2 _ _ hl9) k
  · rename_i k9_
    rw [Bool.and_eq_true] at hf_
    obtain ⟨rfl, rfl⟩ := xn_of hf_.1
    have e9_ := Nat.eq_of_beq_eq_true hf_.2
    intro D cy base ext
    refine ev_pstep (kk h2_ D cy base ext) (fun z hz p e R s m args below meth c hC H locs cells slots Q L hM hS hE hcR hsR k => ?_)
    cases hz_.symm.trans hz
    rw [e9_] at hi_
    exact lv_lload hC.1 hC.2.1 hi_ (hE.2.2.2 _ _ hl9) k
  · cases hf_
def zx_lstore (pc i n : Nat) (z : ev_ME) (ins : Instr) (len : Nat) : Bool := match ins with
  | .lstore_n k => xn pc len n 1 && Nat.beq k.val i
  | .lstore k => xn pc len n 2 && Nat.beq k i
  | _ => false
theorem x_lstore {i : Nat} {x : Int64} (h : z_all (z_at j pc (zx_lstore pc i n) :: t) = true) (hi9 : Nat.blt (i + 1) ls.length = true) (hc9 : ev_c1 ls i = true) (kk : z_all t = true → z_R G j n ((ev_sto ls i (.long x)).set (i + 1) none) r w o w1) : z_R G j pc ls (.long x :: r) w o w1 := by
  have hj9 : i + 1 < ls.length := Nat.le_of_ble_eq_true hi9
  obtain ⟨h2_, z0_, ins_, len_, hz_, hi_, hf_⟩ := z_any h
  unfold zx_lstore at hf_
  split at hf_
  · rename_i k9_
    rw [Bool.and_eq_true] at hf_
    obtain ⟨rfl, rfl⟩ := xn_of hf_.1
    have e9_ := Nat.eq_of_beq_eq_true hf_.2
    intro D cy base ext
    exact ev_lstep (kk h2_ D cy base ext) (fun z hz p e R s m args below meth c hC H locs cells slots Q L hE k => by
      cases hz_.symm.trans hz
      exact lv_lstore_n hC.1 hC.2.1 hi_ e9_ (ev_EL_has hE) (by rw [← hE.1]; exact hj9) rfl (fun L2 h2 => k L2 (ev_EL_st2 hE hj9 hc9 h2)))
  · rename_i k9_
    rw [Bool.and_eq_true] at hf_
    obtain ⟨rfl, rfl⟩ := xn_of hf_.1
    have e9_ := Nat.eq_of_beq_eq_true hf_.2
    rw [e9_] at hi_
    intro D cy base ext
    exact ev_lstep (kk h2_ D cy base ext) (fun z hz p e R s m args below meth c hC H locs cells slots Q L hE k => by
      cases hz_.symm.trans hz
      exact lv_lstore hC.1 hC.2.1 hi_ (ev_EL_has hE) (by rw [← hE.1]; exact hj9) rfl (fun L2 h2 => k L2 (ev_EL_st2 hE hj9 hc9 h2)))
  · cases hf_
def zx_lshl (pc n : Nat) (z : ev_ME) (ins : Instr) (len : Nat) : Bool := match ins with
  | .lshl => xn pc len n 1
  | _ => false
theorem x_lshl {x : Int64} {y : Int32} (h : z_all (z_at j pc (zx_lshl pc n) :: t) = true) (kk : z_all t = true → z_R G j n ls (.long (x <<< (y.toInt64 &&& 63)) :: r) w o w1) : z_R G j pc ls (.int y :: .long x :: r) w o w1 := by
  obtain ⟨h2_, z0_, ins_, len_, hz_, hi_, hf_⟩ := z_any h
  unfold zx_lshl at hf_
  split at hf_
  · obtain ⟨rfl, rfl⟩ := xn_of hf_
    intro D cy base ext
    refine ev_pstep (kk h2_ D cy base ext) (fun z hz p e R s m args below meth c hC H locs cells slots Q L hM hS hE hcR hsR k => ?_)
    cases hz_.symm.trans hz
    exact lv_lshl hC.1 hC.2.1 hi_ rfl k
  · cases hf_
theorem xw_usU : Cond.fieldLink "jdk/internal/util/ArraysSupport" 26 "jdk/internal/util/ArraysSupport" "U" "Ljdk/internal/misc/Unsafe;" ∈ ev_all := List.mem_filter.mpr ⟨List.mem_of_getElem? (i := 1654) (by decide +kernel), rfl⟩
def zx_usU (pc n : Nat) (z : ev_ME) (ins : Instr) (len : Nat) : Bool := match ins with
  | .getstatic ix => xn pc len n 3 && (Nat.beq ix 26 && Nat.beq (ev_own1 z) 27)
  | _ => false
theorem x_usU (h : z_all (z_at j pc (zx_usU pc n) :: t) = true) (kk : z_all t = true → z_R G j n ls (.ref (ev_S + 103) :: st) w o w1) : z_R G j pc ls st w o w1 := by
  obtain ⟨h2_, z0_, ins_, len_, hz_, hi_, hf_⟩ := z_any h
  unfold zx_usU at hf_
  split at hf_
  · rename_i ix_
    simp only [Bool.and_eq_true] at hf_
    obtain ⟨g1_, g2_, g3_⟩ := hf_
    obtain ⟨rfl, rfl⟩ := xn_of g1_
    have g4_ : ix_ = 26 := Nat.eq_of_beq_eq_true g2_
    have g5_ : ev_own1 z0_ = 27 := Nat.eq_of_beq_eq_true g3_
    subst g4_
    intro D cy base ext
    refine ev_pstep (kk h2_ D cy base ext) (fun z hz p e R s m args below meth c hC H locs cells slots Q L hM hS hE hcR hsR k => ?_)
    cases hz_.symm.trans hz
    have ho := hC.2.2.2.2.2.2.2.2.2.2.2.1
    rw [g5_] at ho
    have ho' : "jdk/internal/util/ArraysSupport" = (ev_y z0_).cls := ho
    have hA := hC.2.2.2.2.2.2.2.2.2.1.2.2.2.2.2.2.2.2.1
    have k : W p G.2.2 e R s m args below meth c H locs cells slots Q (F0 m (pc + 3) L (.ref (ev_ρ base ext (ev_S + 103)) :: st.map (ev_v base ext))) := k
    rw [ev_ρ_x] at k
    exact va_gets (C := "jdk/internal/util/ArraysSupport") (ref := "jdk/internal/util/ArraysSupport") hC.1 hC.2.1 (hA.2.2.2.2.2.2.2.2.1) hS hC.2.2.2.2.1 (hC.2.2.2.2.2.1 _ (by rw [← ho']; exact xw_usU)) (fun _ h9 => h9) hi_ k
  · cases hf_
theorem xw_lin2 : Cond.fieldLink "jdk/internal/util/ArraysSupport" 51 "jdk/internal/util/ArraysSupport" "LOG2_ARRAY_INT_INDEX_SCALE" "I" ∈ ev_all := List.mem_filter.mpr ⟨List.mem_of_getElem? (i := 1725) (by decide +kernel), rfl⟩
def zx_lin2 (pc n : Nat) (z : ev_ME) (ins : Instr) (len : Nat) : Bool := match ins with
  | .getstatic ix => xn pc len n 3 && (Nat.beq ix 51 && Nat.beq (ev_own1 z) 27)
  | _ => false
theorem x_lin2 (h : z_all (z_at j pc (zx_lin2 pc n) :: t) = true) (kk : z_all t = true → z_R G j n ls (.int 2 :: st) w o w1) : z_R G j pc ls st w o w1 := by
  obtain ⟨h2_, z0_, ins_, len_, hz_, hi_, hf_⟩ := z_any h
  unfold zx_lin2 at hf_
  split at hf_
  · rename_i ix_
    simp only [Bool.and_eq_true] at hf_
    obtain ⟨g1_, g2_, g3_⟩ := hf_
    obtain ⟨rfl, rfl⟩ := xn_of g1_
    have g4_ : ix_ = 51 := Nat.eq_of_beq_eq_true g2_
    have g5_ : ev_own1 z0_ = 27 := Nat.eq_of_beq_eq_true g3_
    subst g4_
    intro D cy base ext
    refine ev_pstep (kk h2_ D cy base ext) (fun z hz p e R s m args below meth c hC H locs cells slots Q L hM hS hE hcR hsR k => ?_)
    cases hz_.symm.trans hz
    have ho := hC.2.2.2.2.2.2.2.2.2.2.2.1
    rw [g5_] at ho
    have ho' : "jdk/internal/util/ArraysSupport" = (ev_y z0_).cls := ho
    have hA := hC.2.2.2.2.2.2.2.2.2.1.2.2.2.2.2.2.2.2.1
    exact va_gets (C := "jdk/internal/util/ArraysSupport") (ref := "jdk/internal/util/ArraysSupport") hC.1 hC.2.1 (hA.2.2.2.2.2.2.2.2.2.2.2.2.1) hS hC.2.2.2.2.1 (hC.2.2.2.2.2.1 _ (by rw [← ho']; exact xw_lin2)) (fun _ h9 => h9) hi_ k
  · cases hf_
end XL
