/-! the two calls of String's own methods, as rules -/
def zs_ln (k : Nat) : Nat := (ev_sby.getD k []).length
def zs_len (k : Nat) : Int32 := jn (zs_ln k)
def zs_ch (k : Nat) (i : Int32) : Int32 := (ev_sby.getD k []).getD i.toNatClampNeg 0
theorem zs_tab : (List.range 34).all (fun k => (ev_str[k]?).isSome && (decide (Int32.ofNat (ev_sby.getD k []).length >>> ((0 : Int32) &&& 31) = zs_len k) && (decide ((ev_sby.getD k []).length < 1000) && (ev_sby.getD k []).all (fun x => decide (((x &&& (Int16.ofInt 255).toInt32).toUInt32 % 65536).toInt32 = x) && decide (narrow .char (.int x) = .int x))))) = true := by decide +kernel
theorem zs_tab_at {k : Nat} (hk : k < 34) : (∃ q, ev_str[k]? = some q) ∧ Int32.ofNat (ev_sby.getD k []).length >>> ((0 : Int32) &&& 31) = zs_len k ∧ (ev_sby.getD k []).length < 1000 ∧ ∀ x ∈ ev_sby.getD k [], ((x &&& (Int16.ofInt 255).toInt32).toUInt32 % 65536).toInt32 = x ∧ narrow .char (.int x) = .int x := by
  have h1_ := List.all_eq_true.mp zs_tab k (List.mem_range.mpr hk)
  simp only [Bool.and_eq_true, decide_eq_true_eq, List.all_eq_true] at h1_
  obtain ⟨a_, b_, c_, d_⟩ := h1_
  exact ⟨Option.isSome_iff_exists.mp a_, b_, c_, d_⟩
theorem zs_all {k : Cond} (hk : k ∈ zs_w) : k ∈ ev_all := ev_all_in zs_w_in hk
theorem zs_gall {k : Cond} (hk : k ∈ zs_w) : GoodIn ev_all (k :: zs_w) := ev_good fun w hw => by
  rcases List.mem_cons.mp hw with rfl | hw
  · exact zs_all hk
  · exact zs_all hw
section ZSTR
variable {D : va_G} {cy : Nat → ClassId} {base : Nat} {ext : Nat → Nat} {SL : Nat} {SX : Nat → Int32} {l : Launch} {j pc : Nat} {ls : ev_L} {r st : List Value} {w : ev_W} {o : Option Value ⊕ Nat} {w1 : ev_W}
theorem ev_x_strl {k ix : Nat} (hl : w_l w = false) (hk : k < 34) (hcat : ev_cat r ≤ 8) (hx : ∀ z, ev_mel j = some z → ev_look2 (ev_own1 z) ix ev_nat = some 105 ∧ 4 ≤ ev_fr z ∧ 110 ≤ ev_lo z) (hd : ∀ z, ev_mel j = some z → decode (ev_by z) pc = .ok (.invokevirtual ix, 3))
    (h : ev_Snd D cy base ext SL SX l j (pc + 3) ls (.int (zs_len k) :: r) w o w1) : ev_Snd D cy base ext SL SX l j pc ls (.ref (ev_S + 1 + k) :: r) w o w1 := by
  refine ⟨h.1, h.2.1, fun z hz p e R s m args below meth c hC H locs cells slots Q L K N9 hM hS hE hc hs hK hN9 hend => ?_⟩
  obtain ⟨x1_, x2_, x3_⟩ := hx z hz
  obtain ⟨⟨q_, hq_⟩, t2_, t3_, t4_⟩ := zs_tab_at hk
  have hw_ : Cond.methodLink (ev_own.getD (ev_own1 z) "") ix (ev_natn 105) ∈ ev_all := by
    obtain ⟨l9_, h3_, h4_⟩ := ev_look2_mem x1_
    exact ev_all_in ev_natw_in (List.mem_flatMap.mpr ⟨_, h3_, List.mem_map.mpr ⟨_, h4_, rfl⟩⟩)
  rw [hC.2.2.2.2.2.2.2.2.2.2.2.1] at hw_
  have hts_ := hC.2.2.2.2.2.1
  have hz1_ := (hC.2.2.2.2.2.2.2.2.2.1.2.2.2.2.2.1 k q_ hq_).2.kept hS.2.1
  have hfr_ := hC.2.2.2.2.2.2.2.2.2.2.2.2.2.1
  have hlo_ := hC.2.2.2.2.2.2.2.2.2.2.2.2.2.2.1
  have h8_ : ev_ρ base ext (ev_S + 1 + k) = ext (ev_S + 1 + k) := if_neg (by omega)
  show W p l e R s m args below meth c H locs cells slots Q (F0 m pc L (.ref (ev_ρ base ext (ev_S + 1 + k)) :: r.map (ev_v base ext)))
  rw [h8_]
  have b1_ := h.1
  have b2_ := h.2.1
  refine va_calli (va_runV (As := []) (rest := r.map (ev_v base ext)) ⟨hC.1, hC.2.1, hC.2.2.2.1, hC.2.2.2.2.1, hts_⟩ (zs_mN l (b := ev_sby.getD k []) t2_) ⟨callB_of 0 hts_ (zs_gall (zs_in 12 rfl)) rfl rfl rfl (hts_ _ (zs_all (zs_in (k := .initialized "java/lang/String") 18 rfl))) (hts_ _ hw_) (by decide +kernel) ⟨by show 1 + 1 ≤ _; omega, by show 8 + (1 + 11) + 20 ≤ _; omega⟩, hts_ _ (zs_all (zs_in (k := .instanceMethod zs_yN) 13 rfl)), hts_ _ (zs_all (zs_in (k := .selects "java/lang/String" zs_yN zs_yN) 14 rfl))⟩ ⟨fun a9 U g mk q => ⟨q.1, zs_1.moved (Vm.Alike.refl U.vm) q.2⟩, (by
    obtain ⟨cell_, c1_, c2_, c3_, -⟩ := hz1_.1
    exact ⟨cell_, c1_, c2_, c3_⟩), fun U hU hW => ⟨rfl, by
      have h9_ := (zs_1.moved hW.alike hz1_).narrow (B := zs_N) (fun q hq => hq.elim)
      rw [← hU] at h9_
      exact h9_⟩⟩ rfl rfl (hE.2.1) rfl (ev_monr hcat) (hd z hz) ⟨by show cells + 0 ≤ _; omega, by show slots + 0 ≤ _; omega⟩) hS (fun q _ h9_ => h9_.elim) (fun q h9_ => h9_.elim) (fun r9 u t H1 locs1 ht hvm hw9 hB hz9 hk9 hS9 => ?_)
  have hw9 : r9 = zs_len k := hw9
  subst hw9
  exact h.2.2 z hz p e R s m args below meth c hC H1 locs1 cells slots Q L K N9 (ev_M_kept hM rfl rfl hl hz9 (fun q hq => hk9 q hq (fun h9_ => h9_))) hS9 hE hc hs hK hN9 hend
theorem ev_x_strc {k ix : Nat} {i : Int32} (hl : w_l w = false) (hk : k < 34) (hi : ev_ok i (zs_ln k) = true) (hcat : ev_cat r ≤ 8) (hx : ∀ z, ev_mel j = some z → ev_look2 (ev_own1 z) ix ev_nat = some 106 ∧ 4 ≤ ev_fr z ∧ 110 ≤ ev_lo z) (hd : ∀ z, ev_mel j = some z → decode (ev_by z) pc = .ok (.invokevirtual ix, 3))
    (h : ev_Snd D cy base ext SL SX l j (pc + 3) ls (.int (zs_ch k i) :: r) w o w1) : ev_Snd D cy base ext SL SX l j pc ls (.int i :: .ref (ev_S + 1 + k) :: r) w o w1 := by
  refine ⟨h.1, h.2.1, fun z hz p e R s m args below meth c hC H locs cells slots Q L K N9 hM hS hE hc hs hK hN9 hend => ?_⟩
  obtain ⟨x1_, x2_, x3_⟩ := hx z hz
  obtain ⟨⟨q_, hq_⟩, t2_, t3_, t4_⟩ := zs_tab_at hk
  have hi2_ : vp_in i (ev_sby.getD k []).length := ev_ok_in hi
  have hlt_ : i.toNatClampNeg < (ev_sby.getD k []).length := z_ok_lt hi
  have hmem_ : zs_ch k i ∈ ev_sby.getD k [] := by
    unfold zs_ch
    generalize ev_sby.getD k [] = l9_ at hlt_ ⊢
    rw [List.getD_eq_getElem?_getD, List.getElem?_eq_getElem hlt_]
    exact List.getElem_mem hlt_
  have hw_ : Cond.methodLink (ev_own.getD (ev_own1 z) "") ix (ev_natn 106) ∈ ev_all := by
    obtain ⟨l9_, h3_, h4_⟩ := ev_look2_mem x1_
    exact ev_all_in ev_natw_in (List.mem_flatMap.mpr ⟨_, h3_, List.mem_map.mpr ⟨_, h4_, rfl⟩⟩)
  rw [hC.2.2.2.2.2.2.2.2.2.2.2.1] at hw_
  have hts_ := hC.2.2.2.2.2.1
  have hz1_ := (hC.2.2.2.2.2.2.2.2.2.1.2.2.2.2.2.1 k q_ hq_).2.kept hS.2.1
  have hfr_ := hC.2.2.2.2.2.2.2.2.2.2.2.2.2.1
  have hlo_ := hC.2.2.2.2.2.2.2.2.2.2.2.2.2.2.1
  have h8_ : ev_ρ base ext (ev_S + 1 + k) = ext (ev_S + 1 + k) := if_neg (by omega)
  show W p l e R s m args below meth c H locs cells slots Q (F0 m pc L (.int i :: .ref (ev_ρ base ext (ev_S + 1 + k)) :: r.map (ev_v base ext)))
  rw [h8_]
  have b1_ := h.1
  have b2_ := h.2.1
  refine va_calli (va_runV (As := [.int i]) (rest := r.map (ev_v base ext)) ⟨hC.1, hC.2.1, hC.2.2.2.1, hC.2.2.2.2.1, hts_⟩ (zs_mC l (b := ev_sby.getD k []) (i := i) (x := zs_ch k i) (y := zs_ch k i) (by omega) hi2_ rfl (t4_ _ hmem_).1 (t4_ _ hmem_).2) ⟨callB_of 1 hts_ (zs_gall (zs_in 15 rfl)) rfl rfl rfl (hts_ _ (zs_all (zs_in (k := .initialized "java/lang/String") 18 rfl))) (hts_ _ hw_) (by decide +kernel) ⟨by show 3 + 1 ≤ _; omega, by show 8 + (2 + 11) + 64 ≤ _; omega⟩, hts_ _ (zs_all (zs_in (k := .instanceMethod zs_yC) 16 rfl)), hts_ _ (zs_all (zs_in (k := .selects "java/lang/String" zs_yC zs_yC) 17 rfl))⟩ ⟨fun a9 U g mk q => ⟨q.1, zs_1.moved (Vm.Alike.refl U.vm) q.2⟩, (by
    obtain ⟨cell_, c1_, c2_, c3_, -⟩ := hz1_.1
    exact ⟨cell_, c1_, c2_, c3_⟩), fun U hU hW => ⟨rfl, by
      have h9_ := (zs_1.moved hW.alike hz1_).narrow (B := zs_N) (fun q hq => hq.elim)
      rw [← hU] at h9_
      exact h9_⟩⟩ rfl rfl (hE.2.1) rfl (ev_monr hcat) (hd z hz) ⟨by show cells + 0 ≤ _; omega, by show slots + 0 ≤ _; omega⟩) hS (fun q _ h9_ => h9_.elim) (fun q h9_ => h9_.elim) (fun r9 u t H1 locs1 ht hvm hw9 hB hz9 hk9 hS9 => ?_)
  have hw9 : r9 = zs_ch k i := hw9
  subst hw9
  exact h.2.2 z hz p e R s m args below meth c hC H1 locs1 cells slots Q L K N9 (ev_M_kept hM rfl rfl hl hz9 (fun q hq => hk9 q hq (fun h9_ => h9_))) hS9 hE hc hs hK hN9 hend
end ZSTR
section ZSTR2
variable {G : z_G} {j pc n : Nat} {ls : ev_L} {st r : List Value} {w : ev_W} {I : z_H} {o : Option Value ⊕ Nat} {w1 : ev_W} {t : List Bool}
def zf_str (pc kx n : Nat) (z : ev_ME) (ins : Instr) (len : Nat) : Bool := match ins with
  | .invokevirtual ix => Nat.beq n (pc + 3) && (Nat.beq len 3 && (Nat.ble 4 (ev_fr z) && (Nat.ble 110 (ev_lo z) && (match ev_look2 (ev_own1 z) ix ev_nat with | some k => Nat.beq k kx | none => false))))
  | _ => false
theorem y_slen {k : Nat} (ok : z_Ok G w) (h : z_all (z_at j pc (zf_str pc 105 n) :: t) = true) (hk : k < 34) (hcat : Nat.ble (ev_cat r) 8 = true) (kk : z_all t = true → z_R G j n ls (.int (zs_len k) :: r) (z_w w I) o w1) : z_R G j pc ls (.ref (ev_S + 1 + k) :: r) (z_w w I) o w1 := by
  obtain ⟨h1_, h2_⟩ := z_cons h
  obtain ⟨z0_, ins_, len_, hz_, hi_, hf_⟩ := z_at_of h1_
  unfold zf_str at hf_
  split at hf_
  · rename_i ix_
    simp only [Bool.and_eq_true] at hf_
    obtain ⟨g1_, g2_, g3_, g4_, g5_⟩ := hf_
    have e1_ := Nat.eq_of_beq_eq_true g1_
    have e2_ := Nat.eq_of_beq_eq_true g2_
    subst e1_ e2_
    split at g5_
    · rename_i k_ hk_
      rw [Nat.eq_of_beq_eq_true g5_] at hk_
      intro D cy base ext
      exact ev_x_strl (w := z_w w I) (show w_l w = false from ok.2.2.1) hk (Nat.le_of_ble_eq_true hcat) (ev_hz hz_ ⟨hk_, Nat.le_of_ble_eq_true g3_, Nat.le_of_ble_eq_true g4_⟩) (ev_hz hz_ (z_dec hz_ hi_)) (kk h2_ D cy base ext)
    · cases g5_
  · cases hf_
theorem y_schr {k : Nat} {i : Int32} (ok : z_Ok G w) (h : z_all (z_at j pc (zf_str pc 106 n) :: t) = true) (hk : k < 34) (hi : ev_ok i (zs_ln k) = true) (hcat : Nat.ble (ev_cat r) 8 = true) (kk : z_all t = true → z_R G j n ls (.int (zs_ch k i) :: r) (z_w w I) o w1) : z_R G j pc ls (.int i :: .ref (ev_S + 1 + k) :: r) (z_w w I) o w1 := by
  obtain ⟨h1_, h2_⟩ := z_cons h
  obtain ⟨z0_, ins_, len_, hz_, hi_, hf_⟩ := z_at_of h1_
  unfold zf_str at hf_
  split at hf_
  · rename_i ix_
    simp only [Bool.and_eq_true] at hf_
    obtain ⟨g1_, g2_, g3_, g4_, g5_⟩ := hf_
    have e1_ := Nat.eq_of_beq_eq_true g1_
    have e2_ := Nat.eq_of_beq_eq_true g2_
    subst e1_ e2_
    split at g5_
    · rename_i k_ hk_
      rw [Nat.eq_of_beq_eq_true g5_] at hk_
      intro D cy base ext
      exact ev_x_strc (w := z_w w I) (show w_l w = false from ok.2.2.1) hk hi (Nat.le_of_ble_eq_true hcat) (ev_hz hz_ ⟨hk_, Nat.le_of_ble_eq_true g3_, Nat.le_of_ble_eq_true g4_⟩) (ev_hz hz_ (z_dec hz_ hi_)) (kk h2_ D cy base ext)
    · cases g5_
  · cases hf_
end ZSTR2
/-! the references that change: the parser's text and laundry, the class's two laundries -/
theorem z_Ok_sR {G : z_G} {w : ev_W} {a k : Nat} {x : Option Nat} (ok : z_Ok G w) (hm : (z_r a k) = none) : z_Ok G (w_sR w a k x) := by
  obtain ⟨h1_, h2_, h3_, h4_, h5_, h6_⟩ := ok
  refine ⟨h1_, h2_, h3_, h4_, fun b i c hb => ?_, h6_⟩
  show ev_u2 (w_R w) a k x b i = some c
  unfold ev_u2
  by_cases e1_ : b = a
  · rw [if_pos e1_]
    by_cases e2_ : i = k
    · rw [e1_, e2_, hm] at hb; cases hb
    · show (if i = k then x else w_R w b i) = some c
      rw [if_neg e2_]; exact h5_ b i c hb
  · rw [if_neg e1_]; exact h5_ b i c hb
theorem z_sR_at (w : ev_W) (a k : Nat) (x : Option Nat) : w_R (w_sR w a k x) a k = x := by
  show (if a = a then (fun j => if j = k then x else w_R w a j) else w_R w a) k = x
  rw [if_pos rfl]
  exact if_pos rfl
theorem z_sR_ne (w : ev_W) (a k : Nat) (x : Option Nat) (b i : Nat) (h : ¬ (b = a ∧ i = k)) : w_R (w_sR w a k x) b i = w_R w b i := by
  show (if b = a then (fun j => if j = k then x else w_R w b j) else w_R w b) i = w_R w b i
  by_cases e1_ : b = a
  · rw [if_pos e1_]
    exact if_neg (fun e2_ => h ⟨e1_, e2_⟩)
  · rw [if_neg e1_]
/-- the parser reads from the buffer into the laundry a -/
def z_par (w : ev_W) (a : Nat) : ev_W := w_sR (w_sR w 54 2 (some 1)) 54 8 (some a)
theorem z_Ok_par {G : z_G} {w : ev_W} {a : Nat} (ok : z_Ok G w) : z_Ok G (z_par w a) := z_Ok_sR (z_Ok_sR ok (by decide +kernel)) (by decide +kernel)
theorem z_pc_par {w : ev_W} {a : Nat} (ha : zt 2 a = true) : z_pc (z_par w a) a := ⟨by unfold z_par; rw [z_sR_ne _ _ _ _ _ _ (by omega), z_sR_at], z_sR_at _ _ _ _, ha⟩
theorem z_fc_par {w : ev_W} {a n : Nat} (h : z_fc w n) : z_fc (z_par w a) n := ⟨by unfold z_par; rw [z_sR_ne _ _ _ _ _ _ (by omega), z_sR_ne _ _ _ _ _ _ (by omega)]; exact h.1, h.2⟩
/-- where the other laundry stands -/
def z_fs (w : ev_W) (p : Nat) : Prop := w_R w 0 6 = some p ∧ zt 2 p = true
theorem z_fs_par {w : ev_W} {a p : Nat} (h : z_fs w p) : z_fs (z_par w a) p := ⟨by unfold z_par; rw [z_sR_ne _ _ _ _ _ _ (by omega), z_sR_ne _ _ _ _ _ _ (by omega)]; exact h.1, h.2⟩
/-- they change places -/
def z_swp (w : ev_W) (n p : Nat) : ev_W := w_sR (w_sR w 0 5 (some p)) 0 6 (some n)
theorem z_Ok_swp {G : z_G} {w : ev_W} {n p : Nat} (ok : z_Ok G w) : z_Ok G (z_swp w n p) := z_Ok_sR (z_Ok_sR ok (by decide +kernel)) (by decide +kernel)
theorem z_fc_swp {w : ev_W} {n p : Nat} (hp : zt 2 p = true) : z_fc (z_swp w n p) p := ⟨by unfold z_swp; rw [z_sR_ne _ _ _ _ _ _ (by omega), z_sR_at], hp⟩
theorem z_fs_swp {w : ev_W} {n p : Nat} (hn : zt 2 n = true) : z_fs (z_swp w n p) n := ⟨z_sR_at _ _ _ _, hn⟩
/-- the world behind load: by what came of it -/
def z_ldw (w : ev_W) (n p : Nat) (q : Nat ⊕ Int32) : ev_W := match q with
  | .inl 1 => w
  | .inl _ => z_par w p
  | .inr _ => z_swp (z_par w p) n p
theorem y_cvw {G : z_G} {j pc n : Nat} {ls : ev_L} {st : List Value} {w : ev_W} {I : z_H} {o : Option Value ⊕ Nat} {w1 : ev_W} {t : List Bool} {j2 na ow a : Nat} {as rest : List Value} {v : Option Value} {w2 : ev_W} (ok : z_Ok G w) (h : z_all (z_is j pc (zf_cv pc j2 na ow n) :: t) = true) (hst : st = as.reverse ++ .ref a :: rest) (hlen : as.length = na) (hcat : Nat.ble (ev_cat rest) 8 = true) (ha : zt ow a = true) (hc : z_K G j2 (.ref a :: as) (z_w w I) (.inl v) w2) (kk : z_all t = true → z_R G j n ls (v.toList ++ rest) w2 o w1) : z_R G j pc ls st (z_w w I) o w1 := z_callV h hst hlen hcat (zt_n ok ha).1 (zt_n ok ha).2.2.1 hc kk
theorem y_alenb {G : z_G} {j pc n : Nat} {ls : ev_L} {r : List Value} {w : ev_W} {I : z_H} {o : Option Value ⊕ Nat} {w1 : ev_W} {t : List Bool} {a N : Nat} (ok : z_Ok G w) (h : z_all (z_is j pc (zf_alen pc n) :: t) = true) (ha : zt 9 a = true) (hL : z_l a = N) (kk : z_all t = true → z_R G j n ls (.int (Int32.ofNat N) :: r) (z_w w I) o w1) : z_R G j pc ls (.ref a :: r) (z_w w I) o w1 := z_alen h (zt_n ok ha).1 (zt_n ok ha).2.1 (by rw [show w_K (z_w w I) a = 9 from (zt_n ok ha).2.2.1]; decide) (by rw [show w_K (z_w w I) a = 9 from (zt_n ok ha).2.2.1]; decide) (fun h9_ => by rw [show w_L (z_w w I) a = N from (zt_n ok ha).2.2.2.trans hL]; exact kk h9_)
