/-! the law's body up to its loop: by wip/gen/p64/j98zf.py -/
/-- the first world: the script alone -/
def ev_w0 (L : Nat) (xs : Nat → Int32) : ev_W := (0, 0, 0, true, fun _ => 0, fun a => if a = ev_S then L else 0, fun a => if a = ev_S then xs else fun _ => 0, fun _ _ => none, fun _ _ => 0, fun _ _ => 0)
theorem z_K_ev {G : z_G} (hl : G.2.2.stackTraces = false) {N j : Nat} {as : List Value} {w : ev_W} {o : Option Value ⊕ Nat} {w1 : ev_W} (h : ev_call N j as w = some (o, w1)) : z_K G j as w o w1 := by
  intro D cy base ext e2 he2
  unfold ev_call at h
  rw [he2] at h
  dsimp only at h
  obtain ⟨hb_, h⟩ := ev_cond h
  simp only [Bool.and_eq_true, decide_eq_true_eq] at hb_
  have hs_ := ev_sound (D := D) (cy := cy) (base := base) (ext := ext) (SL := G.1) (SX := G.2.1) hl _ _ _ _ _ _ _ _ h
  exact ⟨ev_con he2 hl (fun v hv => Nat.eq_of_beq_eq_true (List.all_eq_true.mp hb_.1 v hv)) hb_.2 hs_, hs_.1, hs_.2.1⟩
/-- what the machine's heap says of the world may be used -/
theorem z_R_M {G : z_G} {j pc : Nat} {ls : ev_L} {st : List Value} {w : ev_W} {o : Option Value ⊕ Nat} {w1 : ev_W} (hc : w_c w ≤ w_c w1) (hz : w_z w ≤ w_z w1) (h : w_L w ev_S = G.1 → w_I w ev_S = G.2.1 → z_R G j pc ls st w o w1) : z_R G j pc ls st w o w1 := by
  intro D cy base ext
  exact ⟨hc, hz, fun z hz9 p e R s m args below meth c hC H locs cells slots Q L K N hM hS hE => (h hM.2.2.2.2.1 hM.2.2.2.2.2 D cy base ext).2.2 z hz9 p e R s m args below meth c hC H locs cells slots Q L K N hM hS hE⟩
/-- what holds of the world where the class is made and the law's int[7] -/
def z_chk (w : ev_W) : Bool := Nat.beq (w_n w) 242 && ((List.range 242).all (fun a => Nat.beq (w_K w a) (z_k a) && Nat.beq (w_L w a) (z_l a)) && ((List.range 242).all (fun a => (z_rl.getD a []).all (fun q => decide (w_R w a q.1 = some q.2))) && (decide (w_R w 0 5 = some 2) && (decide (w_R w 0 6 = some 28) && (decide (w_I w 0 1 = jn 0) && (decide (w_I w 241 5 = jn 0) && (decide (w_I w 241 6 = jn 0) && (decide (w_c w ≤ 500) && (decide (w_z w ≤ 20000) && w_l w)))))))))
def z_st1 (q : Nat × (Nat → Int32)) : ev_W := w_nw (ev_w0 q.1 q.2) 7 10
def z_Pst (q : Nat × (Nat → Int32)) : Bool := match ev_call 100000 104 [.ref 0] (z_st1 q) with
  | some (.inl none, w2) => Nat.beq (w_n w2) 241 && (w_l w2 && z_chk (w_nw w2 10 7))
  | _ => false
theorem z_eps {P : Nat × (Nat → Int32) → Bool} (h : P (Classical.epsilon (fun X => P X = false)) = true) : ∀ X, P X = true := by
  intro X
  cases hP : P X with
  | true => rfl
  | false => exact absurd (h.symm.trans (Classical.epsilon_spec (p := fun X => P X = false) ⟨X, hP⟩)) (by decide)
set_option maxRecDepth 1000000 in
theorem z_Pst_ok : ∀ q, z_Pst q = true := z_eps (by decide +kernel)
theorem z_Pst_of (q : Nat × (Nat → Int32)) : ∃ w2 : ev_W, ev_call 100000 104 [.ref 0] (z_st1 q) = some (.inl none, w2) ∧ w_n w2 = 241 ∧ w_l w2 = true ∧ z_chk (w_nw w2 10 7) = true := by
  have h := z_Pst_ok q
  unfold z_Pst at h
  split at h
  · rename_i w2_ e1_
    rw [Bool.and_eq_true, Bool.and_eq_true] at h
    exact ⟨w2_, e1_, Nat.eq_of_beq_eq_true h.1, h.2.1, h.2.2⟩
  · cases h
theorem z_r_lt {a i b : Nat} (hb : z_r a i = some b) : a < 242 ∧ (i, b) ∈ z_rl.getD a [] := by
  unfold z_r at hb
  have hm_ := ev_look_mem hb
  refine ⟨?_, hm_⟩
  have h9_ : z_rl.length = 242 := by decide +kernel
  rcases Nat.lt_or_ge a z_rl.length with g_ | g_
  · rw [h9_] at g_; exact g_
  · rw [List.getD_eq_getElem?_getD, List.getElem?_eq_none g_] at hm_
    exact absurd hm_ List.not_mem_nil
theorem z_chk_of {G : z_G} {w : ev_W} (hl : G.2.2.stackTraces = false) (h : z_chk w = true) (hL : w_L w ev_S = G.1) : z_Ok G w ∧ z_fc w 2 ∧ z_fs w 28 := by
  unfold z_chk at h
  simp only [Bool.and_eq_true, decide_eq_true_eq, List.all_eq_true] at h
  obtain ⟨h1_, h2_, h3_, h4_, h5_, -, -, -, -, -, h6_⟩ := h
  have n_ := Nat.eq_of_beq_eq_true h1_
  refine ⟨⟨hl, ⟨by omega, by omega⟩, h6_, fun a ha => ⟨Nat.eq_of_beq_eq_true (h2_ a (List.mem_range.mpr ha)).1, Nat.eq_of_beq_eq_true (h2_ a (List.mem_range.mpr ha)).2⟩, fun a i b hb => ?_, hL⟩, ⟨h4_, by decide +kernel⟩, ⟨h5_, by decide +kernel⟩⟩
  obtain ⟨ha_, hm_⟩ := z_r_lt hb
  exact h3_ a (List.mem_range.mpr ha_) (i, b) hm_
theorem z_chk_v {w : ev_W} (h : z_chk w = true) : w_n w = 242 ∧ w_I w 0 1 = jn 0 ∧ w_I w 241 5 = jn 0 ∧ w_I w 241 6 = jn 0 ∧ w_c w ≤ 500 ∧ w_z w ≤ 20000 ∧ w_l w = true := by
  unfold z_chk at h
  simp only [Bool.and_eq_true, decide_eq_true_eq, List.all_eq_true] at h
  obtain ⟨h1_, -, -, -, -, a_, b_, c_, d_, e_, f_⟩ := h
  exact ⟨Nat.eq_of_beq_eq_true h1_, a_, b_, c_, d_, e_, f_⟩
/-- what the law makes is none of the class's objects -/
def z_kp (k l : Nat) : Bool := !(Nat.beq k 8) && (!(Nat.beq k 15) && (!(Nat.beq k 16) && (!(Nat.beq k 17) && (!(Nat.beq k 19) && (!(Nat.beq k 9) || Nat.beq l 500)))))
theorem z_k_no : (List.range 242).all (fun a => z_kp (z_k a) (z_l a)) = true := by decide +kernel
theorem z_ge {G : z_G} {w : ev_W} (ok : z_Ok G w) {a k : Nat} (hk : w_K w a = k) (h : k = 8 ∨ k = 15 ∨ k = 16 ∨ k = 17 ∨ k = 19) : 242 ≤ a := by
  rcases Nat.lt_or_ge a 242 with g_ | g_
  · have q : z_kp (z_k a) (z_l a) = true := List.all_eq_true.mp z_k_no a (List.mem_range.mpr g_)
    have e1 : z_k a = k := (ok.2.2.2.1 a g_).1.symm.trans hk
    rw [e1] at q
    rcases h with h | h | h | h | h <;> rw [h] at q <;> exact absurd (show false = true from q) (by decide)
  · exact g_
theorem z_ge9 {G : z_G} {w : ev_W} (ok : z_Ok G w) {a m : Nat} (hk : w_K w a = 9) (hL : w_L w a = m) (hm : m ≤ 300) : 242 ≤ a := by
  rcases Nat.lt_or_ge a 242 with g_ | g_
  · have q : z_kp (z_k a) (z_l a) = true := List.all_eq_true.mp z_k_no a (List.mem_range.mpr g_)
    have e1 : z_k a = 9 := (ok.2.2.2.1 a g_).1.symm.trans hk
    have e2 : z_l a = m := (ok.2.2.2.1 a g_).2.symm.trans hL
    rw [e1, e2] at q
    have q2 : Nat.beq m 500 = true := q
    have := Nat.eq_of_beq_eq_true q2
    omega
  · exact g_
theorem FR.ok {G : z_G} {X : Nat → Prop} {w w1 : ev_W} (F : FR X w w1) (hX : ∀ a, a < 242 → ¬ X a) (hn : w_n w1 ≤ 1000) (ok : z_Ok G w) : z_Ok G w1 := by
  obtain ⟨h1_, h2_, h3_, h4_, h5_, h6_⟩ := ok
  refine ⟨h1_, ⟨Nat.le_trans h2_.1 F.n, hn⟩, F.l.trans h3_, fun a ha => ⟨(F.K (by omega)).trans (h4_ a ha).1, (F.L (by omega)).trans (h4_ a ha).2⟩, fun a i b hb => ?_, F.SL.trans h6_⟩
  have ha := (z_r_lt hb).1
  rw [F.R (by omega) (hX a ha)]
  exact h5_ a i b hb
theorem cIv_cg {n : Nat} {L : LL} {U : List LL} {V : Nat → Option LL} {I J : z_H} (h : cIv n L U V I) (e : ∀ x, x < 242 → J x = I x) : cIv n L U V J := by
  obtain ⟨a1, a2, a3, a4, a5, a6, a7, a8⟩ := h
  have hn : n ≤ 28 := by omega
  refine ⟨a1, by rw [e 0 (by omega)]; exact a2, a3, a4, a5, ?_, ?_, ?_⟩
  · exact qS_out a6 (fun b _ _ => e b (by omega)) (fun b _ _ => e b (by omega)) a3
  · exact hU_out a7 a4 (fun b _ _ => e b (by omega)) (fun b _ _ => e b (by omega))
  · exact hV_out a8 a5 (fun b _ _ => e b (by omega)) (fun b _ _ => e b (by omega))
theorem LX_d {P W : Nat} {r : Nat → Nat} {vn : Nat → Nat → Nat} {o : Nat → Nat} {vf : Nat → Nat → Nat} {mf : Nat → Int32} {C N T F : Nat} : qF (LX P W r vn o vf mf C N T F) = F ∧ qN (LX P W r vn o vf mf C N T F) = N ∧ qT (LX P W r vn o vf mf C N T F) = T := by
  have z1 := Lcs_d r (L00 P) C
  have z2 := Lns_d vn (Lcs r C (L00 P)) N
  have z3 := Lts_d o (Lns vn N (Lcs r C (L00 P))) T
  have z4 := Lfs_d vf mf (Lts o T (Lns vn N (Lcs r C (L00 P)))) F
  have z0 : qF (L00 P) = 0 ∧ qC (L00 P) = 0 ∧ qN (L00 P) = 0 ∧ qT (L00 P) = 0 := ⟨rfl, rfl, rfl, rfl⟩
  have d0 : qF (LX0 P W r vn o vf mf C N T F) = qF (Lfs vf mf F (Lts o T (Lns vn N (Lcs r C (L00 P))))) ∧ qN (LX0 P W r vn o vf mf C N T F) = qN (Lfs vf mf F (Lts o T (Lns vn N (Lcs r C (L00 P))))) ∧ qT (LX0 P W r vn o vf mf C N T F) = qT (Lfs vf mf F (Lts o T (Lns vn N (Lcs r C (L00 P))))) := ⟨rfl, rfl, rfl⟩
  have d1 : qF (LX1 P W r vn o vf mf C N T F) = qF (LX0 P W r vn o vf mf C N T F) ∧ qN (LX1 P W r vn o vf mf C N T F) = qN (LX0 P W r vn o vf mf C N T F) ∧ qT (LX1 P W r vn o vf mf C N T F) = qT (LX0 P W r vn o vf mf C N T F) := by
    unfold LX1
    by_cases q : 2 ≤ F ∧ ¬ o 0 = 1
    · rw [if_pos q]; exact ⟨rfl, rfl, rfl⟩
    · rw [if_neg q]; exact ⟨rfl, rfl, rfl⟩
  have d2 : qF (LX P W r vn o vf mf C N T F) = qF (LX1 P W r vn o vf mf C N T F) ∧ qN (LX P W r vn o vf mf C N T F) = qN (LX1 P W r vn o vf mf C N T F) ∧ qT (LX P W r vn o vf mf C N T F) = qT (LX1 P W r vn o vf mf C N T F) := ⟨rfl, rfl, rfl⟩
  omega
theorem z_Ok_zw {G : z_G} {w : ev_W} (ok : z_Ok G w) (J : z_H) : z_Ok G (z_w w J) := ok
theorem z_fc_zw {w : ev_W} {n : Nat} (h : z_fc w n) (J : z_H) : z_fc (z_w w J) n := h
theorem zw_I {w : ev_W} {J : z_H} : w_I (z_w w J) = J := rfl
theorem ldw_eq {w : ev_W} {n p : Nat} {x : Int32} {J : z_H} : z_ow (z_w (z_ldw w n p (.inr x)) J) (Sum.inr x : Nat ⊕ Int32) = z_w (z_swp (z_par w p) n p) J := by simp only [z_ow, z_ldw]
theorem zo_eq {x : Int32} : z_o z_vi (Sum.inr x : Nat ⊕ Int32) = .inl (some (.int x)) := rfl
theorem t_load {G : z_G} {w : ev_W} (ok : z_Ok G w) {n p : Nat} {x1 x : Int32} (hn : z_fc w n) (hp : z_fs w p) {I J : z_H} (h : d_F_load n p x1 I = some (.inr x, J)) : z_K G 106 [.ref 0, .int x1] (z_w w I) (.inl (some (.int x))) (z_w (z_swp (z_par w p) n p) J) := by
  have k := t_F_load ok hn hp h
  dsimp only at k
  rw [ldw_eq, zo_eq] at k
  exact k
theorem FR_ldw {w : ev_W} {J2 : z_H} {n p : Nat} (h1 : ∀ a, 242 ≤ a → J2 a = w_I w a) : FR (fun a => a < 242) w (z_w (z_swp (z_par w p) n p) J2) := by
  refine ⟨⟨Nat.le_refl _, rfl, Nat.le_refl _, Nat.le_refl _, rfl⟩, ⟨rfl, h1 ev_S (by unfold ev_S; omega)⟩, fun a _ => ⟨⟨rfl, rfl⟩, fun ha => ⟨h1 a (by omega), ?_, rfl⟩⟩⟩
  funext i
  show w_R (z_swp (z_par w p) n p) a i = w_R w a i
  unfold z_swp z_par
  rw [z_sR_ne _ _ _ _ _ _ (by omega), z_sR_ne _ _ _ _ _ _ (by omega), z_sR_ne _ _ _ _ _ _ (by omega), z_sR_ne _ _ _ _ _ _ (by omega)]
theorem n_law2 {G : z_G} {w3 : ev_W} (hl : G.2.2.stackTraces = false) (hG : G.1 ≤ 1000) (ck : z_chk w3 = true) (hL : w_L w3 ev_S = G.1) : z_Q G 216 13 [some (.ref ev_S), some (.ref 0), some (.ref 241), none, none, none, none, none, none, none, none, none, none, none, none, none, none, none, none] [] w3 (fun q w1 => q = some (.int (jn 1)) ∧ w_c w1 ≤ 1000 ∧ w_z w1 ≤ 1000000) := by
  obtain ⟨n3, i0, i5, i6, c3, z3, l3⟩ := z_chk_v ck
  obtain ⟨ok3, fc3, fs3⟩ := z_chk_of hl ck hL
  obtain ⟨v4, w4, k4, d, al, ar, ru, na, ro, C, N, T, fs, e4, D, F4, b4⟩ := n_desk hl (by omega) l3 (by omega)
  rw [e4] at k4
  have l4 := F4.l.trans l3
  have m4 := F4.n
  have ok4 := F4.ok (fun _ _ q => q) (by omega) ok3
  obtain ⟨v5, w5, k5, s, v9, P, W, r, vn, o, vf, mf, e5, S, TB, F5, R5, b5⟩ := n_text hl D l4 (by omega)
  rw [e5] at k5
  have l5 := F5.l.trans l4
  have m5 := F5.n
  have dg := z_ge ok4 D.1.1.2 (Or.inl rfl)
  have fg : ∀ f, f ∈ fs → 242 ≤ f := fun f hf => z_ge ok4 (D.2.2.2.2.2.2.2 f hf).1.2 (Or.inr (Or.inr (Or.inl rfl)))
  have X5 : ∀ a : Nat, a < 242 → ¬ (a = d ∨ a ∈ fs) := fun a ha q => by
    rcases q with q | q
    · rw [q] at ha; omega
    · have := fg a q; omega
  have ok5 := F5.ok X5 (by omega) ok4
  have hs := z_ge ok5 S.1.2 (Or.inr (Or.inr (Or.inr (Or.inr rfl))))
  have hv := z_ge9 ok5 S.2.1.2.1 S.2.1.2.2 S.2.2.2.1
  have I5 : ∀ a, a < 242 → w_I w5 a = w_I w3 a := fun a ha => (F5.I (by omega) (X5 a ha)).trans (F4.I (by omega) (fun q => q))
  have Q5 : ∀ a, a < 242 → w_R w5 a = w_R w3 a := fun a ha => (F5.R (by omega) (X5 a ha)).trans (F4.R (by omega) (fun q => q))
  obtain ⟨v6, w6, k6, J, e6w, PF, e6, j5, j6, b, hb1, hb2, jb, jA⟩ := n_told hl ok5 S hs hv (by rw [I5 0 (by omega)]; exact i0) (by rw [I5 241 (by omega)]; exact i5) (by rw [I5 241 (by omega)]; exact i6)
  rw [e6, e6w] at k6
  have AX : Atx (TXD P W r vn o vf mf C N T fs.length).length (J 1) 0 (TXD P W r vn o vf mf C N T fs.length) := ⟨Nat.zero_add _, fun i hi => by rw [Nat.zero_add, jA i (by omega), if_pos hi], S.2.2.2.2.2⟩
  have tx := aText_law TB D.2.2.1.1 D.2.2.1.2.1 D.2.2.1.2.2.1 D.2.2.1.2.2.2.1 AX
  obtain ⟨xp, xe⟩ := LX_Pm (P := P) (W := W) (r := r) (vn := vn) (o := o) (vf := vf) (mf := mf) (C := C) (N := N) (T := T) (F := fs.length)
  obtain ⟨xF, xN, xT⟩ := LX_d (P := P) (W := W) (r := r) (vn := vn) (o := o) (vf := vf) (mf := mf) (C := C) (N := N) (T := T) (F := fs.length)
  generalize LX P W r vn o vf mf C N T fs.length = L at tx xp xe xF xN xT
  obtain ⟨J2, ld, cv, cO2, _⟩ := cc_load (n := 2) (p := 28) rfl (Or.inl rfl) jb hb1 hb2 (fun _ _ => rfl) tx
  generalize (TXD P W r vn o vf mf C N T fs.length).length = M at k6 ld
  have fc5 : z_fc w5 2 := ⟨by rw [Q5 0 (by omega)]; exact fc3.1, fc3.2⟩
  have fs5 : z_fs w5 28 := ⟨by rw [Q5 0 (by omega)]; exact fs3.1, fs3.2⟩
  obtain ⟨w7, e7⟩ : ∃ w7, w7 = z_w (z_swp (z_par w5 28) 2 28) J2 := ⟨_, rfl⟩
  have k7_ := t_load ok5 fc5 fs5 ld
  have k7 : z_K G 106 [.ref 0, .int (jn M)] (z_w w5 J) (.inl (some (.int (jn (qF L))))) w7 := by rw [e7]; exact k7_
  have F7 : FR (fun a => a < 242) w5 w7 := by
    rw [e7]
    exact FR_ldw (fun a ha => (cO2 a (by omega)).trans (PF.1 a (by omega) (by omega) (by omega)))
  have n7 : w_n w7 = w_n w5 := by rw [e7]; rfl
  have ok7 : z_Ok G w7 := by rw [e7]; exact z_Ok_zw (z_Ok_swp (z_Ok_par ok5)) J2
  have fc7 : z_fc w7 28 := by rw [e7]; exact z_fc_zw (z_fc_swp fs5.2) J2
  have cv7 : cIv 28 L [] (fun _ => none) (w_I w7) := by rw [e7, zw_I]; exact cv
  have d5 : d < w_n w5 ∧ w_K w5 d = 8 := ⟨Nat.lt_of_lt_of_le D.1.1.1 m5, (F5.K D.1.1.1).trans D.1.1.2⟩
  have d7 : w_R w7 d = w_R w4 d := (F7.R d5.1 (by omega)).trans R5
  have r7 : w_R w7 d 11 = some al := by rw [d7]; exact D.2.1.2.2.2
  have alk := D.2.2.2.2.2.2.1.1
  have alX : ¬ (al = d ∨ al ∈ fs) := fun q => by
    rcases q with q | q
    · rw [q, D.1.1.2] at alk; exact absurd alk.2 (by decide)
    · have := (D.2.2.2.2.2.2.2 al q).1.2; rw [this] at alk; exact absurd alk.2 (by decide)
  have ar4 : ar < w_n w4 → w_K w4 ar = 15 := fun ha => by
    rcases D.2.2.2.2.2.2.1.2.2 with ⟨q, -⟩ | q
    · have := D.2.2.1.2.2.2.1; rw [q] at this; exact absurd this.1 (by decide)
    · exact q.2.1
  have arX : ar < w_n w4 → ¬ (ar = d ∨ ar ∈ fs) := fun ha q => by
    have ak := ar4 ha
    rcases q with q | q
    · rw [q, D.1.1.2] at ak; exact absurd ak (by decide)
    · have := (D.2.2.2.2.2.2.2 ar q).1.2; rw [this] at ak; exact absurd ak (by decide)
  have A5 := D.2.2.2.2.2.2.1.fr F5 alX arX
  have ar5 : ar < w_n w5 → ¬ ar < 242 := fun ha => by
    rcases A5.2.2 with ⟨q, -⟩ | q
    · have := D.2.2.1.2.2.2.1; rw [q] at this; exact absurd this.1 (by decide)
    · have := z_ge ok5 q.2.1 (Or.inr (Or.inl rfl)); omega
  have al5 := z_ge ok5 A5.1.2 (Or.inr (Or.inr (Or.inr (Or.inl rfl))))
  have A7 := A5.fr F7 (by omega) ar5
  have F8 : FR (fun _ => False) w7 (w_nw (w_nw w7 14 100) 14 100) := (FR_nw (by omega) (by omega)).tr (FR_nw (by show w_n w7 + 1 < 1001; omega) (by omega)) (fun _ _ q => q) (fun _ _ q => q)
  have hB : z_all [z_is 216 13 (zf_aload 13 0 14), z_is 216 14 (zf_cs 14 158 1 17), z_is 216 17 (zf_astore 17 3 18), z_is 216 18 (zf_aload 18 3 19), z_is 216 19 (zf_cs 19 159 1 22), z_is 216 22 (zf_astore 22 4 24), z_is 216 24 (zf_aload 24 1 25), z_is 216 25 (zf_aload 25 1 26), z_is 216 26 (zf_aload 26 2 27), z_is 216 27 (zf_aload 27 4 29), z_is 216 29 (zf_cs 29 160 3 32), z_is 216 32 (zf_cv 32 106 1 7 35), z_is 216 35 (zf_aload 35 3 36), z_at 216 36 (zf_gr 36 8 11 39), z_is 216 39 (zf_cv 39 170 0 17 42), z_is 216 42 (zf_if2 .eq 42 47 45), z_is 216 47 (zf_cst 47 (jn 100) 49), z_at 216 49 (zx_newa 49 14 51), z_is 216 51 (zf_astore 51 5 53), z_is 216 53 (zf_cst 53 (jn 100) 55), z_at 216 55 (zx_newa 55 14 57), z_is 216 57 (zf_astore 57 6 59), z_is 216 59 (zf_cst 59 (jn 0) 60), z_is 216 60 (zf_istore 60 7 62)] = true := by decide +kernel
  refine q_s hB (fun _ _ k => z_aload hB rfl k) (fun hB => ?_)
  refine q_s hB (fun _ _ k => z_callS hB (rest := []) rfl rfl rfl k4 k) (fun hB => ?_)
  refine q_s hB (fun _ _ k => z_astore hB rfl rfl k) (fun hB => ?_)
  refine q_s hB (fun _ _ k => z_aload hB rfl k) (fun hB => ?_)
  refine q_s hB (fun _ _ k => z_callS hB (rest := []) rfl rfl rfl k5 k) (fun hB => ?_)
  refine q_s hB (fun _ _ k => z_astore hB rfl rfl k) (fun hB => ?_)
  refine q_s hB (fun _ _ k => z_aload hB rfl k) (fun hB => ?_)
  refine q_s hB (fun _ _ k => z_aload hB rfl k) (fun hB => ?_)
  refine q_s hB (fun _ _ k => z_aload hB rfl k) (fun hB => ?_)
  refine q_s hB (fun _ _ k => z_aload hB rfl k) (fun hB => ?_)
  refine q_s hB (fun _ _ k => z_callS hB (rest := [.ref 0]) rfl rfl rfl k6 k) (fun hB => ?_)
  refine q_s hB (fun _ _ k => z_callV hB (rest := []) rfl rfl rfl (z_ok0 ok5).1 (z_ok0 ok5).2 k7 k) (fun hB => ?_)
  refine q_s hB (fun _ _ k => z_aload hB rfl k) (fun hB => ?_)
  refine q_s hB (fun _ _ k => x_getr hB (Nat.lt_of_lt_of_le d5.1 F7.n) ((F7.K d5.1).trans d5.2) r7 k) (fun hB => ?_)
  refine q_s hB (fun _ _ k => z_callV hB (rest := [.int (jn (qF L))]) rfl rfl rfl A7.1.1 A7.1.2 (n_k (n_alsz hl A7)) k) (fun hB => ?_)
  refine q_s hB (fun _ _ k => z_ic_eq hB (fun _ => k) (fun h _ => absurd ((by rw [xF])) h)) (fun hB => ?_)
  refine q_s hB (fun _ _ k => z_cst hB k) (fun hB => ?_)
  refine q_s hB (fun _ _ k => x_newa hB (F7.l.trans l5) (by omega) (by decide) k) (fun hB => ?_)
  rw [show z_n (jn 100) = 100 from by decide]
  refine q_s hB (fun _ _ k => z_astore hB rfl rfl k) (fun hB => ?_)
  refine q_s hB (fun _ _ k => z_cst hB k) (fun hB => ?_)
  refine q_s hB (fun _ _ k => x_newa hB (F7.l.trans l5) (by show w_n w7 + 1 < 1000; omega) (by decide) k) (fun hB => ?_)
  rw [show z_n (jn 100) = 100 from by decide, show w_n (w_nw w7 14 100) = w_n w7 + 1 from rfl]
  refine q_s hB (fun _ _ k => z_astore hB rfl rfl k) (fun hB => ?_)
  refine q_s hB (fun _ _ k => z_cst hB k) (fun hB => ?_)
  refine q_s hB (fun _ _ k => z_istore hB rfl rfl k) (fun hB => ?_)
  obtain ⟨w8, e8⟩ : ∃ w8, w8 = w_nw (w_nw w7 14 100) 14 100 := ⟨_, rfl⟩
  have n8 : w_n w8 = w_n w7 + 2 := by rw [e8]; rfl
  have ka : w_K w8 (w_n w7) = 14 ∧ w_L w8 (w_n w7) = 100 := by
    rw [e8]
    exact ⟨(nw_Kb (w := w_nw w7 14 100) (Nat.lt_succ_self _)).trans (nw_K (w := w7)), (nw_Lb (w := w_nw w7 14 100) (Nat.lt_succ_self _)).trans (nw_L (w := w7))⟩
  have kb : w_K w8 (w_n w7 + 1) = 14 ∧ w_L w8 (w_n w7 + 1) = 100 := by
    rw [e8]
    exact ⟨nw_K (w := w_nw w7 14 100), nw_L (w := w_nw w7 14 100)⟩
  rw [← e8] at F8 ⊢
  have F38 : FR (fun _ => True) w3 w8 := ((F4.tr F5 (fun _ _ _ => trivial) (fun _ _ _ => trivial) : FR (fun _ => True) w3 w5).tr F7 (fun _ _ _ => trivial) (fun _ _ _ => trivial) : FR (fun _ => True) w3 w7).tr F8 (fun _ _ _ => trivial) (fun _ _ _ => trivial)
  have dl5 : d < w_n w5 := d5.1
  have dl7 : d < w_n w7 := by rw [n7]; exact dl5
  have dl8 : d < w_n w8 := by rw [n8]; exact Nat.lt_of_lt_of_le dl7 (Nat.le_add_right _ _)
  have d8 : w_R w8 d = w_R w4 d := (F8.R dl7 (fun q => q)).trans d7
  have rk := D.2.2.2.2.1.1
  have nk := D.2.2.2.2.2.1.1
  have K48 : ∀ x, x < w_n w4 → w_K w8 x = w_K w4 x ∧ w_L w8 x = w_L w4 x := fun x hx => ⟨(F8.K (by omega)).trans ((F7.K (by omega)).trans (F5.K hx)), (F8.L (by omega)).trans ((F7.L (by omega)).trans (F5.L hx))⟩
  have WW : WI G w8 28 d (w_n w7) (w_n w7 + 1) ro na T N := ⟨F8.ok (fun _ _ q => q) (by omega) ok7, ⟨by rw [F8.R (a := 0) (by omega) (fun q => q)]; exact fc7.1, fc7.2⟩,
    ⟨⟨dl8, (K48 d D.1.1.1).1.trans D.1.1.2⟩, by rw [d8]; exact D.2.1.2.1, by rw [d8]; exact D.2.1.2.2.1⟩,
    ⟨by have := rk.1; omega, (K48 ro rk.1).1.trans rk.2.1, (K48 ro rk.1).2.trans rk.2.2⟩, ⟨by have := nk.1; omega, (K48 na nk.1).1.trans nk.2.1, (K48 na nk.1).2.trans nk.2.2⟩,
    ⟨by omega, ka⟩, ⟨by omega, kb⟩, by rw [F38.SL]; omega, by have := F38.1.2.1; omega, by have := F38.1.2.2.2.1; omega⟩
  have cv8 : cIv 28 L [] (fun _ => none) (w_I w8) := cIv_cg cv7 (fun x hx => F8.I (by omega) (fun q => q))
  exact n_loop hl (by omega) D.2.2.1.2.2.1 D.2.2.1.2.1 20 0 w8 L [] (fun _ => none) _ _ _ _ _ _ _ _ _ _ _ (by omega) WW cv8 xp xe (by rw [xF]; exact D.2.2.1.2.2.2.1) xT xN
theorem n_law {G : z_G} (hl : G.2.2.stackTraces = false) (hG : G.1 ≤ 1000) : ∃ w1, z_R G 216 0 (ev_in 19 [.ref ev_S]) [] (ev_w0 G.1 G.2.1) (.inl (some (.int (jn 1)))) w1 ∧ w_c w1 ≤ 1000 ∧ w_z w1 ≤ 1000000 := by
  suffices h : z_Q G 216 0 [some (.ref ev_S), none, none, none, none, none, none, none, none, none, none, none, none, none, none, none, none, none, none] [] (ev_w0 G.1 G.2.1) (fun q w1 => q = some (.int (jn 1)) ∧ w_c w1 ≤ 1000 ∧ w_z w1 ≤ 1000000) by
    obtain ⟨v, w1, k, rfl, b⟩ := h
    exact ⟨w1, k, b⟩
  obtain ⟨w2, e1, n2, l2, ck⟩ := z_Pst_of (G.1, G.2.1)
  obtain ⟨w3, e3⟩ : ∃ w3, w3 = w_nw w2 10 7 := ⟨_, rfl⟩
  rw [← e3] at ck
  obtain ⟨n3, i0, i5, i6, c3, z3, l3⟩ := z_chk_v ck
  have hB : z_all [z_at 216 0 (zx_new 0 7 10 3), z_at 216 3 (zx_dup 3 4), z_at 216 4 (zx_cI 4 104 0 7), z_is 216 7 (zf_astore 7 1 8), z_is 216 8 (zf_cst 8 (jn 7) 10), z_at 216 10 (zx_newa 10 10 12), z_is 216 12 (zf_astore 12 2 13)] = true := by decide +kernel
  refine q_s hB (fun _ _ k => x_new hB rfl (by show 0 < 1000; omega) k) (fun hB => ?_)
  refine q_s hB (fun _ _ k => x_dup hB rfl k) (fun hB => ?_)
  refine q_s hB (fun _ _ k => x_cI hB (rest := [.ref 0]) rfl rfl rfl (by show 0 < 0 + 1; omega) (z_K_ev hl e1) k) (fun hB => ?_)
  refine q_s hB (fun _ _ k => z_astore hB rfl rfl k) (fun hB => ?_)
  refine q_s hB (fun _ _ k => z_cst hB k) (fun hB => ?_)
  refine q_s hB (fun _ _ k => x_newa hB l2 (by rw [n2]; decide) (by decide) k) (fun hB => ?_)
  rw [show z_n (jn 7) = 7 from by decide]
  rw [n2]
  refine q_s hB (fun _ _ k => z_astore hB rfl rfl k) (fun hB => ?_)
  rw [← e3]
  by_cases hL : w_L w3 ev_S = G.1
  · exact n_law2 hl hG ck hL
  · exact ⟨some (.int (jn 1)), w3, z_R_M (Nat.le_refl _) (Nat.le_refl _) (fun h _ => absurd h hL), rfl, by omega, by omega⟩
