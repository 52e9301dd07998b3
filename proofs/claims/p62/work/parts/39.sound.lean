/-! the evaluator is right: by wip/gen/snd.py -/
section SOUND
variable {D : va_G} {cy : Nat → ClassId} {base : Nat} {ext : Nat → Nat} {SL : Nat} {SX : Nat → Int32} {l : Launch} {j pc : Nat} {ls : ev_L} {st : List Value} {w : ev_W} {o : Option Value ⊕ Nat} {w1 : ev_W}
theorem ev_n02 : ¬ (0 : Nat) = 2 := by decide
theorem ev_n12 : ¬ (1 : Nat) = 2 := by decide
theorem ev_hd {z0 : ev_ME} {ins : Instr} {n : Nat} (k : Nat) (hz : ev_mel j = some z0) (hd : decode (ev_by z0) pc = .ok (ins, n)) (hn : Nat.beq n k = true) : ∀ z, ev_mel j = some z → decode (ev_by z) pc = .ok (ins, k) := by
  intro z hz'
  cases Option.some.inj (hz.symm.trans hz')
  rw [← Nat.eq_of_beq_eq_true hn]
  exact hd
theorem ev_hz {z0 : ev_ME} {X : ev_ME → Prop} (hz : ev_mel j = some z0) (h : X z0) : ∀ z, ev_mel j = some z → X z := by
  intro z hz'
  cases Option.some.inj (hz.symm.trans hz')
  exact h
theorem ev_cond {α : Type} {b : Bool} {x : Option α} {y : α} (h : (bif b then x else none) = some y) : b = true ∧ x = some y := by
  cases b with
  | true => exact ⟨rfl, h⟩
  | false => cases h
theorem ev_jmp_of {off : Int} {q : Nat} (h : ev_jmp pc off = some q) : (pc : Int) + off = (q : Int) := by
  unfold ev_jmp at h
  split at h
  · rename_i t ht
    cases h
    exact ht
  · cases h
theorem ev_br_of {go : Nat → Nat → ev_L → List Value → ev_W → Option ev_R} {t : Bool} {off : Int} {r : List Value} {y : ev_R} (h : ev_br go j pc ls w t off r = some y) : ∃ q : Nat, (pc : Int) + off = (q : Int) ∧ go j (bif t then q else pc + 3) ls r w = some y := by
  unfold ev_br at h
  cases hj : ev_jmp pc off with
  | none => rw [hj] at h; cases h
  | some q =>
    rw [hj] at h
    refine ⟨q, ev_jmp_of hj, ?_⟩
    cases t <;> exact h

theorem ev_s_ld {go : Nat → Nat → ev_L → List Value → ev_W → Option ev_R} {cal : Nat → List Value → ev_W → Option ev_R} (hgo : ∀ (j pc : Nat) (ls : ev_L) (st : List Value) (w : ev_W) (o : Option Value ⊕ Nat) (w1 : ev_W), go j pc ls st w = some (o, w1) → ev_Snd D cy base ext SL SX l j pc ls st w o w1) {z0 : ev_ME} {i len k : Nat} (hz : ev_mel j = some z0) (hk : ∀ v : Value, ls[i]? = some (some v) → (match k, v with
    | 0, .int _ => True
    | 1, .ref _ => True
    | 1, .null => True
    | 2, .float _ => True
    | 3, .double _ => True
    | _, _ => False) → ev_Snd D cy base ext SL SX l j (pc + len) ls (v :: st) w o w1 → ev_Snd D cy base ext SL SX l j pc ls st w o w1) (h : ev_ld go j pc ls w i len k st = some (o, w1)) : ev_Snd D cy base ext SL SX l j pc ls st w o w1 := by
  unfold ev_ld at h
  split at h
  · rename_i v hv
    unfold ev_ldv at h
    split at h
    · exact hk _ hv trivial (hgo _ _ _ _ _ _ _ h)
    · exact hk _ hv trivial (hgo _ _ _ _ _ _ _ h)
    · exact hk _ hv trivial (hgo _ _ _ _ _ _ _ h)
    · exact hk _ hv trivial (hgo _ _ _ _ _ _ _ h)
    · exact hk _ hv trivial (hgo _ _ _ _ _ _ _ h)
    · cases h
  · cases h
theorem ev_s_getf {go : Nat → Nat → ev_L → List Value → ev_W → Option ev_R} {cal : Nat → List Value → ev_W → Option ev_R} (hgo : ∀ (j pc : Nat) (ls : ev_L) (st : List Value) (w : ev_W) (o : Option Value ⊕ Nat) (w1 : ev_W), go j pc ls st w = some (o, w1) → ev_Snd D cy base ext SL SX l j pc ls st w o w1) {z0 : ev_ME} {ix n : Nat} (hz : ev_mel j = some z0) (hd : decode (ev_by z0) pc = .ok (.getfield ix, n)) (hn : Nat.beq n 3 = true) (h : ev_getf go j z0 pc ls w ix st = some (o, w1)) : ev_Snd D cy base ext SL SX l j pc ls st w o w1 := by
  unfold ev_getf at h
  split at h
  · rename_i a r
    split at h
    · rename_i q hq
      obtain ⟨hb, h⟩ := ev_cond h
      simp only [Bool.and_eq_true, decide_eq_true_eq] at hb
      have hK := Nat.eq_of_beq_eq_true hb.2
      have hf := ev_hz (X := fun z => ev_look2 (ev_own1 z) ix ev_flt = some q) hz hq
      split at h
      · rename_i h2
        refine ev_x_getf hf hb.1 hK (ev_hd 3 hz hd hn) ?_ (hgo _ _ _ _ _ _ _ h)
        rw [ev_v_rf]
        unfold ev_fv
        rw [h2, if_pos rfl]
      · rename_i h2
        refine ev_x_getf hf hb.1 hK (ev_hd 3 hz hd hn) ?_ (hgo _ _ _ _ _ _ _ h)
        unfold ev_fv
        rw [h2, if_neg ev_n02]
        rfl
      · rename_i h2
        refine ev_x_getf hf hb.1 hK (ev_hd 3 hz hd hn) ?_ (hgo _ _ _ _ _ _ _ h)
        unfold ev_fv
        rw [h2, if_neg ev_n12]
        rfl
      · cases h
    · cases h
  · cases h
theorem ev_nar_ref {t9 : Nat} {ty : FieldType} {v : Value} (ht : t9 = 2) (hv : v = .null ∨ ∃ a, v = .ref a) (h : ev_ftk t9 ty = true) : narrow ty v = v ∧ fits ty v = true := by
  subst ht
  cases ty <;> first | (rcases hv with rfl | ⟨a, rfl⟩ <;> exact ⟨rfl, rfl⟩) | cases h
theorem ev_nar_int {t9 : Nat} {ty : FieldType} {x : Int32} (ht : t9 = 0 ∨ (t9 = 1 ∧ (x = 0 ∨ x = 1))) (h : ev_ftk t9 ty = true) : narrow ty (.int x) = .int x ∧ fits ty (.int x) = true := by
  rcases ht with rfl | ⟨rfl, hx⟩
  · cases ty <;> first | exact ⟨rfl, rfl⟩ | cases h
  · cases ty <;> first | (rcases hx with rfl | rfl <;> exact ⟨rfl, rfl⟩) | cases h
theorem ev_s_putf {go : Nat → Nat → ev_L → List Value → ev_W → Option ev_R} {cal : Nat → List Value → ev_W → Option ev_R} (hgo : ∀ (j pc : Nat) (ls : ev_L) (st : List Value) (w : ev_W) (o : Option Value ⊕ Nat) (w1 : ev_W), go j pc ls st w = some (o, w1) → ev_Snd D cy base ext SL SX l j pc ls st w o w1) {z0 : ev_ME} {ix n : Nat} (hz : ev_mel j = some z0) (hd : decode (ev_by z0) pc = .ok (.putfield ix, n)) (hn : Nat.beq n 3 = true) (h : ev_putf go j z0 pc ls w ix st = some (o, w1)) : ev_Snd D cy base ext SL SX l j pc ls st w o w1 := by
  unfold ev_putf at h
  split at h
  · rename_i v a r
    split at h
    · rename_i q hq
      obtain ⟨hb, h⟩ := ev_cond h
      simp only [Bool.and_eq_true, decide_eq_true_eq] at hb
      have hK := Nat.eq_of_beq_eq_true hb.2.1
      have hf := ev_hz (X := fun z => ev_look2 (ev_own1 z) ix ev_flt = some q ∧ ev_pfok z q = true) hz ⟨hq, hb.2.2⟩
      have hI : ∀ (x : Int32), (∀ i t, i ≠ q.2 → ev_fv base ext (w_sI w a q.2 x) a (t, i) = ev_fv base ext w a (t, i)) := by
        intro x i t hi
        unfold ev_fv
        have e9 : w_I (w_sI w a q.2 x) a i = w_I w a i := by rw [w_sI_at]; exact if_neg hi
        rw [e9]
        rfl
      have hR : ∀ (x : Option Nat), (∀ i t, i ≠ q.2 → ev_fv base ext (w_sR w a q.2 x) a (t, i) = ev_fv base ext w a (t, i)) := by
        intro x i t hi
        unfold ev_fv
        have e9 : w_R (w_sR w a q.2 x) a i = w_R w a i := by rw [w_sR_at]; exact if_neg hi
        rw [e9]
        rfl
      split at h
      · rename_i b h2 _ 
        refine ev_x_putf hf hb.1 hK (ev_hd 3 hz hd hn) (fun ty hty => ev_nar_ref h2 (Or.inr ⟨_, rfl⟩) hty) (w_sR_w a q.2 (some b)) ?_ (hR _) (hgo _ _ _ _ _ _ _ h)
        unfold ev_fv
        rw [h2, if_pos rfl, w_sR_at]
        unfold va_up
        rw [if_pos rfl]
        rfl
      · rename_i h2 _
        refine ev_x_putf hf hb.1 hK (ev_hd 3 hz hd hn) (fun ty hty => ev_nar_ref h2 (Or.inl rfl) hty) (w_sR_w a q.2 none) ?_ (hR _) (hgo _ _ _ _ _ _ _ h)
        unfold ev_fv
        rw [h2, if_pos rfl, w_sR_at]
        unfold va_up
        rw [if_pos rfl]
        rfl
      · rename_i x h2 _
        refine ev_x_putf hf hb.1 hK (ev_hd 3 hz hd hn) (fun ty hty => ev_nar_int (Or.inl h2) hty) (w_sI_w a q.2 x) ?_ (hI _) (hgo _ _ _ _ _ _ _ h)
        unfold ev_fv
        rw [h2, if_neg ev_n02, w_sI_at]
        unfold upd
        rw [if_pos rfl]
        rfl
      · rename_i x h2 _
        obtain ⟨hb9, h⟩ := ev_cond h
        refine ev_x_putf hf hb.1 hK (ev_hd 3 hz hd hn) (fun ty hty => ev_nar_int (Or.inr ⟨h2, of_decide_eq_true hb9⟩) hty) (w_sI_w a q.2 x) ?_ (hI _) (hgo _ _ _ _ _ _ _ h)
        unfold ev_fv
        rw [h2, if_neg ev_n12, w_sI_at]
        unfold upd
        rw [if_pos rfl]
        rfl
      · cases h
    · cases h
  · cases h
theorem ev_z_cls {z0 : ev_ME} (hz : ev_mel j = some z0) : ev_hh z0 ≠ [] → (ev_y z0).cls = "FlagLaundryLaw" := by
  unfold ev_mel at hz
  cases hb : Nat.beq j ev_LAW with
  | true =>
    rw [hb] at hz
    cases hz
    exact fun _ => rfl
  | false =>
    rw [hb] at hz
    exact (ev_me_ok hz).2.2.2.2.2.2.2
/-- behind a call: its outcome, taken on -/
theorem ev_s_aft {go : Nat → Nat → ev_L → List Value → ev_W → Option ev_R} {cal : Nat → List Value → ev_W → Option ev_R} (hgo : ∀ (j pc : Nat) (ls : ev_L) (st : List Value) (w : ev_W) (o : Option Value ⊕ Nat) (w1 : ev_W), go j pc ls st w = some (o, w1) → ev_Snd D cy base ext SL SX l j pc ls st w o w1) {z0 e2 : ev_ME} {rest : List Value} {y : Option ev_R} (rt : Option FieldType) (hrt : rt = ev_rt e2) (hz : ev_mel j = some z0)
    (h : ev_aft go j z0 pc ls rt rest y = some (o, w1)) (hrun : ∀ o2 w2, y = some (o2, w2) → w_c w ≤ w_c w2 ∧ w_z w ≤ w_z w2 ∧ ∀ (p : Program) (e : Env) (R : Room) (s : State) (m : MethodId) (args : Array Value) (below : List Frame) (meth : Method) (c : Code), ev_Cx D cy base ext SL SX l j z0 p R s m args meth c → ∀ (H : Heap) (locs : List Loc) (cells slots : Nat) (L : Array Slot), ev_M D cy base ext SL SX w H → va_S (ev_A base) s.heap H locs → ev_EL base ext L (ev_ml z0) ls → cells + (w_c w2 - w_c w) ≤ R.cells → slots + (w_z w2 - w_z w) ≤ R.slots →
      ∃ arr, vx_Run p l e R s m args below meth c H locs cells slots (w_c w2 - w_c w) (w_z w2 - w_z w) (F0 m pc L (st.map (ev_v base ext))) (rest.map (ev_v base ext)) (ev_Qc D cy base ext SL SX e2 o2 w2 arr) (ev_XC D cy base ext SL SX o2 w2) (ev_A base)) : ev_Snd D cy base ext SL SX l j pc ls st w o w1 := by
  subst hrt
  unfold ev_aft at h
  split at h
  · rename_i v w2
    obtain ⟨hb, h⟩ := ev_cond h
    obtain ⟨h1, h2, h3⟩ := hrun _ _ rfl
    have hs := hgo _ _ _ _ _ _ _ h
    exact ev_x_call hz (ev_z_cls hz) h1 h2 hs.1 hs.2.1 (fun v' hv' _ => by cases hv'; exact hs) (fun E hE => by cases hE) h3
  · rename_i E w2
    obtain ⟨h1, h2, h3⟩ := hrun _ _ rfl
    split at h
    · rename_i hh
      cases h
      exact ev_x_call hz (ev_z_cls hz) h1 h2 (Nat.le_refl _) (Nat.le_refl _) (fun v' hv' => by cases hv') (fun E' hE' => by cases hE'; exact ⟨rfl, Or.inl ⟨hh, rfl⟩⟩) h3
    · rename_i a b hh
      split at h
      · rename_i q hq
        split at h
        · rename_i k hk
          obtain ⟨hb, h⟩ := ev_cond h
          cases h
          exact ev_x_call hz (ev_z_cls hz) h1 h2 (Nat.le_refl _) (Nat.le_refl _) (fun v' hv' => by cases hv') (fun E' hE' => by cases hE'; exact ⟨rfl, Or.inr ⟨q, k, by rw [hh]; exact hq, hk, hb, rfl⟩⟩) h3
        · cases h
      · cases h
  · cases h
theorem ev_drop_cons {st rest : List Value} {n : Nat} {v : Value} (h : st.drop n = v :: rest) : st = (st.take n).reverse.reverse ++ v :: rest ∧ (st.take n).reverse.length = n := by
  refine ⟨by rw [List.reverse_reverse, ← h, List.take_append_drop], ?_⟩
  rw [List.length_reverse, List.length_take]
  have h1 : (st.drop n).length = st.length - n := List.length_drop
  rw [h, List.length_cons] at h1
  omega
theorem ev_s_inv {go : Nat → Nat → ev_L → List Value → ev_W → Option ev_R} {cal : Nat → List Value → ev_W → Option ev_R} (hgo : ∀ (j pc : Nat) (ls : ev_L) (st : List Value) (w : ev_W) (o : Option Value ⊕ Nat) (w1 : ev_W), go j pc ls st w = some (o, w1) → ev_Snd D cy base ext SL SX l j pc ls st w o w1) (hcal : ∀ (j2 : Nat) (e2 : ev_ME) (as : List Value) (w : ev_W) (o : Option Value ⊕ Nat) (w1 : ev_W), ev_me j2 = some e2 → cal j2 as w = some (o, w1) → ev_Con D cy base ext SL SX l e2 as w o w1 ∧ w_c w ≤ w_c w1 ∧ w_z w ≤ w_z w1) {z0 : ev_ME} {kd ix n : Nat} {ins : Instr} (hins : (kd = 1 ∧ ins = .invokevirtual ix) ∨ (kd = 0 ∧ ins = .invokestatic ix) ∨ (kd = 2 ∧ ins = .invokespecial ix)) (hz : ev_mel j = some z0) (hd : decode (ev_by z0) pc = .ok (ins, n)) (hn : Nat.beq n 3 = true) (h : ev_inv go cal j z0 pc ls w kd ix st = some (o, w1)) : ev_Snd D cy base ext SL SX l j pc ls st w o w1 := by
  have hd3 : decode (ev_by z0) pc = .ok (ins, 3) := by rw [← Nat.eq_of_beq_eq_true hn]; exact hd
  unfold ev_inv at h
  split at h
  · rename_i j2 hj2
    split at h
    · rename_i e2 he2
      split at h
      · rename_i hk1 hk2
        rcases hins with ⟨-, rfl⟩ | ⟨q, -⟩ | ⟨q, -⟩
        · unfold ev_virt at h
          split at h
          · rename_i a rest hdr
            obtain ⟨hb, h⟩ := ev_cond h
            simp only [Bool.and_eq_true, decide_eq_true_eq] at hb
            obtain ⟨e1, e3⟩ := ev_drop_cons hdr
            refine ev_s_aft (cal := cal) hgo _ rfl hz h (fun o2 w2 hy => ?_)
            obtain ⟨c1, c2, c3⟩ := hcal _ _ _ _ _ _ he2 hy
            refine ⟨c2, c3, ?_⟩
            rw [e1]
            exact ev_runV hj2 he2 hk2 e3 hb.1 (Nat.eq_of_beq_eq_true hb.2.1) hb.2.2.1 hb.2.2.2 hd3 c1
          · cases h
        · cases q
        · cases q
      · rename_i hk1 hk2
        rcases hins with ⟨q, -⟩ | ⟨-, rfl⟩ | ⟨q, -⟩
        · cases q
        · unfold ev_stat at h
          obtain ⟨hb, h⟩ := ev_cond h
          simp only [Bool.and_eq_true, decide_eq_true_eq] at hb
          refine ev_s_aft (cal := cal) hgo _ rfl hz h (fun o2 w2 hy => ?_)
          obtain ⟨c1, c2, c3⟩ := hcal _ _ _ _ _ _ he2 hy
          have e1 : st = (st.take (ev_na e2)).reverse.reverse ++ st.drop (ev_na e2) := by rw [List.reverse_reverse, List.take_append_drop]
          have e3 : (st.take (ev_na e2)).reverse.length = ev_na e2 := by rw [List.length_reverse, List.length_take]; omega
          have k9 := ev_runS (j := j) (ls := ls) hj2 he2 hk2 e3 hb.2.1 hb.2.2 hd3 c1
          rw [← e1] at k9
          exact ⟨c2, c3, k9⟩
        · cases q
      · rename_i hk1 hk2
        rcases hins with ⟨q, -⟩ | ⟨q, -⟩ | ⟨-, rfl⟩
        · cases q
        · cases q
        · unfold ev_init at h
          split at h
          · rename_i a rest hdr
            obtain ⟨hb, h⟩ := ev_cond h
            simp only [Bool.and_eq_true, decide_eq_true_eq] at hb
            obtain ⟨e1, e3⟩ := ev_drop_cons hdr
            have hrt : none = ev_rt e2 := ((ev_me_ok he2).2.2.2.2.2.1 (Or.inl hk2)).2.2.symm
            refine ev_s_aft (cal := cal) hgo _ hrt hz h (fun o2 w2 hy => ?_)
            obtain ⟨c1, c2, c3⟩ := hcal _ _ _ _ _ _ he2 hy
            have k9 := ev_runI (j := j) (ls := ls) (Or.inl ⟨hj2, hk2⟩) he2 e3 hb.1 hb.2.2.1 hb.2.2.2 hd3 c1
            rw [← e1] at k9
            exact ⟨c2, c3, k9⟩
          · cases h
      · cases h
    · cases h
  · split at h
    · rename_i k hk
      have hnw : Cond.methodLink (ev_own.getD (ev_own1 z0) "") ix (ev_natn k) ∈ ev_all := by
        obtain ⟨l9, h3, h4⟩ := ev_look2_mem hk
        exact ev_all_in ev_natw_in (List.mem_flatMap.mpr ⟨_, h3, List.mem_map.mpr ⟨_, h4, rfl⟩⟩)
      have hjd : ∀ (i : Nat) (cw : Cond), ev_jdw[i]? = some cw → cw ∈ ev_all := fun i cw hi => ev_all_in ev_jdw_in (List.mem_of_getElem? hi)
      split at h
      · rcases hins with ⟨q, -⟩ | ⟨-, rfl⟩ | ⟨q, -⟩
        · cases q
        · unfold ev_natc at h
          split at h
          · rename_i y x r
            obtain ⟨hb, h⟩ := ev_cond h
            unfold ev_rmn at hb
            simp only [Bool.and_eq_true, decide_eq_true_eq] at hb
            refine ev_pstep (hgo _ _ _ _ _ _ _ h) (ev_hz hz (fun p e R s m args below meth c hC H locs cells slots Q L hM hS hE hcR hsR k => ?_))
            rw [hC.2.2.2.2.2.2.2.2.2.2.2.1] at hnw
            exact va_mmax hC.1 hC.2.1 (hC.2.2.2.1.trans hE.2.1.symm) hC.2.2.2.2.1 (hC.2.2.2.2.2.1 _ hnw) (hC.2.2.2.2.2.1 _ (hjd 1 _ rfl)) (hC.2.2.2.2.2.1 _ (hjd 8 _ rfl)) (hC.2.2.2.2.2.1 _ (hjd 0 _ rfl)) (by have := hC.2.2.2.2.2.2.2.2.2.2.2.2.2.1; omega) (by
              have := hC.2.2.2.2.2.2.2.2.2.2.2.2.2.2.1
              have h9 := hb.1
              unfold ev_cat at h9
              rw [ev_v_cats]; omega) hcR hsR hd3 k
          · rename_i y x r
            obtain ⟨hb, h⟩ := ev_cond h
            unfold ev_rmn at hb
            simp only [Bool.and_eq_true, decide_eq_true_eq] at hb
            refine ev_pstep (hgo _ _ _ _ _ _ _ h) (ev_hz hz (fun p e R s m args below meth c hC H locs cells slots Q L hM hS hE hcR hsR k => ?_))
            rw [hC.2.2.2.2.2.2.2.2.2.2.2.1] at hnw
            exact va_mmin hC.1 hC.2.1 (hC.2.2.2.1.trans hE.2.1.symm) hC.2.2.2.2.1 (hC.2.2.2.2.2.1 _ hnw) (hC.2.2.2.2.2.1 _ (hjd 3 _ rfl)) (hC.2.2.2.2.2.1 _ (hjd 8 _ rfl)) (hC.2.2.2.2.2.1 _ (hjd 2 _ rfl)) (by have := hC.2.2.2.2.2.2.2.2.2.2.2.2.2.1; omega) (by
              have := hC.2.2.2.2.2.2.2.2.2.2.2.2.2.2.1
              have h9 := hb.1
              unfold ev_cat at h9
              rw [ev_v_cats]; omega) hcR hsR hd3 k
          · rename_i x r
            obtain ⟨hb, h⟩ := ev_cond h
            unfold ev_rmn at hb
            simp only [Bool.and_eq_true, decide_eq_true_eq] at hb
            refine ev_pstep (hgo _ _ _ _ _ _ _ h) (ev_hz hz (fun p e R s m args below meth c hC H locs cells slots Q L hM hS hE hcR hsR k => ?_))
            rw [hC.2.2.2.2.2.2.2.2.2.2.2.1] at hnw
            exact va_mabs hC.1 hC.2.1 (hC.2.2.2.1.trans hE.2.1.symm) hC.2.2.2.2.1 (hC.2.2.2.2.2.1 _ hnw) (hC.2.2.2.2.2.1 _ (hjd 5 _ rfl)) (hC.2.2.2.2.2.1 _ (hjd 8 _ rfl)) (hC.2.2.2.2.2.1 _ (hjd 4 _ rfl)) (by have := hC.2.2.2.2.2.2.2.2.2.2.2.2.2.1; omega) (by
              have := hC.2.2.2.2.2.2.2.2.2.2.2.2.2.2.1
              have h9 := hb.1
              unfold ev_cat at h9
              rw [ev_v_cats]; omega) hcR hsR hd3 k
          · cases h
        · cases q
      · rcases hins with ⟨q, -⟩ | ⟨q, -⟩ | ⟨-, rfl⟩
        · cases q
        · cases q
        · split at h
          · rename_i a r
            obtain ⟨hb, h⟩ := ev_cond h
            unfold ev_rmn at hb
            simp only [Bool.and_eq_true, decide_eq_true_eq] at hb
            refine ev_pstep (hgo _ _ _ _ _ _ _ h) (ev_hz hz (fun p e R s m args below meth c hC H locs cells slots Q L hM hS hE hcR hsR k => ?_))
            rw [hC.2.2.2.2.2.2.2.2.2.2.2.1] at hnw
            refine W.objInit (rest := r.map (ev_v base ext)) (a := ev_ρ base ext a) hC.1 hC.2.1 hC.2.2.2.2.1 (hC.2.2.2.2.2.1 _ hnw) (hC.2.2.2.2.2.1 _ (hjd 7 _ rfl)) (hC.2.2.2.2.2.1 _ (hjd 6 _ rfl)) rfl (hE.2.1.trans hC.2.2.2.1.symm) rfl hd3 (by have := hC.2.2.2.2.2.2.2.2.2.2.2.2.2.1; omega) ?_ k
            have h7 := hC.2.2.2.2.2.2.2.2.2.2.2.2.2.2.1
            have h8 := ev_monr (st := (.ref a :: r).map (ev_v base ext)) (base := base) (ext := ext) (L := L) (m := m) (pc := pc) hb.1
            have h6 : 2 * (F0 m pc L ((Value.ref a :: r).map (ev_v base ext))).monitorRoom + ((r.map (ev_v base ext)).map fun v => v.category).sum + 12 ≤ R.locals := by omega
            exact h6
          · cases h
      · cases h
    · obtain ⟨hb, h⟩ := ev_cond h
      simp only [Bool.and_eq_true] at hb
      have hkd := Nat.eq_of_beq_eq_true hb.1
      have ho := Nat.eq_of_beq_eq_true hb.2.1
      have hix := Nat.eq_of_beq_eq_true hb.2.2
      rcases hins with ⟨q, -⟩ | ⟨q, -⟩ | ⟨-, rfl⟩
      · rw [q] at hkd; cases hkd
      · rw [q] at hkd; cases hkd
      · split at h
        · rename_i e2 he2
          unfold ev_init at h
          split at h
          · rename_i a rest hdr
            obtain ⟨hb, h⟩ := ev_cond h
            simp only [Bool.and_eq_true, decide_eq_true_eq] at hb
            obtain ⟨e1, e3⟩ := ev_drop_cons hdr
            have hk3 : ev_kd e2 = 3 := by
              have h9 : (ev_me ev_nst.2.2).map ev_kd = some 3 := by decide +kernel
              rw [he2] at h9
              exact Option.some.inj h9
            have hrt : none = ev_rt e2 := ((ev_me_ok he2).2.2.2.2.2.1 (Or.inr hk3)).2.2.symm
            refine ev_s_aft (cal := cal) hgo _ hrt hz h (fun o2 w2 hy => ?_)
            obtain ⟨c1, c2, c3⟩ := hcal _ _ _ _ _ _ he2 hy
            have k9 := ev_runI (j := j) (ls := ls) (Or.inr ⟨ho, hix, rfl⟩) he2 e3 hb.1 hb.2.2.1 hb.2.2.2 hd3 c1
            rw [← e1] at k9
            exact ⟨c2, c3, k9⟩
          · cases h
        · cases h
theorem ev_strp_go {own ix : Nat} : ∀ {l : List (Nat × Nat × String)} {i k : Nat}, ev_strp own ix l i = some k → i ≤ k ∧ ∃ q, l[k - i]? = some q ∧ q.1 = own ∧ q.2.1 = ix
  | [], _, _, h => by cases h
  | a :: b, i, k, h => by
    unfold ev_strp at h
    cases hb : (Nat.beq a.1 own && Nat.beq a.2.1 ix) with
    | true =>
      rw [hb] at h
      have h9 : i = k := Option.some.inj h
      subst h9
      simp only [Bool.and_eq_true] at hb
      refine ⟨Nat.le_refl _, a, ?_, Nat.eq_of_beq_eq_true hb.1, Nat.eq_of_beq_eq_true hb.2⟩
      rw [Nat.sub_self]
      rfl
    | false =>
      rw [hb] at h
      obtain ⟨g1, q, g2, g3⟩ := ev_strp_go (l := b) h
      refine ⟨by omega, q, ?_, g3⟩
      have e9 : k - i = (k - (i + 1)) + 1 := by omega
      rw [e9, List.getElem?_cons_succ]
      exact g2
theorem ev_strp_of {own ix k : Nat} (h : ev_strp own ix ev_str 0 = some k) : ∃ q, ev_str[k]? = some q ∧ q.1 = own ∧ q.2.1 = ix := by
  obtain ⟨-, q, g2, g3⟩ := ev_strp_go h
  exact ⟨q, g2, g3⟩
theorem ev_s_ins {go : Nat → Nat → ev_L → List Value → ev_W → Option ev_R} {cal : Nat → List Value → ev_W → Option ev_R} (hgo : ∀ (j pc : Nat) (ls : ev_L) (st : List Value) (w : ev_W) (o : Option Value ⊕ Nat) (w1 : ev_W), go j pc ls st w = some (o, w1) → ev_Snd D cy base ext SL SX l j pc ls st w o w1) (hcal : ∀ (j2 : Nat) (e2 : ev_ME) (as : List Value) (w : ev_W) (o : Option Value ⊕ Nat) (w1 : ev_W), ev_me j2 = some e2 → cal j2 as w = some (o, w1) → ev_Con D cy base ext SL SX l e2 as w o w1 ∧ w_c w ≤ w_c w1 ∧ w_z w ≤ w_z w1) {z0 : ev_ME} {ins : Instr} {n : Nat} (hz : ev_mel j = some z0) (hd : decode (ev_by z0) pc = .ok (ins, n)) (hn : ev_lok n ins = true) (h : ev_ins go cal j z0 pc ls w st n ins = some (o, w1)) : ev_Snd D cy base ext SL SX l j pc ls st w o w1 := by
  cases ins with
  | iconst n9 =>
    have h : _ = some (o, w1) := h
    exact ev_x_iconst (ev_hd 1 hz hd hn) (hgo _ _ _ _ _ _ _ h)
  | bipush n9 =>
    have h : _ = some (o, w1) := h
    exact ev_x_bipush (ev_hd 2 hz hd hn) (hgo _ _ _ _ _ _ _ h)
  | sipush n9 =>
    have h : _ = some (o, w1) := h
    exact ev_x_sipush (ev_hd 3 hz hd hn) (hgo _ _ _ _ _ _ _ h)
  | ldc ix =>
    unfold ev_ins at h
    dsimp only at h
    split at h
    · rename_i k hk
      obtain ⟨q, q1, q2, q3⟩ := ev_strp_of hk
      subst q3
      refine ev_x_ldc (k9 := k) (q := q) q1 (ev_hz hz q2) (ev_hd 2 hz hd hn) (hgo _ _ _ _ _ _ _ h)
    · cases h
  | iload_n q =>
    refine ev_s_ld (cal := cal) hgo (len := 1) (k := 0) hz (fun v hv hm hs => ?_) h
    cases v with
    | int x => exact ev_x_iload_n hv (ev_hd 1 hz hd hn) hs
    | _ => exact hm.elim
  | iload q =>
    refine ev_s_ld (cal := cal) hgo (len := 2) (k := 0) hz (fun v hv hm hs => ?_) h
    cases v with
    | int x => exact ev_x_iload hv (ev_hd 2 hz hd hn) hs
    | _ => exact hm.elim
  | fload q =>
    refine ev_s_ld (cal := cal) hgo (len := 2) (k := 2) hz (fun v hv hm hs => ?_) h
    cases v with
    | float x => exact ev_x_fload hv (ev_hd 2 hz hd hn) hs
    | _ => exact hm.elim
  | dload q =>
    refine ev_s_ld (cal := cal) hgo (len := 2) (k := 3) hz (fun v hv hm hs => ?_) h
    cases v with
    | double x => exact ev_x_dload hv (ev_hd 2 hz hd hn) hs
    | _ => exact hm.elim
  | aload_n q =>
    refine ev_s_ld (cal := cal) hgo (len := 1) (k := 1) hz (fun v hv hm hs => ?_) h
    cases v with
    | ref x => exact ev_x_aload_n hv (ev_hd 1 hz hd hn) hs
    | null => exact ev_x_aload_nN hv (ev_hd 1 hz hd hn) hs
    | _ => exact hm.elim
  | aload q =>
    refine ev_s_ld (cal := cal) hgo (len := 2) (k := 1) hz (fun v hv hm hs => ?_) h
    cases v with
    | ref x => exact ev_x_aload hv (ev_hd 2 hz hd hn) hs
    | null => exact ev_x_aloadN hv (ev_hd 2 hz hd hn) hs
    | _ => exact hm.elim
  | istore_n q =>
    unfold ev_ins at h
    dsimp only at h
    split at h
    · unfold ev_st1 at h
      obtain ⟨hb, h⟩ := ev_cond h
      simp only [Bool.and_eq_true, decide_eq_true_eq] at hb
      exact ev_x_istore_n (ev_hd 1 hz hd hn) hb.1 hb.2 (hgo _ _ _ _ _ _ _ h)
    · cases h
  | istore q =>
    unfold ev_ins at h
    dsimp only at h
    split at h
    · unfold ev_st1 at h
      obtain ⟨hb, h⟩ := ev_cond h
      simp only [Bool.and_eq_true, decide_eq_true_eq] at hb
      exact ev_x_istore (ev_hd 2 hz hd hn) hb.1 hb.2 (hgo _ _ _ _ _ _ _ h)
    · cases h
  | astore_n q =>
    unfold ev_ins at h
    dsimp only at h
    split at h
    · unfold ev_st1 at h
      obtain ⟨hb, h⟩ := ev_cond h
      simp only [Bool.and_eq_true, decide_eq_true_eq] at hb
      exact ev_x_astore_n (ev_hd 1 hz hd hn) hb.1 hb.2 (hgo _ _ _ _ _ _ _ h)
    · cases h
  | astore q =>
    unfold ev_ins at h
    dsimp only at h
    split at h
    · unfold ev_st1 at h
      obtain ⟨hb, h⟩ := ev_cond h
      simp only [Bool.and_eq_true, decide_eq_true_eq] at hb
      exact ev_x_astore (ev_hd 2 hz hd hn) hb.1 hb.2 (hgo _ _ _ _ _ _ _ h)
    · cases h
  | fstore q =>
    unfold ev_ins at h
    dsimp only at h
    split at h
    · unfold ev_st1 at h
      obtain ⟨hb, h⟩ := ev_cond h
      simp only [Bool.and_eq_true, decide_eq_true_eq] at hb
      exact ev_x_fstore (ev_hd 2 hz hd hn) hb.1 hb.2 (hgo _ _ _ _ _ _ _ h)
    · cases h
  | dstore q =>
    unfold ev_ins at h
    dsimp only at h
    split at h
    · unfold ev_st2 at h
      obtain ⟨hb, h⟩ := ev_cond h
      simp only [Bool.and_eq_true, decide_eq_true_eq] at hb
      exact ev_x_dstore (ev_hd 2 hz hd hn) hb.1 hb.2 (hgo _ _ _ _ _ _ _ h)
    · cases h
  | iinc i n9 =>
    unfold ev_ins at h
    dsimp only at h
    split at h
    · rename_i x hx
      obtain ⟨hb, h⟩ := ev_cond h
      exact ev_x_iinc (ev_hd 3 hz hd hn) hx hb (hgo _ _ _ _ _ _ _ h)
    · cases h
  | iadd =>
    unfold ev_ins at h
    dsimp only at h
    split at h
    · exact ev_x_iadd (ev_hd 1 hz hd hn) (hgo _ _ _ _ _ _ _ h)
    · cases h
  | isub =>
    unfold ev_ins at h
    dsimp only at h
    split at h
    · exact ev_x_isub (ev_hd 1 hz hd hn) (hgo _ _ _ _ _ _ _ h)
    · cases h
  | imul =>
    unfold ev_ins at h
    dsimp only at h
    split at h
    · exact ev_x_imul (ev_hd 1 hz hd hn) (hgo _ _ _ _ _ _ _ h)
    · cases h
  | iand =>
    unfold ev_ins at h
    dsimp only at h
    split at h
    · exact ev_x_iand (ev_hd 1 hz hd hn) (hgo _ _ _ _ _ _ _ h)
    · cases h
  | ior =>
    unfold ev_ins at h
    dsimp only at h
    split at h
    · exact ev_x_ior (ev_hd 1 hz hd hn) (hgo _ _ _ _ _ _ _ h)
    · cases h
  | ixor =>
    unfold ev_ins at h
    dsimp only at h
    split at h
    · exact ev_x_ixor (ev_hd 1 hz hd hn) (hgo _ _ _ _ _ _ _ h)
    · cases h
  | ishl =>
    unfold ev_ins at h
    dsimp only at h
    split at h
    · exact ev_x_ishl (ev_hd 1 hz hd hn) (hgo _ _ _ _ _ _ _ h)
    · cases h
  | ishr =>
    unfold ev_ins at h
    dsimp only at h
    split at h
    · exact ev_x_ishr (ev_hd 1 hz hd hn) (hgo _ _ _ _ _ _ _ h)
    · cases h
  | i2l =>
    unfold ev_ins at h
    dsimp only at h
    split at h
    · exact ev_x_i2l (ev_hd 1 hz hd hn) (hgo _ _ _ _ _ _ _ h)
    · cases h
  | i2b =>
    unfold ev_ins at h
    dsimp only at h
    split at h
    · exact ev_x_i2b (ev_hd 1 hz hd hn) (hgo _ _ _ _ _ _ _ h)
    · cases h
  | i2f =>
    unfold ev_ins at h
    dsimp only at h
    split at h
    · exact ev_x_i2f (ev_hd 1 hz hd hn) (hgo _ _ _ _ _ _ _ h)
    · cases h
  | i2d =>
    unfold ev_ins at h
    dsimp only at h
    split at h
    · exact ev_x_i2d (ev_hd 1 hz hd hn) (hgo _ _ _ _ _ _ _ h)
    · cases h
  | lcmp =>
    unfold ev_ins at h
    dsimp only at h
    split at h
    · exact ev_x_lcmp (ev_hd 1 hz hd hn) (hgo _ _ _ _ _ _ _ h)
    · cases h
  | idiv =>
    unfold ev_ins at h
    dsimp only at h
    split at h
    · rename_i y x r
      by_cases hy : y = 0
      · rw [decide_eq_true hy] at h
        cases h
      · rw [decide_eq_false hy] at h
        exact ev_x_idiv hy (ev_hd 1 hz hd hn) (hgo _ _ _ _ _ _ _ h)
    · cases h
  | irem =>
    unfold ev_ins at h
    dsimp only at h
    split at h
    · rename_i y x r
      by_cases hy : y = 0
      · rw [decide_eq_true hy] at h
        cases h
      · rw [decide_eq_false hy] at h
        exact ev_x_irem hy (ev_hd 1 hz hd hn) (hgo _ _ _ _ _ _ _ h)
    · cases h
  | fconst n9 =>
    unfold ev_ins at h
    dsimp only at h
    obtain ⟨hb, h⟩ := ev_cond h
    have h0 := of_decide_eq_true hb
    subst h0
    exact ev_x_fconst (ev_hd 1 hz hd hn) (hgo _ _ _ _ _ _ _ h)
  | dconst n9 =>
    unfold ev_ins at h
    dsimp only at h
    obtain ⟨hb, h⟩ := ev_cond h
    have h0 := of_decide_eq_true hb
    subst h0
    exact ev_x_dconst (ev_hd 1 hz hd hn) (hgo _ _ _ _ _ _ _ h)
  | dup =>
    unfold ev_ins at h
    dsimp only at h
    split at h
    · obtain ⟨hb, h⟩ := ev_cond h
      exact ev_x_dup (Nat.eq_of_beq_eq_true hb) (ev_hd 1 hz hd hn) (hgo _ _ _ _ _ _ _ h)
    · cases h
  | pop =>
    unfold ev_ins at h
    dsimp only at h
    split at h
    · obtain ⟨hb, h⟩ := ev_cond h
      exact ev_x_pop (Nat.eq_of_beq_eq_true hb) (ev_hd 1 hz hd hn) (hgo _ _ _ _ _ _ _ h)
    · cases h
  | dup2 =>
    unfold ev_ins at h
    dsimp only at h
    split at h
    · obtain ⟨hb, h⟩ := ev_cond h
      simp only [Bool.and_eq_true] at hb
      exact ev_x_dup2 (Nat.eq_of_beq_eq_true hb.1) (Nat.eq_of_beq_eq_true hb.2) (ev_hd 1 hz hd hn) (hgo _ _ _ _ _ _ _ h)
    · cases h
  | ifCond c off =>
    unfold ev_ins at h
    dsimp only at h
    split at h
    · obtain ⟨q, hq, h⟩ := ev_br_of h
      cases c
      · exact ev_x_if_eq (ev_hd 3 hz hd hn) hq (hgo _ _ _ _ _ _ _ h)
      · exact ev_x_if_ne (ev_hd 3 hz hd hn) hq (hgo _ _ _ _ _ _ _ h)
      · exact ev_x_if_lt (ev_hd 3 hz hd hn) hq (hgo _ _ _ _ _ _ _ h)
      · exact ev_x_if_ge (ev_hd 3 hz hd hn) hq (hgo _ _ _ _ _ _ _ h)
      · exact ev_x_if_gt (ev_hd 3 hz hd hn) hq (hgo _ _ _ _ _ _ _ h)
      · exact ev_x_if_le (ev_hd 3 hz hd hn) hq (hgo _ _ _ _ _ _ _ h)
    · cases h
  | if_icmp c off =>
    unfold ev_ins at h
    dsimp only at h
    split at h
    · obtain ⟨q, hq, h⟩ := ev_br_of h
      cases c
      · exact ev_x_icmp_eq (ev_hd 3 hz hd hn) hq (hgo _ _ _ _ _ _ _ h)
      · exact ev_x_icmp_ne (ev_hd 3 hz hd hn) hq (hgo _ _ _ _ _ _ _ h)
      · exact ev_x_icmp_lt (ev_hd 3 hz hd hn) hq (hgo _ _ _ _ _ _ _ h)
      · exact ev_x_icmp_ge (ev_hd 3 hz hd hn) hq (hgo _ _ _ _ _ _ _ h)
      · exact ev_x_icmp_gt (ev_hd 3 hz hd hn) hq (hgo _ _ _ _ _ _ _ h)
      · exact ev_x_icmp_le (ev_hd 3 hz hd hn) hq (hgo _ _ _ _ _ _ _ h)
    · cases h
  | goto off =>
    unfold ev_ins at h
    dsimp only at h
    split at h
    · rename_i q hq
      exact ev_x_goto (ev_jmp_of hq) (ev_hd 3 hz hd hn) (hgo _ _ _ _ _ _ _ h)
    · cases h
  | tableswitch d lo hi offs =>
    unfold ev_ins at h
    dsimp only at h
    split at h
    · rename_i x r
      cases hb : (decide (x.toInt < lo) || decide (hi < x.toInt)) with
      | true =>
        rw [hb] at h
        simp only [Bool.or_eq_true, decide_eq_true_eq] at hb
        dsimp only [cond_true] at h
        split at h
        · rename_i q hq
          exact ev_x_tsOut (ev_hz hz hd) hb (ev_jmp_of hq) (hgo _ _ _ _ _ _ _ h)
        · cases h
      | false =>
        rw [hb] at h
        simp only [Bool.or_eq_false_iff, decide_eq_false_iff_not] at hb
        dsimp only [cond_false] at h
        split at h
        · rename_i off ho
          split at h
          · rename_i q hq
            exact ev_x_tsIn (ev_hz hz hd) hb.1 hb.2 ho (ev_jmp_of hq) (hgo _ _ _ _ _ _ _ h)
          · cases h
        · cases h
    · cases h
  | getfield ix => exact ev_s_getf (cal := cal) hgo hz hd hn h
  | putfield ix => exact ev_s_putf (cal := cal) hgo hz hd hn h
  | iaload =>
    have h : ev_ildS go j pc ls w st = some (o, w1) := h
    unfold ev_ildS at h
    split at h
    · rename_i i a r _
      cases hb : Nat.beq a ev_S with
      | true =>
        rw [hb] at h
        have ha := Nat.eq_of_beq_eq_true hb
        subst ha
        obtain ⟨hb2, h⟩ := ev_cond h
        simp only [Bool.and_eq_true] at hb2
        exact ev_x_sald (Nat.eq_of_beq_eq_true hb2.1) hb2.2 (ev_hd 1 hz hd hn) (hgo _ _ _ _ _ _ _ h)
      | false =>
        rw [hb] at h
        have h : ev_ald go j pc ls w 10 10 (.int i :: .ref a :: r) = some (o, w1) := h
        unfold ev_ald at h
        dsimp only at h
        obtain ⟨hb2, h⟩ := ev_cond h
        simp only [Bool.and_eq_true, Bool.or_eq_true, decide_eq_true_eq] at hb2
        exact ev_x_iald hb2.1 (Nat.eq_of_beq_eq_true (hb2.2.1.elim id id)) hb2.2.2 (ev_hd 1 hz hd hn) (hgo _ _ _ _ _ _ _ h)
    · cases h
  | baload =>
    have h : ev_ald go j pc ls w 9 11 st = some (o, w1) := h
    unfold ev_ald at h
    split at h
    · obtain ⟨hb2, h⟩ := ev_cond h
      simp only [Bool.and_eq_true, Bool.or_eq_true, decide_eq_true_eq] at hb2
      exact ev_x_bald hb2.1 rfl (hb2.2.1.imp Nat.eq_of_beq_eq_true Nat.eq_of_beq_eq_true) hb2.2.2 (ev_hd 1 hz hd hn) (hgo _ _ _ _ _ _ _ h)
    · cases h
  | laload =>
    unfold ev_ins at h
    dsimp only at h
    split at h
    · obtain ⟨hb2, h⟩ := ev_cond h
      simp only [Bool.and_eq_true, decide_eq_true_eq] at hb2
      exact ev_x_lald hb2.1 (Nat.eq_of_beq_eq_true hb2.2.1) hb2.2.2 (ev_hd 1 hz hd hn) (hgo _ _ _ _ _ _ _ h)
    · cases h
  | daload =>
    unfold ev_ins at h
    dsimp only at h
    split at h
    · obtain ⟨hb2, h⟩ := ev_cond h
      simp only [Bool.and_eq_true, decide_eq_true_eq] at hb2
      exact ev_x_dald hb2.1 (Nat.eq_of_beq_eq_true hb2.2.1) hb2.2.2 (ev_hd 1 hz hd hn) (hgo _ _ _ _ _ _ _ h)
    · cases h
  | iastore =>
    unfold ev_ins at h
    dsimp only at h
    split at h
    · obtain ⟨hb2, h⟩ := ev_cond h
      simp only [Bool.and_eq_true, decide_eq_true_eq] at hb2
      exact ev_x_iast hb2.1 (Nat.eq_of_beq_eq_true hb2.2.1) hb2.2.2 (ev_hd 1 hz hd hn) (hgo _ _ _ _ _ _ _ h)
    · cases h
  | lastore =>
    unfold ev_ins at h
    dsimp only at h
    split at h
    · obtain ⟨hb2, h⟩ := ev_cond h
      simp only [Bool.and_eq_true, decide_eq_true_eq] at hb2
      exact ev_x_last hb2.1 (Nat.eq_of_beq_eq_true hb2.2.1) hb2.2.2 (ev_hd 1 hz hd hn) (hgo _ _ _ _ _ _ _ h)
    · cases h
  | dastore =>
    unfold ev_ins at h
    dsimp only at h
    split at h
    · obtain ⟨hb2, h⟩ := ev_cond h
      simp only [Bool.and_eq_true, decide_eq_true_eq] at hb2
      exact ev_x_dast hb2.1 (Nat.eq_of_beq_eq_true hb2.2.1) hb2.2.2 (ev_hd 1 hz hd hn) (hgo _ _ _ _ _ _ _ h)
    · cases h
  | aaload =>
    unfold ev_ins at h
    dsimp only at h
    split at h
    · obtain ⟨hb2, h⟩ := ev_cond h
      simp only [Bool.and_eq_true, Bool.or_eq_true, decide_eq_true_eq] at hb2
      exact ev_x_aald hb2.1 rfl (hb2.2.1.imp Nat.eq_of_beq_eq_true Nat.eq_of_beq_eq_true) hb2.2.2 (ev_hd 1 hz hd hn) (hgo _ _ _ _ _ _ _ h)
    · cases h
  | bastore =>
    unfold ev_ins at h
    dsimp only at h
    split at h
    · obtain ⟨hb2, h⟩ := ev_cond h
      simp only [Bool.and_eq_true, decide_eq_true_eq] at hb2
      split at h
      · rename_i hk
        exact ev_x_bast hb2.1 hk hb2.2 (ev_hd 1 hz hd hn) (hgo _ _ _ _ _ _ _ h)
      · rename_i hk
        exact ev_x_zast hb2.1 hk hb2.2 (ev_hd 1 hz hd hn) (hgo _ _ _ _ _ _ _ h)
      · cases h
    · cases h
  | aastore =>
    unfold ev_ins at h
    dsimp only at h
    split at h
    · obtain ⟨hb2, h⟩ := ev_cond h
      simp only [Bool.and_eq_true, decide_eq_true_eq] at hb2
      split at h
      · rename_i hk1 hk2
        exact ev_x_aast hb2.1 hb2.2.1 hk1 hk2 (Or.inl ⟨rfl, rfl⟩) hb2.2.2 (ev_hd 1 hz hd hn) (hgo _ _ _ _ _ _ _ h)
      · rename_i hk1 hk2
        exact ev_x_aast hb2.1 hb2.2.1 hk1 hk2 (Or.inr ⟨rfl, rfl⟩) hb2.2.2 (ev_hd 1 hz hd hn) (hgo _ _ _ _ _ _ _ h)
      · cases h
    · cases h
  | arraylength =>
    have h : ev_alen go j pc ls w st = some (o, w1) := h
    unfold ev_alen at h
    split at h
    · rename_i a r _
      cases hb : Nat.beq a ev_S with
      | true =>
        rw [hb] at h
        have ha := Nat.eq_of_beq_eq_true hb
        subst ha
        obtain ⟨hb2, h⟩ := ev_cond h
        exact ev_x_slen (Nat.eq_of_beq_eq_true hb2) (ev_hd 1 hz hd hn) (hgo _ _ _ _ _ _ _ h)
      | false =>
        rw [hb] at h
        obtain ⟨hb2, h⟩ := ev_cond h
        simp only [Bool.and_eq_true, decide_eq_true_eq] at hb2
        exact ev_x_alen hb2.1.1 hb2.1.2 hb2.2 (ev_hd 1 hz hd hn) (hgo _ _ _ _ _ _ _ h)
    · cases h
  | new ix =>
    have h : ev_new1 go j z0 pc ls w ix st = some (o, w1) := h
    unfold ev_new1 at h
    split at h
    · rename_i ci hci
      split at h
      · rename_i q hq
        obtain ⟨hb2, h⟩ := ev_cond h
        simp only [Bool.and_eq_true, decide_eq_true_eq] at hb2
        exact ev_x_new (ev_hz (X := fun z => ev_look2 (ev_own1 z) ix ev_clt = some ci) hz hci) hq hb2.1 hb2.2 (ev_hd 3 hz hd hn) (hgo _ _ _ _ _ _ _ h)
      · cases h
    · cases h
  | newarray t =>
    have h : ev_newa go j pc ls w t st = some (o, w1) := h
    unfold ev_newa at h
    split at h
    · rename_i k hk _
      obtain ⟨hb2, h⟩ := ev_cond h
      simp only [Bool.and_eq_true, decide_eq_true_eq] at hb2
      exact ev_x_newa hk hb2.1.1 hb2.1.2 hb2.2 (ev_hd 2 hz hd hn) (hgo _ _ _ _ _ _ _ h)
    · cases h
  | anewarray ix =>
    have h : ev_newq go j z0 pc ls w ix st = some (o, w1) := h
    unfold ev_newq at h
    split at h
    · rename_i hci _
      obtain ⟨hb2, h⟩ := ev_cond h
      simp only [Bool.and_eq_true, decide_eq_true_eq] at hb2
      exact ev_x_newq (ev_hz (X := fun z => ev_look2 (ev_own1 z) ix ev_clt = some 0) hz hci) (Or.inl ⟨rfl, rfl⟩) hb2.1.1 hb2.1.2 hb2.2 (ev_hd 3 hz hd hn) (hgo _ _ _ _ _ _ _ h)
    · rename_i hci _
      obtain ⟨hb2, h⟩ := ev_cond h
      simp only [Bool.and_eq_true, decide_eq_true_eq] at hb2
      exact ev_x_newq (ev_hz (X := fun z => ev_look2 (ev_own1 z) ix ev_clt = some 5) hz hci) (Or.inr ⟨rfl, rfl⟩) hb2.1.1 hb2.1.2 hb2.2 (ev_hd 3 hz hd hn) (hgo _ _ _ _ _ _ _ h)
    · cases h
  | invokevirtual ix => exact ev_s_inv hgo hcal (Or.inl ⟨rfl, rfl⟩) hz hd hn h
  | invokestatic ix => exact ev_s_inv hgo hcal (Or.inr (Or.inl ⟨rfl, rfl⟩)) hz hd hn h
  | invokespecial ix => exact ev_s_inv hgo hcal (Or.inr (Or.inr ⟨rfl, rfl⟩)) hz hd hn h
  | ireturn =>
    unfold ev_ins at h
    dsimp only at h
    split at h
    · rename_i x
      obtain ⟨hb, h⟩ := ev_cond h
      cases h
      exact ev_rstep (v := some (.int x)) rfl (fun z hz' => ev_hz (X := fun z => ev_rok (ev_rt z) (some (.int x)) = true ∧ ev_rat z pc (some (.int x))) hz ⟨hb, ev_hd 1 hz hd hn _ hz⟩ z hz')
    · cases h
  | freturn =>
    unfold ev_ins at h
    dsimp only at h
    split at h
    · rename_i x
      obtain ⟨hb, h⟩ := ev_cond h
      cases h
      exact ev_rstep (v := some (.float x)) rfl (fun z hz' => ev_hz (X := fun z => ev_rok (ev_rt z) (some (.float x)) = true ∧ ev_rat z pc (some (.float x))) hz ⟨hb, ev_hd 1 hz hd hn _ hz⟩ z hz')
    · cases h
  | dreturn =>
    unfold ev_ins at h
    dsimp only at h
    split at h
    · rename_i x
      obtain ⟨hb, h⟩ := ev_cond h
      cases h
      exact ev_rstep (v := some (.double x)) rfl (fun z hz' => ev_hz (X := fun z => ev_rok (ev_rt z) (some (.double x)) = true ∧ ev_rat z pc (some (.double x))) hz ⟨hb, ev_hd 1 hz hd hn _ hz⟩ z hz')
    · cases h
  | areturn =>
    unfold ev_ins at h
    dsimp only at h
    split at h
    · rename_i x
      obtain ⟨hb, h⟩ := ev_cond h
      cases h
      exact ev_rstep (v := some (.ref x)) rfl (fun z hz' => ev_hz (X := fun z => ev_rok (ev_rt z) (some (.ref x)) = true ∧ ev_rat z pc (some (.ref x))) hz ⟨hb, ev_hd 1 hz hd hn _ hz⟩ z hz')
    · cases h
  | return_ =>
    unfold ev_ins at h
    dsimp only at h
    split at h
    · obtain ⟨hb, h⟩ := ev_cond h
      cases h
      exact ev_rstep (v := none) rfl (fun z hz' => ev_hz (X := fun z => ev_rok (ev_rt z) none = true ∧ ev_rat z pc none) hz ⟨hb, ev_hd 1 hz hd hn _ hz⟩ z hz')
    · cases h
  | _ => cases (show (none : Option ev_R) = some (o, w1) from h)
end SOUND
theorem ev_sound {D : va_G} {cy : Nat → ClassId} {base : Nat} {ext : Nat → Nat} {SL : Nat} {SX : Nat → Int32} {l : Launch} (hl : l.stackTraces = false) : ∀ (F j pc : Nat) (ls : ev_L) (st : List Value) (w : ev_W) (o : Option Value ⊕ Nat) (w1 : ev_W), ev F j pc ls st w = some (o, w1) → ev_Snd D cy base ext SL SX l j pc ls st w o w1 := by
  intro F
  induction F with
  | zero => intro j pc ls st w o w1 h; cases (show (none : Option ev_R) = some (o, w1) from h)
  | succ F ih =>
    intro j pc ls st w o w1 h
    rw [ev_s] at h
    unfold ev_body at h
    split at h
    · rename_i q hq
      split at h
      · cases h
        exact ev_x_throw hq
      · cases h
    · split at h
      · rename_i e he
        split at h
        · rename_i q hcd
          obtain ⟨hb, h⟩ := ev_cond h
          refine ev_s_ins ih (fun j2 e2 as w2 o2 w3 he2 hc2 => ?_) he (ev_cd_ok he (by rw [hcd])) hb h
          unfold ev_call at hc2
          rw [he2] at hc2
          dsimp only at hc2
          obtain ⟨hb2, hc2⟩ := ev_cond hc2
          simp only [Bool.and_eq_true, decide_eq_true_eq] at hb2
          have hs := ih _ _ _ _ _ _ _ hc2
          exact ⟨ev_con he2 hl (fun v hv => Nat.eq_of_beq_eq_true (List.all_eq_true.mp hb2.1 v hv)) hb2.2 hs, hs.1, hs.2.1⟩
        · cases h
      · cases h
