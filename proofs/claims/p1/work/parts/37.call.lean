/-! contracts out of the evaluator; calls, throws, handlers -/
section CON
variable (D : va_G) (cy : Nat → ClassId) (base : Nat) (ext : Nat → Nat) (SL : Nat) (SX : Nat → Int32)
def ev_Pc (as : List Value) (w : ev_W) : Array Value → State → Prop := va_Pc (as.map (ev_v base ext)) (fun U => ev_M D cy base ext SL SX w U.heap ∧ va_K D vwCl (ev_tys cy) U ∧ ev_F base ext U U.heap ∧ base ≤ U.heap.size)
def ev_Qc (z : ev_ME) (o : Option Value ⊕ Nat) (w1 : ev_W) : Array Value → State → Outcome → State → Prop := fun _ st oc t => (∃ v, o = .inl v ∧ oc = .returned (v.map (ev_v base ext)) ∧ ev_rok (ev_rt z) v = true ∧ ev_M D cy base ext SL SX w1 t.heap) ∧ va_F (ev_A base) st t
def ev_XC (o : Option Value ⊕ Nat) (w1 : ev_W) : String → State → State → Prop := fun E st t => (∃ k, o = .inr k ∧ E = ev_ex k ∧ ev_M D cy base ext SL SX w1 t.heap) ∧ va_F (ev_A base) st t
def ev_rm (z : ev_ME) (mc ms : Nat) : Room := { frames := ev_fr z, cells := mc, slots := ms, locals := ev_lo z }
def ev_wz (z : ev_ME) : List Cond := ev_cw z :: ev_all
def ev_Con (l : Launch) (z : ev_ME) (as : List Value) (w : ev_W) (o : Option Value ⊕ Nat) (w1 : ev_W) : Prop := vx_Met l (ev_y z) (ev_wz z) (ev_rm z (w_c w1 - w_c w) (w_z w1 - w_z w)) (ev_Pc D cy base ext SL SX as w) (ev_Qc D cy base ext SL SX z o w1) (ev_XC D cy base ext SL SX o w1) (w_c w1 - w_c w) (w_z w1 - w_z w) (ev_A base)
end CON
section CALL
variable {D : va_G} {cy : Nat → ClassId} {base : Nat} {ext : Nat → Nat} {SL : Nat} {SX : Nat → Int32} {l : Launch} {j pc : Nat} {ls : ev_L} {r st : List Value} {w : ev_W} {o : Option Value ⊕ Nat} {w1 : ev_W}
theorem ev_mel_me {j : Nat} {z : ev_ME} (h : ev_me j = some z) : ev_mel j = some z := by
  unfold ev_mel
  rw [ev_me_law j h]
  exact h
/-- the end of a contract's body -/
theorem ev_con_end {z : ev_ME} {p : Program} {e : Env} {s : State} {m : MethodId} {args : Array Value} {below : List Frame} {meth : Method} {c : Code} {R : Room} {K N : Nat} (hx : p.tables.exec = Jvm.exec) (hb : c.code = ev_by z) (hr : meth.sig.returnType = ev_rt z) (hlocks : meth.locks = false) (ht : ev_hh z = [] → ∀ x ∈ c.exceptionTable.toList, False) :
    ev_End D cy base ext SL SX l z p e R s m args below meth c o w1 K N (vx_MQ below (ev_Qc D cy base ext SL SX z o w1) (ev_XC D cy base ext SL SX o w1) args s K N (ev_A base)) := by
  refine ⟨fun v H1 locs1 L1 pc1 ho hM1 hS1 hrok hrat => vx_ret ?_, fun E ho => ⟨_, _, _, _, rfl, Nat.le_refl _, Nat.le_refl _, ht, fun t hM1 hF1 => ⟨⟨E, ho, rfl, hM1⟩, hF1⟩⟩⟩
  have hq : ∀ t : State, t.heap = H1 → s.WarmedH t.vm → ev_Qc D cy base ext SL SX z o w1 args s (.returned (v.map (ev_v base ext))) t := fun t ht _ => ⟨⟨v, ho, rfl, hrok, by rw [ht]; exact hM1⟩, hS1.F ht⟩
  have hf : ∀ q ∈ locs1, ev_A base q.base := hS1.2.2
  cases v with
  | none =>
    have h0 : ev_rt z = none := by
      unfold ev_rok at hrok
      cases hrt : ev_rt z with
      | none => rfl
      | some t => rw [hrt] at hrok; cases t <;> cases hrok
    exact W.vret hx hb (hr.trans h0) hq hf hrat hlocks
  | some v =>
    cases hrt : ev_rt z with
    | none => rw [hrt] at hrok; cases v <;> cases hrok
    | some t =>
      rw [hrt] at hrok
      cases v with
      | int x =>
        cases t with
        | int => exact W.iret hx hb (hr.trans hrt) hq hf hrat hlocks
        | boolean =>
          have h01 : x = 0 ∨ x = 1 := of_decide_eq_true hrok
          exact W.zret hx hb (hr.trans hrt) (by rcases h01 with rfl | rfl <;> rfl) hq hf hrat hlocks
        | _ => cases hrok
      | float x =>
        cases t with
        | float => exact W.fret hx hb (hr.trans hrt) hq hf hrat hlocks
        | _ => cases hrok
      | double x =>
        cases t with
        | double => exact W.dret hx hb (hr.trans hrt) hq hf hrat hlocks
        | _ => cases hrok
      | ref x =>
        cases t with
        | object C => exact W.aret hx hb (hr.trans hrt) (Or.inl ⟨C, rfl⟩) (Or.inr ⟨_, rfl⟩) hq hf hrat hlocks
        | _ => cases hrok
      | null => exact absurd hrat (fun q => q)
      | long x => cases t <;> cases hrok
      | retAddr x => cases t <;> cases hrok
theorem ev_con {z : ev_ME} {as : List Value} (hz : ev_me j = some z) (hl : l.stackTraces = false) (has : ∀ v ∈ as, v.category = 1) (hlen : as.length ≤ ev_ml z) (h : ev_Snd D cy base ext SL SX l j 0 (ev_in (ev_ml z) as) [] w o w1) : ev_Con D cy base ext SL SX l z as w o w1 := by
  obtain ⟨h1, h2, h3⟩ := h
  have hzl := ev_mel_me hz
  have hok := ev_me_ok hz
  have main : ∀ (p : Program) (e : Env) (s : State) (m : MethodId) (args : Array Value) (below : List Frame) (meth : Method) (c : Code) (s₁ : State), BodyLoose p l (ev_y z) (headSpec (ev_wz z) (ev_rm z (w_c w1 - w_c w) (w_z w1 - w_z w))) (ev_by z) (ev_ml z) (ev_rt z) e s m args below meth c s₁ → c.maxLocals = ev_ml z → (ev_hh z = [] → ∀ x ∈ c.exceptionTable.toList, False) → ev_Pc D cy base ext SL SX as w args s →
      W p l e (headSpec (ev_wz z) (ev_rm z (w_c w1 - w_c w) (w_z w1 - w_z w))).room s m args below meth c s.heap [] 0 0 (vx_MQ below (ev_Qc D cy base ext SL SX z o w1) (ev_XC D cy base ext SL SX o w1) args s (w_c w1 - w_c w) (w_z w1 - w_z w) (ev_A base)) (entryFrame m args (ev_ml z)) := by
    intro p e s m args below meth c s₁ B hml ht hP
    obtain ⟨rfl, hM, hK, hF, hbs⟩ := hP
    have hts : ∀ w ∈ ev_wz z, w.before (as.map (ev_v base ext)).toArray s = true := atoms_spec (ws := ev_wz z) B.pre
    have hC : ev_Cx D cy base ext SL SX l j z p (headSpec (ev_wz z) (ev_rm z (w_c w1 - w_c w) (w_z w1 - w_z w))).room s m (as.map (ev_v base ext)).toArray meth c := by
      refine ⟨B.exec, B.bytes, B.returns, hml, findClass_of_methodNamed B.named, fun w hw => hts w (List.mem_cons_of_mem _ hw), B.notSynchronized, (name_of_methodNamed B.named B.method).1, hK, hF, hbs, hok.2.1, fun hne => ?_, Nat.le_refl _, Nat.le_refl _, hl, fun hj => ?_⟩
      · refine vx_table B (y := ev_y z) (bytes := ev_by z) (maxL' := ev_ml z) (ret' := ev_rt z) ?_
        have h9 := hts _ (List.mem_cons_self : ev_cw z ∈ ev_wz z)
        unfold ev_cw at h9
        cases hh : ev_hh z with
        | nil => exact absurd hh hne
        | cons a b => rw [hh] at h9; exact h9
      · have h9 := ev_me_law j hz
        rw [hj] at h9
        exact absurd h9 (by decide)
    rw [lg_entry_eq]
    exact h3 z hzl p e _ s m _ below meth c hC s.heap [] 0 0 _ _ (w_c w1 - w_c w) (w_z w1 - w_z w) hM va_S.rf (ev_EL_in has hlen) (by omega) (by omega) (Nat.le_refl _) (Nat.le_refl _) (ev_con_end B.exec B.bytes B.returns B.notSynchronized ht)
  unfold ev_Con
  cases hh : ev_hh z with
  | nil =>
    have hw : ev_wz z = Cond.code (ev_y z) (ev_by z) (ev_ml z) (ev_rt z) :: ev_all := by
      unfold ev_wz ev_cw
      rw [hh]
    exact vx_ofW hok.2.2.1 hw (fun p e s m args below meth c s₁ B hml ht hP => main p e s m args below meth c s₁ B hml (fun _ => ht) hP)
  | cons a b =>
    have hw : ev_wz z = Cond.codeWith (ev_y z) (ev_by z) (ev_ml z) (ev_rt z) (a :: b) :: ev_all := by
      unfold ev_wz ev_cw
      rw [hh]
    exact vx_ofWH hok.2.2.1 hw (fun p e s m args below meth c s₁ B hml hP => main p e s m args below meth c s₁ B hml (fun q => by rw [hh] at q; cases q) hP)
theorem ev_Pc_blind {as : List Value} : FrameBlind (ev_Pc D cy base ext SL SX as w) := by
  intro a U g mk h
  obtain ⟨h1, h2, h3, h4, h5⟩ := h
  exact ⟨h1, h2, va_K.moved (u := U) (U := U.calling g mk a) (Vm.Alike.refl U.vm) h3, ev_F_go (s := U) (U := U.calling g mk a) (State.WarmedH.refl U) h4 (fun _ _ _ => rfl), h5⟩
/-- the callee's start, out of the caller's state -/
theorem ev_Pc_of {as : List Value} {z : ev_ME} {p : Program} {R : Room} {s : State} {m : MethodId} {args : Array Value} {meth : Method} {c : Code} {H : Heap} {locs : List Loc} (hC : ev_Cx D cy base ext SL SX l j z p R s m args meth c) (hM : ev_M D cy base ext SL SX w H) (hS : va_S (ev_A base) s.heap H locs) : ∀ U : State, U.heap = H → s.WarmedH U.vm → ev_Pc D cy base ext SL SX as w (as.map (ev_v base ext)).toArray U := by
  intro U hU hW
  refine ⟨rfl, by rw [hU]; exact hM, hC.2.2.2.2.2.2.2.2.1.moved hW.alike, ?_, ?_⟩
  · rw [hU]
    exact ev_F_go hW hC.2.2.2.2.2.2.2.2.2.1 hS.2.1
  · rw [hU]
    exact Nat.le_trans hC.2.2.2.2.2.2.2.2.2.2.1 hS.1
theorem ev_cast_in {k : Nat} (h : k < 3) : Cond.castable (ev_ex k) (ev_ex k) ∈ ev_ngw := by
  match k, h with
  | 0, _ => exact List.mem_of_getElem? (i := 0) rfl
  | 1, _ => exact List.mem_of_getElem? (i := 1) rfl
  | 2, _ => exact List.mem_of_getElem? (i := 2) rfl
theorem ev_hct_ok : ev_hct.all (fun q => decide (q.1 ≠ 0) && decide (q.2 < 3)) = true := by decide +kernel
theorem ev_hct_of {i E : Nat} (h : ev_look i ev_hct = some E) : i ≠ 0 ∧ E < 3 ∧ Cond.classLink "FlagLaundryLaw" i (ev_ex E) ∈ ev_all := by
  have h1 := ev_look_mem h
  have h2 := List.all_eq_true.mp ev_hct_ok _ h1
  simp only [Bool.and_eq_true, decide_eq_true_eq] at h2
  exact ⟨h2.1, h2.2, ev_all_in ev_hcw_in (List.mem_map.mpr ⟨_, h1, rfl⟩)⟩
theorem ev_han_sp {pc E q : Nat} : ∀ {hh : List (Nat × Nat × Nat × Nat)}, ev_han pc E hh = some q → ∃ (pre : List ExceptionTableEntry) (x : ExceptionTableEntry) (suf : List ExceptionTableEntry), tableOf hh = pre ++ x :: suf ∧ x.handlerPc = q ∧ covers x pc = true ∧ ev_look x.catchType ev_hct = some E ∧ ∀ y ∈ pre, covers y pc = false ∨ ∃ E2, E2 ≠ E ∧ ev_look y.catchType ev_hct = some E2
  | [], h => by cases h
  | a :: b, h => by
    unfold ev_han at h
    cases hl : ev_look a.2.2.2 ev_hct with
    | none => rw [hl] at h; cases h
    | some E2 =>
      rw [hl] at h
      dsimp only at h
      cases hc : (decide (a.1 ≤ pc) && decide (pc < a.2.1) && Nat.beq E E2) with
      | true =>
        rw [hc] at h
        have h9 : a.2.2.1 = q := Option.some.inj h
        simp only [Bool.and_eq_true] at hc
        have hE := Nat.eq_of_beq_eq_true hc.2
        subst hE
        exact ⟨[], ⟨a.1, a.2.1, a.2.2.1, a.2.2.2⟩, tableOf b, rfl, h9, by show (decide _ && decide _) = true; rw [hc.1.1, hc.1.2]; rfl, hl, fun y hy => by cases hy⟩
      | false =>
        rw [hc] at h
        obtain ⟨pre, x, suf, g1, g2, g3, g4, g5⟩ := ev_han_sp (hh := b) h
        refine ⟨⟨a.1, a.2.1, a.2.2.1, a.2.2.2⟩ :: pre, x, suf, ?_, g2, g3, g4, fun y hy => ?_⟩
        · show (⟨a.1, a.2.1, a.2.2.1, a.2.2.2⟩ : ExceptionTableEntry) :: tableOf b = _
          rw [g1]
          rfl
        · rcases List.mem_cons.mp hy with rfl | hy
          · by_cases hE : E2 = E
            · refine Or.inl ?_
              show (decide (a.1 ≤ pc) && decide (pc < a.2.1)) = false
              have hb9 : Nat.beq E E2 = true := by rw [hE]; exact Nat.beq_refl E
              rw [hb9, Bool.and_true] at hc
              exact hc
            · exact Or.inr ⟨E2, hE, hl⟩
          · exact g5 y hy
theorem ev_x_call {rest : List Value} {e2 : ev_ME} {o2 : Option Value ⊕ Nat} {w2 : ev_W} {z0 : ev_ME} (hz0 : ev_mel j = some z0) (hz0k : ev_hh z0 ≠ [] → (ev_y z0).cls = "FlagLaundryLaw") (hc2 : w_c w ≤ w_c w2) (hs2 : w_z w ≤ w_z w2) (hm1 : w_c w2 ≤ w_c w1) (hm2 : w_z w2 ≤ w_z w1)
    (hgo : ∀ v, o2 = .inl v → ev_rok (ev_rt e2) v = true → ev_Snd D cy base ext SL SX l j (pc + 3) ls (v.toList ++ rest) w2 o w1)
    (hx : ∀ E, o2 = .inr E → w1 = w2 ∧ ((ev_hh z0 = [] ∧ o = .inr E) ∨ ∃ q k, ev_han pc E (ev_hh z0) = some q ∧ ev_hret j q ls = some k ∧ ev_rok (ev_rt z0) (some (.int k)) = true ∧ o = .inl (some (.int k))))
    (hrun : ∀ (p : Program) (e : Env) (R : Room) (s : State) (m : MethodId) (args : Array Value) (below : List Frame) (meth : Method) (c : Code), ev_Cx D cy base ext SL SX l j z0 p R s m args meth c → ∀ (H : Heap) (locs : List Loc) (cells slots : Nat) (L : Array Slot), ev_M D cy base ext SL SX w H → va_S (ev_A base) s.heap H locs → ev_EL base ext L (ev_ml z0) ls → cells + (w_c w2 - w_c w) ≤ R.cells → slots + (w_z w2 - w_z w) ≤ R.slots →
      ∃ arr, vx_Run p l e R s m args below meth c H locs cells slots (w_c w2 - w_c w) (w_z w2 - w_z w) (F0 m pc L (st.map (ev_v base ext))) (rest.map (ev_v base ext)) (ev_Qc D cy base ext SL SX e2 o2 w2 arr) (ev_XC D cy base ext SL SX o2 w2) (ev_A base)) : ev_Snd D cy base ext SL SX l j pc ls st w o w1 := by
  refine ⟨Nat.le_trans hc2 hm1, Nat.le_trans hs2 hm2, fun z hz p e R s m args below meth c hC H locs cells slots Q L K N hM hS hE hcc hss hK hN hend => ?_⟩
  cases Option.some.inj (hz0.symm.trans hz)
  obtain ⟨arr, hr⟩ := hrun p e R s m args below meth c hC H locs cells slots L hM hS hE (by omega) (by omega)
  refine ev_callG hr hS (fun q h => h) (fun st9 v t h0 hq => ?_) (fun E st9 t h0 hq => ?_) (fun E ce q9 st9 t H1 locs1 h0 ht hq hS1 hce hcv hcl => ?_) (fun v st9 t H1 locs1 h0 ht hq hS1 => ?_)
  · have h9 := hq.2
    unfold va_F at h9
    rw [h0] at h9
    exact h9
  · have h9 := hq.2
    unfold va_F at h9
    rw [h0] at h9
    exact h9
  · obtain ⟨⟨k, ho2, hE9, hM2⟩, hF2⟩ := hq
    subst hE9
    rw [ht] at hM2
    obtain ⟨hw, hcase⟩ := hx k ho2
    subst hw
    rcases hcase with ⟨hh, ho⟩ | ⟨q, kk, hq1, hq2, hq3, ho⟩
    · obtain ⟨Qc, XC, mc', ms', hQ, hKm, hNm, htab, hfin⟩ := hend.2 k ho
      subst hQ
      exact vx_out (fun x hx9 => (htab hh x hx9).elim) hC.2.2.2.2.2.2.1 hce hcv hcl (fun t9 ht9 _ => hfin t9 (by rw [ht9]; exact hM2) (hS1.F ht9)) (fun z9 hz9 => hS1.2.2 z9 hz9) (by omega) (by omega)
    · obtain ⟨pre, x, suf, g1, g2, g3, g4, g5⟩ := ev_han_sp hq1
      have hne : ev_hh z ≠ [] := by
        intro h9
        rw [h9] at hq1
        cases hq1
      have hF := hC.2.2.2.2.2.2.2.2.2.1
      obtain ⟨i1, i2, i3⟩ := ev_hct_of g4
      have hown : s.vm.findClass "FlagLaundryLaw" = some m.cls := by
        rw [← hz0k hne]
        exact hC.2.2.2.2.1
      have hK9 : K = cells + (w_c w1 - w_c w) := by omega
      have hN9 : N = slots + (w_z w1 - w_z w) := by omega
      subst hK9; subst hN9
      refine vx_catch hown pre x suf (by rw [hC.2.2.2.2.2.2.2.2.2.2.2.2.1 hne, g1]) (fun y hy => ?_) g3 i1 (hC.2.2.2.2.2.1 _ i3) (va_Nw.use rfl (hF.1 _ (ev_cast_in i2))) hce hcv hcl ?_
      · rcases g5 y hy with h9 | ⟨E2, h8, h9⟩
        · exact Or.inl h9
        · obtain ⟨j1, j2, j3⟩ := ev_hct_of h9
          exact Or.inr ⟨j1, _, hC.2.2.2.2.2.1 _ j3, hF.2.1 k E2 i2 j2 (fun q9 => h8 q9.symm)⟩
      · rw [g2]
        unfold ev_hret at hq2
        have hx9 := hC.1
        have hb9 := hC.2.1
        split at hq2
        · rename_i a hcd
          cases hb1 : (decide ((a : Nat) < ls.length) && ev_c1 ls a) with
          | false => rw [hb1] at hq2; cases hq2
          | true =>
            rw [hb1] at hq2
            simp only [Bool.and_eq_true, decide_eq_true_eq] at hb1
            dsimp only [cond_true] at hq2
            split at hq2
            · rename_i n c1 c2
              have hkk : Int32.ofInt n = kk := Option.some.inj hq2
              refine lv_astore_n hx9 hb9 (ev_cd_ok hz hcd) rfl (ev_EL_has hE) (by rw [← hE.1]; exact hb1.1) rfl (fun L2 h2 => ?_)
              refine lv_iconst hx9 hb9 (ev_cd_ok hz c1) hkk ?_
              exact hend.1 (some (.int kk)) H1 locs1 L2 (q + 1 + 1) ho hM2 hS1 hq3 (ev_cd_ok hz c2)
            · cases hq2
        · rename_i a hcd
          cases hb1 : (decide (a < ls.length) && ev_c1 ls a) with
          | false => rw [hb1] at hq2; cases hq2
          | true =>
            rw [hb1] at hq2
            simp only [Bool.and_eq_true, decide_eq_true_eq] at hb1
            dsimp only [cond_true] at hq2
            split at hq2
            · rename_i n c1 c2
              have hkk : Int32.ofInt n = kk := Option.some.inj hq2
              refine lv_astore hx9 hb9 (ev_cd_ok hz hcd) (ev_EL_has hE) (by rw [← hE.1]; exact hb1.1) rfl (fun L2 h2 => ?_)
              refine lv_iconst hx9 hb9 (ev_cd_ok hz c1) hkk ?_
              exact hend.1 (some (.int kk)) H1 locs1 L2 (q + 2 + 1) ho hM2 hS1 hq3 (ev_cd_ok hz c2)
            · cases hq2
        · cases hq2
  · obtain ⟨⟨v9, ho2, hoc, hrok, hM2⟩, hF2⟩ := hq
    have hv : v = v9.map (ev_v base ext) := Outcome.returned.inj hoc
    subst hv
    rw [ht] at hM2
    have h9 := hgo v9 ho2 hrok
    have e9 : (v9.toList ++ rest).map (ev_v base ext) = (v9.map (ev_v base ext)).toList ++ rest.map (ev_v base ext) := by cases v9 <;> rfl
    have k9 := h9.2.2 z hz p e R s m args below meth c hC H1 locs1 (cells + (w_c w2 - w_c w)) (slots + (w_z w2 - w_z w)) Q L K N hM2 hS1 hE (by omega) (by omega) hK hN hend
    rw [e9] at k9
    exact k9
/-- what a call's link gives -/
theorem ev_tg_of {o9 ix j2 : Nat} {e2 : ev_ME} (h : ev_look2 o9 ix ev_tgt = some j2) (h2 : ev_me j2 = some e2) : Cond.methodLink (ev_own.getD o9 "") ix (ev_y e2) ∈ ev_all := by
  obtain ⟨l9, h3, h4⟩ := ev_look2_mem h
  have h5 : ev_tgw1 o9 (ix, j2) ∈ ev_tgw (o9, l9) := List.mem_map.mpr ⟨_, h4, rfl⟩
  have h6 := ev_all_in (ev_tgw_in _ h3) h5
  unfold ev_tgw1 at h6
  rw [h2] at h6
  exact h6
theorem ev_me_words {j2 : Nat} {e2 : ev_ME} (h2 : ev_me j2 = some e2) : ev_cw e2 ∈ ev_all ∧ Cond.initialized (ev_y e2).cls ∈ ev_all ∧ (ev_kd e2 = 0 → Cond.static (ev_y e2) ∈ ev_all) ∧ (ev_kd e2 ≠ 0 → Cond.instanceMethod (ev_y e2) ∈ ev_all) ∧ (ev_kd e2 = 1 → Cond.selects (ev_y e2).cls (ev_y e2) (ev_y e2) ∈ ev_all) := by
  have h := (ev_me_ok h2).1
  unfold ev_mw at h
  refine ⟨h _ List.mem_cons_self, h _ (List.mem_cons_of_mem _ List.mem_cons_self), fun hk => ?_, fun hk => ?_, fun hk => ?_⟩
  · rw [hk] at h
    exact h _ (List.mem_cons_of_mem _ (List.mem_cons_of_mem _ List.mem_cons_self))
  · refine h _ (List.mem_cons_of_mem _ (List.mem_cons_of_mem _ ?_))
    split
    · rename_i h0; exact absurd h0 hk
    · exact List.mem_cons_self
    · exact List.mem_cons_self
  · rw [hk] at h
    exact h _ (List.mem_cons_of_mem _ (List.mem_cons_of_mem _ (List.mem_cons_of_mem _ List.mem_cons_self)))
theorem ev_ws_ok {e2 : ev_ME} {j2 : Nat} (h2 : ev_me j2 = some e2) {args : Array Value} {s : State} (hts : ∀ w ∈ ev_all, w.before args s = true) : ∀ w ∈ ev_wz e2, ∀ (a' : Array Value) (U : State), s.WarmedH U.vm → w.before a' U = true :=
  pay_in hts (fun w hw => by
    rcases List.mem_cons.mp hw with rfl | hw
    · exact ev_good (ws := [ev_cw e2]) (fun w hw => by rw [List.mem_singleton.mp hw]; exact (ev_me_words h2).1) _ List.mem_cons_self
    · exact ⟨hw, ev_all_good hw⟩)
theorem ev_rmk_of {z e2 : ev_ME} {R : Room} (h : ev_rmk z e2 = true) (h1 : ev_fr z ≤ R.frames) (h2 : ev_lo z ≤ R.locals) : ev_fr e2 + 1 ≤ R.frames ∧ 8 + (ev_ml e2 + 11) + ev_lo e2 ≤ R.locals := by
  unfold ev_rmk at h
  simp only [Bool.and_eq_true, decide_eq_true_eq] at h
  exact ⟨by omega, by omega⟩
theorem ev_na_of {e2 : ev_ME} (h : ev_meok e2) : ∀ sig, parseMethodDescriptor (ev_y e2).desc = some sig → ev_na e2 = sig.parameters.length := by
  intro sig hs
  have h2 := h.2.2.2.2.1
  rw [hs] at h2
  exact (Option.some.inj h2).symm
theorem ev_monr {L : Array Slot} {m : MethodId} {rest : List Value} (h : ev_cat rest ≤ 8) : 2 * (F0 m pc L st).monitorRoom + ((rest.map (ev_v base ext)).map fun v => v.category).sum ≤ 8 := by
  refine lv_room ?_
  rw [ev_v_cats]
  exact h
theorem ev_runV {z0 e2 : ev_ME} {j2 ix a : Nat} {as rest : List Value} {o2 : Option Value ⊕ Nat} {w2 : ev_W} (h1 : ev_look2 (ev_own1 z0) ix ev_tgt = some j2) (h2 : ev_me j2 = some e2) (hkd : ev_kd e2 = 1) (hlen : as.length = ev_na e2) (ha : a < w_n w) (hk : w_K w a = ev_own1 e2) (hcat : ev_cat rest ≤ 8) (hrm : ev_rmk z0 e2 = true) (hd : decode (ev_by z0) pc = .ok (.invokevirtual ix, 3)) (hcon : ev_Con D cy base ext SL SX l e2 (.ref a :: as) w o2 w2) :
    ∀ (p : Program) (e : Env) (R : Room) (s : State) (m : MethodId) (args : Array Value) (below : List Frame) (meth : Method) (c : Code), ev_Cx D cy base ext SL SX l j z0 p R s m args meth c → ∀ (H : Heap) (locs : List Loc) (cells slots : Nat) (L : Array Slot), ev_M D cy base ext SL SX w H → va_S (ev_A base) s.heap H locs → ev_EL base ext L (ev_ml z0) ls → cells + (w_c w2 - w_c w) ≤ R.cells → slots + (w_z w2 - w_z w) ≤ R.slots →
      ∃ arr, vx_Run p l e R s m args below meth c H locs cells slots (w_c w2 - w_c w) (w_z w2 - w_z w) (F0 m pc L ((as.reverse ++ .ref a :: rest).map (ev_v base ext))) (rest.map (ev_v base ext)) (ev_Qc D cy base ext SL SX e2 o2 w2 arr) (ev_XC D cy base ext SL SX o2 w2) (ev_A base) := by
  intro p e R s m args below meth c hC H locs cells slots L hM hS hE hcR hsR
  have hok := ev_me_ok h2
  obtain ⟨hh, r9, hr9, hr9c⟩ := hok.2.2.2.2.2.2.1 hkd
  obtain ⟨w1', w2', w3', w4', w5'⟩ := ev_me_words h2
  have hts := hC.2.2.2.2.2.1
  have hlink := ev_tg_of h1 h2
  rw [hC.2.2.2.2.2.2.2.2.2.2.2.1] at hlink
  have hci : ev_own1 e2 < 9 := (List.getElem?_eq_some_iff.mp hr9).1
  have hM2 := hM.2.1
  have hcw : ev_cw e2 = Cond.code (ev_y e2) (ev_by e2) (ev_ml e2) (ev_rt e2) := by
    unfold ev_cw
    rw [hh]
  refine ⟨(Value.ref (base + a) :: as.map (ev_v base ext)).toArray, ?_⟩
  refine vx_runV (n := ev_na e2) (index := ix) (C := (ev_y e2).cls) (bytes := ev_by e2) (maxL := ev_ml e2) (ret := ev_rt e2) (As := as.map (ev_v base ext)) (b := base + a) ⟨hC.1, hC.2.1, hC.2.2.2.1, hC.2.2.2.2.1, hts⟩ hcon ⟨⟨rfl, rfl, (ev_rmk_of hrm hC.2.2.2.2.2.2.2.2.2.2.2.2.2.1 hC.2.2.2.2.2.2.2.2.2.2.2.2.2.2.1).1, (ev_rmk_of hrm hC.2.2.2.2.2.2.2.2.2.2.2.2.2.1 hC.2.2.2.2.2.2.2.2.2.2.2.2.2.2.1).2, ev_ws_ok h2 hts, by unfold ev_wz; rw [← hcw]; exact List.mem_cons_self, by rw [← hcw]; exact hts _ w1', hts _ w2', hok.2.2.2.1, ev_na_of hok, hts _ hlink⟩, hts _ (w4' (by rw [hkd]; decide)), hts _ (w5' hkd)⟩ ⟨ev_Pc_blind, ?_, fun U hU hW => ?_⟩ rfl (by rw [List.length_map]; exact hlen) hE.2.1 ?_ (ev_monr hcat) hd ⟨hcR, hsR⟩
  · have h9 := va_recv hC.2.2.2.2.2.2.2.2.1 hM.1 hr9 (show (ev_ws cy base ext w)[a]? = some (base + a, .inr (ev_own1 e2, ev_fs base ext w a (ev_own1 e2))) by rw [ev_ws_at ha, ev_ents hk hci])
    rw [hr9c] at h9
    exact h9
  · have h9 := ev_Pc_of (as := .ref a :: as) hC hM hS U hU hW
    rw [List.map_cons, ev_v_ref ⟨H, hM⟩ ha] at h9
    exact h9
  · show (as.reverse ++ .ref a :: rest).map (ev_v base ext) = _
    rw [List.map_append, List.map_cons, ev_v_ref ⟨H, hM⟩ ha, List.map_reverse]
theorem ev_runS {z0 e2 : ev_ME} {j2 ix : Nat} {as rest : List Value} {o2 : Option Value ⊕ Nat} {w2 : ev_W} (h1 : ev_look2 (ev_own1 z0) ix ev_tgt = some j2) (h2 : ev_me j2 = some e2) (hkd : ev_kd e2 = 0) (hlen : as.length = ev_na e2) (hcat : ev_cat rest ≤ 8) (hrm : ev_rmk z0 e2 = true) (hd : decode (ev_by z0) pc = .ok (.invokestatic ix, 3)) (hcon : ev_Con D cy base ext SL SX l e2 as w o2 w2) :
    ∀ (p : Program) (e : Env) (R : Room) (s : State) (m : MethodId) (args : Array Value) (below : List Frame) (meth : Method) (c : Code), ev_Cx D cy base ext SL SX l j z0 p R s m args meth c → ∀ (H : Heap) (locs : List Loc) (cells slots : Nat) (L : Array Slot), ev_M D cy base ext SL SX w H → va_S (ev_A base) s.heap H locs → ev_EL base ext L (ev_ml z0) ls → cells + (w_c w2 - w_c w) ≤ R.cells → slots + (w_z w2 - w_z w) ≤ R.slots →
      ∃ arr, vx_Run p l e R s m args below meth c H locs cells slots (w_c w2 - w_c w) (w_z w2 - w_z w) (F0 m pc L ((as.reverse ++ rest).map (ev_v base ext))) (rest.map (ev_v base ext)) (ev_Qc D cy base ext SL SX e2 o2 w2 arr) (ev_XC D cy base ext SL SX o2 w2) (ev_A base) := by
  intro p e R s m args below meth c hC H locs cells slots L hM hS hE hcR hsR
  have hok := ev_me_ok h2
  obtain ⟨w1', w2', w3', w4', w5'⟩ := ev_me_words h2
  have hts := hC.2.2.2.2.2.1
  have hlink := ev_tg_of h1 h2
  rw [hC.2.2.2.2.2.2.2.2.2.2.2.1] at hlink
  refine ⟨(as.map (ev_v base ext)).toArray, ?_⟩
  have hstk : (F0 m pc L ((as.reverse ++ rest).map (ev_v base ext))).stack = (as.map (ev_v base ext)).reverse ++ rest.map (ev_v base ext) := by
    show (as.reverse ++ rest).map (ev_v base ext) = _
    rw [List.map_append, List.map_reverse]
  cases hh : ev_hh e2 with
  | nil =>
    have hcw : ev_cw e2 = Cond.code (ev_y e2) (ev_by e2) (ev_ml e2) (ev_rt e2) := by
      unfold ev_cw
      rw [hh]
    exact vx_runS (n := ev_na e2) (index := ix) (bytes := ev_by e2) (maxL := ev_ml e2) (ret := ev_rt e2) (As := as.map (ev_v base ext)) ⟨hC.1, hC.2.1, hC.2.2.2.1, hC.2.2.2.2.1, hts⟩ hcon ⟨⟨rfl, rfl, (ev_rmk_of hrm hC.2.2.2.2.2.2.2.2.2.2.2.2.2.1 hC.2.2.2.2.2.2.2.2.2.2.2.2.2.2.1).1, (ev_rmk_of hrm hC.2.2.2.2.2.2.2.2.2.2.2.2.2.1 hC.2.2.2.2.2.2.2.2.2.2.2.2.2.2.1).2, ev_ws_ok h2 hts, by unfold ev_wz; rw [← hcw]; exact List.mem_cons_self, by rw [← hcw]; exact hts _ w1', hts _ w2', hok.2.2.2.1, ev_na_of hok, hts _ hlink⟩, hts _ (w3' hkd)⟩ ⟨ev_Pc_blind, ev_Pc_of hC hM hS⟩ rfl (by rw [List.length_map]; exact hlen) hE.2.1 hstk (ev_monr hcat) hd ⟨hcR, hsR⟩
  | cons a b =>
    have hcw : ev_cw e2 = Cond.codeWith (ev_y e2) (ev_by e2) (ev_ml e2) (ev_rt e2) (a :: b) := by
      unfold ev_cw
      rw [hh]
    exact vx_runSX (hh := a :: b) (n := ev_na e2) (index := ix) (bytes := ev_by e2) (maxL := ev_ml e2) (ret := ev_rt e2) (As := as.map (ev_v base ext)) ⟨hC.1, hC.2.1, hC.2.2.2.1, hC.2.2.2.2.1, hts⟩ hcon ⟨⟨rfl, rfl, (ev_rmk_of hrm hC.2.2.2.2.2.2.2.2.2.2.2.2.2.1 hC.2.2.2.2.2.2.2.2.2.2.2.2.2.2.1).1, (ev_rmk_of hrm hC.2.2.2.2.2.2.2.2.2.2.2.2.2.1 hC.2.2.2.2.2.2.2.2.2.2.2.2.2.2.1).2, ev_ws_ok h2 hts, by unfold ev_wz; rw [← hcw]; exact List.mem_cons_self⟩, by rw [← hcw]; exact hts _ w1', hts _ w2', hok.2.2.2.1, ev_na_of hok, hts _ hlink, hts _ (w3' hkd)⟩ ⟨ev_Pc_blind, ev_Pc_of hC hM hS⟩ rfl (by rw [List.length_map]; exact hlen) hE.2.1 hstk (ev_monr hcat) hd ⟨hcR, hsR⟩
theorem ev_runI {z0 e2 : ev_ME} {j2 ix a : Nat} {as rest : List Value} {o2 : Option Value ⊕ Nat} {w2 : ev_W} (h1 : (ev_look2 (ev_own1 z0) ix ev_tgt = some j2 ∧ ev_kd e2 = 2) ∨ (ev_own1 z0 = ev_nst.1 ∧ ix = ev_nst.2.1 ∧ j2 = ev_nst.2.2)) (h2 : ev_me j2 = some e2) (hlen : as.length = ev_na e2) (ha : a < w_n w) (hcat : ev_cat rest ≤ 8) (hrm : ev_rmk z0 e2 = true) (hd : decode (ev_by z0) pc = .ok (.invokespecial ix, 3)) (hcon : ev_Con D cy base ext SL SX l e2 (.ref a :: as) w o2 w2) :
    ∀ (p : Program) (e : Env) (R : Room) (s : State) (m : MethodId) (args : Array Value) (below : List Frame) (meth : Method) (c : Code), ev_Cx D cy base ext SL SX l j z0 p R s m args meth c → ∀ (H : Heap) (locs : List Loc) (cells slots : Nat) (L : Array Slot), ev_M D cy base ext SL SX w H → va_S (ev_A base) s.heap H locs → ev_EL base ext L (ev_ml z0) ls → cells + (w_c w2 - w_c w) ≤ R.cells → slots + (w_z w2 - w_z w) ≤ R.slots →
      ∃ arr, vx_Run p l e R s m args below meth c H locs cells slots (w_c w2 - w_c w) (w_z w2 - w_z w) (F0 m pc L ((as.reverse ++ .ref a :: rest).map (ev_v base ext))) (rest.map (ev_v base ext)) (ev_Qc D cy base ext SL SX e2 o2 w2 arr) (ev_XC D cy base ext SL SX o2 w2) (ev_A base) := by
  intro p e R s m args below meth c hC H locs cells slots L hM hS hE hcR hsR
  have hok := ev_me_ok h2
  have hkd : ev_kd e2 = 2 ∨ ev_kd e2 = 3 := by
    rcases h1 with h1 | ⟨-, -, rfl⟩
    · exact Or.inl h1.2
    · refine Or.inr ?_
      have h9 : (ev_me ev_nst.2.2).map ev_kd = some 3 := by decide +kernel
      rw [h2] at h9
      exact Option.some.inj h9
  obtain ⟨hnm, hh, hrt⟩ := hok.2.2.2.2.2.1 hkd
  obtain ⟨w1', w2', w3', w4', w5'⟩ := ev_me_words h2
  have hts := hC.2.2.2.2.2.1
  have hinst := hts _ (w4' (by rcases hkd with q | q <;> rw [q] <;> decide))
  have hcw : ev_cw e2 = Cond.code (ev_y e2) (ev_by e2) (ev_ml e2) none := by
    unfold ev_cw
    rw [hh, hrt]
  have hstk : (F0 m pc L ((as.reverse ++ .ref a :: rest).map (ev_v base ext))).stack = (as.map (ev_v base ext)).reverse ++ .ref (base + a) :: rest.map (ev_v base ext) := by
    show (as.reverse ++ .ref a :: rest).map (ev_v base ext) = _
    rw [List.map_append, List.map_cons, ev_v_ref ⟨H, hM⟩ ha, List.map_reverse]
  have hpre : PreS s H (ev_Pc D cy base ext SL SX (.ref a :: as) w) (.ref (base + a) :: as.map (ev_v base ext)) := by
    refine ⟨ev_Pc_blind, fun U hU hW => ?_⟩
    have h9 := ev_Pc_of (as := .ref a :: as) hC hM hS U hU hW
    rw [List.map_cons, ev_v_ref ⟨H, hM⟩ ha] at h9
    exact h9
  refine ⟨(Value.ref (base + a) :: as.map (ev_v base ext)).toArray, ?_⟩
  rcases h1 with ⟨h1, -⟩ | ⟨n1, n2, n3⟩
  · have hlink := ev_tg_of h1 h2
    rw [hC.2.2.2.2.2.2.2.2.2.2.2.1] at hlink
    exact vx_runI (n := ev_na e2) (index := ix) (bytes := ev_by e2) (maxL := ev_ml e2) (As := as.map (ev_v base ext)) (b := base + a) ⟨hC.1, hC.2.1, hC.2.2.2.1, hC.2.2.2.2.1, hts⟩ hcon ⟨⟨rfl, rfl, (ev_rmk_of hrm hC.2.2.2.2.2.2.2.2.2.2.2.2.2.1 hC.2.2.2.2.2.2.2.2.2.2.2.2.2.2.1).1, (ev_rmk_of hrm hC.2.2.2.2.2.2.2.2.2.2.2.2.2.1 hC.2.2.2.2.2.2.2.2.2.2.2.2.2.2.1).2, ev_ws_ok h2 hts, by unfold ev_wz; rw [← hcw]; exact List.mem_cons_self, by rw [← hcw]; exact hts _ w1', hts _ w2', hok.2.2.2.1, ev_na_of hok, hts _ hlink⟩, hnm, hinst⟩ hpre rfl (by rw [List.length_map]; exact hlen) hE.2.1 hstk (ev_monr hcat) hd ⟨hcR, hsR⟩
  · have hl9 := (hC.2.2.2.2.2.2.2.2.2.1).2.2.2.2.1
    have e9 : ev_nsw = Cond.methodLinkNest (ev_y z0).cls ix (ev_y e2) "FlagLaundry" := by
      have h8 : (ev_me ev_nst.2.2).map ev_y = some ⟨"FlagLaundry$Flag", "<init>", "()V"⟩ := by decide +kernel
      rw [← n3, h2] at h8
      have h7 : ev_y e2 = ⟨"FlagLaundry$Flag", "<init>", "()V"⟩ := Option.some.inj h8
      rw [h7, n2, ← hC.2.2.2.2.2.2.2.2.2.2.2.1, n1]
      rfl
    rw [e9] at hl9
    exact vx_runIN (n := ev_na e2) (index := ix) (host := "FlagLaundry") (bytes := ev_by e2) (maxL := ev_ml e2) (As := as.map (ev_v base ext)) (b := base + a) ⟨hC.1, hC.2.1, hC.2.2.2.1, hC.2.2.2.2.1, hts⟩ hcon ⟨⟨⟨rfl, rfl, (ev_rmk_of hrm hC.2.2.2.2.2.2.2.2.2.2.2.2.2.1 hC.2.2.2.2.2.2.2.2.2.2.2.2.2.2.1).1, (ev_rmk_of hrm hC.2.2.2.2.2.2.2.2.2.2.2.2.2.1 hC.2.2.2.2.2.2.2.2.2.2.2.2.2.2.1).2, ev_ws_ok h2 hts, by unfold ev_wz; rw [← hcw]; exact List.mem_cons_self⟩, by rw [← hcw]; exact hts _ w1', hts _ w2', hok.2.2.2.1, ev_na_of hok, va_Nw.use rfl hl9⟩, hnm, hinst⟩ hpre rfl (by rw [List.length_map]; exact hlen) hE.2.1 hstk (ev_monr hcat) hd ⟨hcR, hsR⟩
/-- a throw site's rows -/
def ev_thb (j : Nat) (q : Nat × Nat × Nat × Nat × Nat × Nat) : Bool := match ev_me j with
  | some z => decide (decode (ev_by z) q.1 = .ok (.new q.2.2.1, 3)) && decide (decode (ev_by z) (q.1 + 3) = .ok (.dup, 1)) && (bif Nat.beq q.2.2.2.2.2 0 then decide (decode (ev_by z) (q.1 + 4) = .ok (.ldc q.2.2.2.1, 2)) && decide (decode (ev_by z) (q.1 + 6) = .ok (.invokespecial q.2.2.2.2.1, 3)) && decide (decode (ev_by z) (q.1 + 9) = .ok (.athrow, 1))
      else decide (decode (ev_by z) (q.1 + 4) = .ok (.ldc_w q.2.2.2.1, 3)) && decide (decode (ev_by z) (q.1 + 7) = .ok (.invokespecial q.2.2.2.2.1, 3)) && decide (decode (ev_by z) (q.1 + 10) = .ok (.athrow, 1))) && decide ((ev_own1 z, q.2.1, q.2.2.1, q.2.2.2.2.1) ∈ ev_thk) && (ev_str.any (fun t => decide (t.1 = ev_own1 z) && decide (t.2.1 = q.2.2.2.1))) && decide (6 ≤ ev_fr z) && decide (82 ≤ ev_lo z) && (ev_hh z).isEmpty && decide (q.2.1 < 3)
  | none => false
set_option maxRecDepth 100000 in
theorem ev_thr_ok : ev_thr.all (fun p => p.2.all (ev_thb p.1)) = true := by decide +kernel
theorem ev_x_throw {q : Nat × Nat × Nat × Nat × Nat} (hq : ev_look2 j pc ev_thr = some q) : ev_Snd D cy base ext SL SX l j pc ls [] w (.inr q.1) (w_th w) := by
  obtain ⟨l9, h1, h2⟩ := ev_look2_mem hq
  have h3 := List.all_eq_true.mp (List.all_eq_true.mp ev_thr_ok _ h1) _ h2
  refine ⟨Nat.le_succ _, Nat.le_add_right _ _, fun z hz p e R s m args below meth c hC H locs cells slots Q L K N hM hS hE hcc hss hK hN hend => ?_⟩
  unfold ev_thb at h3
  dsimp only at h3
  cases hj : ev_me j with
  | none => rw [hj] at h3; cases h3
  | some z9 =>
    rw [hj] at h3
    dsimp only at h3
    have hzz := (ev_mel_me hj).symm.trans hz
    cases hzz
    simp only [Bool.and_eq_true, decide_eq_true_eq] at h3
    obtain ⟨⟨⟨⟨⟨⟨⟨⟨⟨d0, d3⟩, d4⟩, hth⟩, hstr⟩, hf6⟩, hl82⟩, hhe⟩, hE3⟩⟩ := h3
    have hh : ev_hh z = [] := List.isEmpty_iff.mp hhe
    obtain ⟨Qc, XC, mc', ms', hQ, hKm, hNm, htab, hfin⟩ := hend.2 q.1 rfl
    subst hQ
    have hts := hC.2.2.2.2.2.1
    have hown1 := hC.2.2.2.2.2.2.2.2.2.2.2.1
    have hF := hC.2.2.2.2.2.2.2.2.2.1
    have hR1 := hC.2.2.2.2.2.2.2.2.2.2.2.2.2.1
    have hR2 := hC.2.2.2.2.2.2.2.2.2.2.2.2.2.2.1
    have hc9 : w_c (w_th w) = w_c w + 1 := rfl
    have hz9 : w_z (w_th w) = w_z w + 6 := rfl
    rw [hc9] at hcc
    rw [hz9] at hss
    have a1 := List.all_eq_true.mp ev_thk_at _ hth
    have a2 := List.all_eq_true.mp ev_thk_ng _ hth
    have a3 := List.all_eq_true.mp ev_thk_ot _ hth
    dsimp only at a1 a2 a3
    rw [hown1] at a1 a2 a3
    have hk : Cond.classLink (ev_y z).cls q.2.1 (ev_ex q.1) ∈ ev_all := by
      have h9 := ev_all_in ev_thk_cl (List.mem_map.mpr ⟨_, hth, rfl⟩)
      dsimp only at h9
      rw [hown1] at h9
      exact h9
    have hini : Cond.initialized (ev_ex q.1) ∈ ev_all := by
      refine ev_all_in ev_thk_in ?_
      have h9 : q.1 = 0 ∨ q.1 = 1 ∨ q.1 = 2 := by omega
      rcases h9 with h9 | h9 | h9 <;> rw [h9]
      · exact List.mem_of_getElem? (i := 0) rfl
      · exact List.mem_of_getElem? (i := 1) rfl
      · exact List.mem_of_getElem? (i := 2) rfl
    have hat : ∀ w ∈ vx_atS (ev_y z).cls q.2.2.2.1 (ev_ex q.1) ["java/lang/RuntimeException", "java/lang/Exception"], w.before args s = true := by
      refine vx_hat (B := ev_ngw) (fun w hw => hts w (List.mem_filter.mpr ⟨of_decide_eq_true (List.all_eq_true.mp a1 w hw), (List.mem_filter.mp hw).2⟩)) (fun w hw => of_decide_eq_true (List.all_eq_true.mp a2 w hw)) (fun w hw => ?_)
      have h9 := hF.1 w hw
      unfold ev_ngw at hw
      simp only [List.mem_cons, List.not_mem_nil, or_false] at hw
      rcases hw with rfl | rfl | rfl | rfl | rfl | rfl <;> exact va_Nw.use rfl h9
    have hgood : ∀ w ∈ Cond.classLink (ev_y z).cls q.2.1 (ev_ex q.1) :: Cond.initialized (ev_ex q.1) :: vx_atS (ev_y z).cls q.2.2.2.1 (ev_ex q.1) ["java/lang/RuntimeException", "java/lang/Exception"], vx_ot w = true := fun w hw => List.all_eq_true.mp a3 w hw
    obtain ⟨t9, ht9, ht8⟩ := List.any_eq_true.mp hstr
    simp only [Bool.and_eq_true, decide_eq_true_eq] at ht8
    obtain ⟨k9, hk9⟩ := List.getElem?_of_mem ht9
    have hsr := hF.2.2.2.2.2.1 k9 t9 hk9
    rw [ht8.1, ht8.2, hown1] at hsr
    have hEx : ev_ex q.1 = "java/lang/IllegalStateException" ∨ ev_ex q.1 = "java/lang/IndexOutOfBoundsException" ∨ ev_ex q.1 = "java/lang/IllegalArgumentException" := by
      have h9 : q.1 = 0 ∨ q.1 = 1 ∨ q.1 = 2 := by omega
      rcases h9 with h9 | h9 | h9 <;> rw [h9]
      · exact Or.inl rfl
      · exact Or.inr (Or.inl rfl)
      · exact Or.inr (Or.inr rfl)
    have hfit : Bundle.fit (ev_ex q.1) = true := by rcases hEx with h9 | h9 | h9 <;> rw [h9] <;> decide +kernel
    have hnames : ∀ n ∈ ["java/lang/RuntimeException", "java/lang/Exception"], Bundle.fit n = true := by decide +kernel
    have hlsz : L.size = c.maxLocals := hE.2.1.trans hC.2.2.2.1.symm
    have hxx : ∀ t : State, s.vm.Alike t.vm → H.size ≤ t.heap.size → (∀ q : Nat, q < H.size → t.heap[q]? = H[q]?) → XC (ev_ex q.1) s t := fun t _ f1 f2 => hfin t (ev_M_kept hM rfl rfl rfl f1 f2) ⟨Nat.le_trans hS.1 f1, fun x y1 y2 => (f2 x (Nat.lt_of_lt_of_le y1 hS.1)).trans (hS.2.1 x y1 y2)⟩
    cases hw9 : Nat.beq q.2.2.2.2 0 with
    | true =>
      rw [hw9] at d4
      simp only [cond_true, Bool.and_eq_true, decide_eq_true_eq] at d4
      exact vx_throwS (names := ["java/lang/RuntimeException", "java/lang/Exception"]) (own := (ev_y z).cls) (rest := []) hC.1 hC.2.1 hC.2.2.2.2.2.2.2.2.2.2.2.2.2.2.2.1 hC.2.2.2.2.1 hfit hnames (hts _ hk) (hts _ hini) hsr hat hgood hF.2.2.2.2.2.2.1 hF.2.2.2.2.2.2.2 hS hlsz d0 d3 d4.1.1 d4.1.2 d4.2 (fun x hx => (htab hh x hx).elim) (by show 2 + 3 < R.frames; omega) (by show 0 + (13 * (2 + 1) + 43) ≤ R.locals; omega) (by omega) (by omega) hC.2.2.2.2.2.2.1 hxx hS.2.2 (by omega) (by omega)
    | false =>
      rw [hw9] at d4
      simp only [cond_false, Bool.and_eq_true, decide_eq_true_eq] at d4
      exact vx_throwSW (names := ["java/lang/RuntimeException", "java/lang/Exception"]) (own := (ev_y z).cls) (rest := []) hC.1 hC.2.1 hC.2.2.2.2.2.2.2.2.2.2.2.2.2.2.2.1 hC.2.2.2.2.1 hfit hnames (hts _ hk) (hts _ hini) hsr hat hgood hF.2.2.2.2.2.2.1 hF.2.2.2.2.2.2.2 hS hlsz d0 d3 d4.1.1 d4.1.2 d4.2 (fun x hx => (htab hh x hx).elim) (by show 2 + 3 < R.frames; omega) (by show 0 + (13 * (2 + 1) + 43) ≤ R.locals; omega) (by omega) (by omega) hC.2.2.2.2.2.2.1 hxx hS.2.2 (by omega) (by omega)
end CALL
