/-! contracts out of the evaluator; calls, throws, handlers -/
section CON
variable (D : va_G) (cy : Nat → ClassId) (base : Nat) (ext : Nat → Nat) (SL : Nat) (SX : Nat → Int32)
def ev_Pc (as : List Value) (w : ev_W) : Array Value → State → Prop := va_Pc (as.map (ev_v base ext)) (fun U => ev_M D cy base ext SL SX w U.heap ∧ va_K D vwCl (ev_tys cy) U ∧ ev_F base ext U U.heap ∧ base ≤ U.heap.size)
def ev_Qc (z : ev_ME) (o : Option Value ⊕ Nat) (w1 : ev_W) : Array Value → State → Outcome → State → Prop := fun _ st oc t => (∃ v, o = .inl v ∧ oc = .returned (v.map (ev_v base ext)) ∧ ev_rok (ev_rt z) v = true ∧ ev_M D cy base ext SL SX w1 t.heap) ∧ va_F (ev_A base) st t
def ev_XC (o : Option Value ⊕ Nat) (w1 : ev_W) : String → State → State → Prop := fun E st t => (∃ k, o = .inr k ∧ E = ev_ex k ∧ ev_M D cy base ext SL SX w1 t.heap) ∧ va_F (ev_A base) st t
def ev_rm (z : ev_ME) (mc ms : Nat) : Room := { frames := ev_fr z, cells := mc, slots := ms, locals := ev_lo z }
def ev_wz (z : ev_ME) : List Cond := ev_cw z :: ev_all
def ev_Con (l : Launch) (z : ev_ME) (as : List Value) (w : ev_W) (o : Option Value ⊕ Nat) (w1 : ev_W) : Prop := vx_Met l (ev_y z) (ev_wz z) (ev_rm z (w_c w1 - w_c w) (w_z w1 - w_z w)) (ev_Pc D cy base ext SL SX as w) (ev_Qc D cy base ext SL SX z o w1) (ev_XC D cy base ext SL SX o w1) (w_c w1 - w_c w) (w_z w1 - w_z w) (ev_A base)
end CON
section CALL
variable {D : va_G} {cy : Nat → ClassId} {base : Nat} {ext : Nat → Nat} {SL : Nat} {SX : Nat → Int32} {l : Launch} {j pc : Nat} {ls : ev_L} {r st : List Value} {w : ev_W} {o : Option Value ⊕ Nat} {w1 : ev_W}
theorem ev_mel_me {j : Nat} {z : ev_ME} (h : ev_me j = some z) : ev_mel j = some z := by
  unfold ev_mel
  rw [ev_me_law j h]
  exact h
/-- the end of a contract's body -/
theorem ev_con_end {z : ev_ME} {p : Program} {e : Env} {s : State} {m : MethodId} {args : Array Value} {below : List Frame} {meth : Method} {c : Code} {R : Room} {K N : Nat} (hx : p.tables.exec = Jvm.exec) (hb : c.code = ev_by z) (hr : meth.sig.returnType = ev_rt z) (hlocks : meth.locks = false) (ht : ev_hh z = [] → ∀ x ∈ c.exceptionTable.toList, False) :
    ev_End D cy base ext SL SX l z p e R s m args below meth c o w1 K N (vx_MQ below (ev_Qc D cy base ext SL SX z o w1) (ev_XC D cy base ext SL SX o w1) args s K N (ev_A base)) := by
  refine ⟨fun v H1 locs1 L1 pc1 ho hM1 hS1 hrok hrat => vx_ret ?_, fun E ho => ⟨_, _, _, _, rfl, Nat.le_refl _, Nat.le_refl _, ht, fun t hM1 hF1 => ⟨⟨E, ho, rfl, hM1⟩, hF1⟩⟩⟩
  have hq : ∀ t : State, t.heap = H1 → s.WarmedH t.vm → ev_Qc D cy base ext SL SX z o w1 args s (.returned (v.map (ev_v base ext))) t := fun t ht _ => ⟨⟨v, ho, rfl, hrok, by rw [ht]; exact hM1⟩, hS1.F ht⟩
  have hf : ∀ q ∈ locs1, ev_A base q.base := hS1.2.2
  cases v with
  | none =>
    have h0 : ev_rt z = none := by
      unfold ev_rok at hrok
      cases hrt : ev_rt z with
      | none => rfl
      | some t => rw [hrt] at hrok; cases t <;> cases hrok
    exact W.vret hx hb (hr.trans h0) hq hf hrat hlocks
  | some v =>
    cases hrt : ev_rt z with
    | none => rw [hrt] at hrok; cases v <;> cases hrok
    | some t =>
      rw [hrt] at hrok
      cases v with
      | int x =>
        cases t with
        | int => exact W.iret hx hb (hr.trans hrt) hq hf hrat hlocks
        | boolean =>
          have h01 : x = 0 ∨ x = 1 := of_decide_eq_true hrok
          exact W.zret hx hb (hr.trans hrt) (by rcases h01 with rfl | rfl <;> rfl) hq hf hrat hlocks
        | char =>
          have h01 : x = 98 ∨ x = 116 ∨ x = 108 ∨ x = 103 := of_decide_eq_true hrok
          exact W.zret hx hb (hr.trans hrt) (by rcases h01 with rfl | rfl | rfl | rfl <;> rfl) hq hf hrat hlocks
        | _ => cases hrok
      | float x =>
        cases t with
        | float => exact W.fret hx hb (hr.trans hrt) hq hf hrat hlocks
        | _ => cases hrok
      | double x =>
        cases t with
        | double => exact W.dret hx hb (hr.trans hrt) hq hf hrat hlocks
        | _ => cases hrok
      | ref x =>
        cases t with
        | object C => exact W.aret hx hb (hr.trans hrt) (Or.inl ⟨C, rfl⟩) (Or.inr ⟨_, rfl⟩) hq hf hrat hlocks
        | _ => cases hrok
      | null => exact absurd hrat (fun q => q)
      | long x => cases t <;> cases hrok
      | retAddr x => cases t <;> cases hrok
theorem ev_con {z : ev_ME} {as : List Value} (hz : ev_me j = some z) (hl : l.stackTraces = false) (has : ∀ v ∈ as, v.category = 1) (hlen : as.length ≤ ev_ml z) (h : ev_Snd D cy base ext SL SX l j 0 (ev_in (ev_ml z) as) [] w o w1) : ev_Con D cy base ext SL SX l z as w o w1 := by
  obtain ⟨h1, h2, h3⟩ := h
  have hzl := ev_mel_me hz
  have hok := ev_me_ok hz
  have main : ∀ (p : Program) (e : Env) (s : State) (m : MethodId) (args : Array Value) (below : List Frame) (meth : Method) (c : Code) (s₁ : State), BodyLoose p l (ev_y z) (headSpec (ev_wz z) (ev_rm z (w_c w1 - w_c w) (w_z w1 - w_z w))) (ev_by z) (ev_ml z) (ev_rt z) e s m args below meth c s₁ → c.maxLocals = ev_ml z → (ev_hh z = [] → ∀ x ∈ c.exceptionTable.toList, False) → ev_Pc D cy base ext SL SX as w args s →
      W p l e (headSpec (ev_wz z) (ev_rm z (w_c w1 - w_c w) (w_z w1 - w_z w))).room s m args below meth c s.heap [] 0 0 (vx_MQ below (ev_Qc D cy base ext SL SX z o w1) (ev_XC D cy base ext SL SX o w1) args s (w_c w1 - w_c w) (w_z w1 - w_z w) (ev_A base)) (entryFrame m args (ev_ml z)) := by
    intro p e s m args below meth c s₁ B hml ht hP
    obtain ⟨rfl, hM, hK, hF, hbs⟩ := hP
    have hts : ∀ w ∈ ev_wz z, w.before (as.map (ev_v base ext)).toArray s = true := atoms_spec (ws := ev_wz z) B.pre
    have hC : ev_Cx D cy base ext SL SX l j z p (headSpec (ev_wz z) (ev_rm z (w_c w1 - w_c w) (w_z w1 - w_z w))).room s m (as.map (ev_v base ext)).toArray meth c := by
      refine ⟨B.exec, B.bytes, B.returns, hml, findClass_of_methodNamed B.named, fun w hw => hts w (List.mem_cons_of_mem _ hw), B.notSynchronized, fun _ => (name_of_methodNamed B.named B.method).1, hK, hF, hbs, hok.2.1, fun hne => ?_, Nat.le_refl _, Nat.le_refl _, hl, fun hj => ?_⟩
      · refine vx_table (x := ev_y z) B (y := ev_y z) (bytes := ev_by z) (maxL' := ev_ml z) (ret' := ev_rt z) ?_
        have h9 := hts _ (List.mem_cons_self : ev_cw z ∈ ev_wz z)
        unfold ev_cw at h9
        cases hh : ev_hh z with
        | nil => exact absurd hh hne
        | cons a b => rw [hh] at h9; exact h9
      · have h9 := ev_me_law j hz
        rw [hj] at h9
        exact absurd h9 (by decide)
    rw [lg_entry_eq]
    exact h3 z hzl p e _ s m _ below meth c hC s.heap [] 0 0 _ _ (w_c w1 - w_c w) (w_z w1 - w_z w) hM va_S.rf (ev_EL_in has hlen) (by omega) (by omega) (Nat.le_refl _) (Nat.le_refl _) (ev_con_end B.exec B.bytes B.returns B.notSynchronized ht)
  unfold ev_Con
  cases hh : ev_hh z with
  | nil =>
    have hw : ev_wz z = Cond.code (ev_y z) (ev_by z) (ev_ml z) (ev_rt z) :: ev_all := by
      unfold ev_wz ev_cw
      rw [hh]
    exact vx_ofW hok.2.2.1 hw (fun p e s m args below meth c s₁ B hml ht hP => main p e s m args below meth c s₁ B hml (fun _ => ht) hP)
  | cons a b =>
    have hw : ev_wz z = Cond.codeWith (ev_y z) (ev_by z) (ev_ml z) (ev_rt z) (a :: b) :: ev_all := by
      unfold ev_wz ev_cw
      rw [hh]
    exact vx_ofWH hok.2.2.1 hw (fun p e s m args below meth c s₁ B hml hP => main p e s m args below meth c s₁ B hml (fun q => by rw [hh] at q; cases q) hP)
theorem ev_Pc_blind {as : List Value} : FrameBlind (ev_Pc D cy base ext SL SX as w) := by
  intro a U g mk h
  obtain ⟨h1, h2, h3, h4, h5⟩ := h
  exact ⟨h1, h2, va_K.moved (u := U) (U := U.calling g mk a) (Vm.Alike.refl U.vm) h3, ev_F_go (s := U) (U := U.calling g mk a) (State.WarmedH.refl U) h4 (fun _ _ _ => rfl), h5⟩
/-- the callee's start, out of the caller's state -/
theorem ev_Pc_of {as : List Value} {z : ev_ME} {p : Program} {R : Room} {s : State} {m : MethodId} {args : Array Value} {meth : Method} {c : Code} {H : Heap} {locs : List Loc} (hC : ev_Cx D cy base ext SL SX l j z p R s m args meth c) (hM : ev_M D cy base ext SL SX w H) (hS : va_S (ev_A base) s.heap H locs) : ∀ U : State, U.heap = H → s.WarmedH U.vm → ev_Pc D cy base ext SL SX as w (as.map (ev_v base ext)).toArray U := by
  intro U hU hW
  refine ⟨rfl, by rw [hU]; exact hM, hC.2.2.2.2.2.2.2.2.1.moved hW.alike, ?_, ?_⟩
  · rw [hU]
    exact ev_F_go hW hC.2.2.2.2.2.2.2.2.2.1 hS.2.1
  · rw [hU]
    exact Nat.le_trans hC.2.2.2.2.2.2.2.2.2.2.1 hS.1
end CALL
