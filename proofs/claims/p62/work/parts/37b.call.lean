section CALL
variable {D : va_G} {cy : Nat → ClassId} {base : Nat} {ext : Nat → Nat} {SL : Nat} {SX : Nat → Int32} {l : Launch} {j pc : Nat} {ls : ev_L} {r st : List Value} {w : ev_W} {o : Option Value ⊕ Nat} {w1 : ev_W}
theorem ev_beq_self : ∀ n : Nat, Nat.beq n n = true
  | 0 => rfl
  | n + 1 => ev_beq_self n
theorem ev_cast_in {k : Nat} (h : k < 3) : Cond.castable (ev_ex k) (ev_ex k) ∈ ev_ngw := by
  match k, h with
  | 0, _ => exact List.mem_of_getElem? (i := 0) rfl
  | 1, _ => exact List.mem_of_getElem? (i := 1) rfl
  | 2, _ => exact List.mem_of_getElem? (i := 2) rfl
theorem ev_hct_ok : ev_hct.all (fun q => decide (q.1 ≠ 0) && decide (q.2 < 3)) = true := by decide +kernel
theorem ev_hct_of {i E : Nat} (h : ev_look i ev_hct = some E) : i ≠ 0 ∧ E < 3 ∧ Cond.classLink "FlagLaundryLaw" i (ev_ex E) ∈ ev_all := by
  have h1 := ev_look_mem h
  have h2 := List.all_eq_true.mp ev_hct_ok _ h1
  simp only [Bool.and_eq_true, decide_eq_true_eq] at h2
  exact ⟨h2.1, h2.2, ev_all_in ev_hcw_in (List.mem_map.mpr ⟨_, h1, rfl⟩)⟩
theorem ev_han_sp {pc E q : Nat} : ∀ {hh : List (Nat × Nat × Nat × Nat)}, ev_han pc E hh = some q → ∃ (pre : List ExceptionTableEntry) (x : ExceptionTableEntry) (suf : List ExceptionTableEntry), tableOf hh = pre ++ x :: suf ∧ x.handlerPc = q ∧ covers x pc = true ∧ ev_look x.catchType ev_hct = some E ∧ ∀ y ∈ pre, covers y pc = false ∨ ∃ E2, E2 ≠ E ∧ ev_look y.catchType ev_hct = some E2
  | [], h => by cases h
  | a :: b, h => by
    unfold ev_han at h
    cases hl : ev_look a.2.2.2 ev_hct with
    | none => rw [hl] at h; cases h
    | some E2 =>
      rw [hl] at h
      dsimp only at h
      cases hc : (decide (a.1 ≤ pc) && decide (pc < a.2.1) && Nat.beq E E2) with
      | true =>
        rw [hc] at h
        have h9 : a.2.2.1 = q := Option.some.inj h
        simp only [Bool.and_eq_true] at hc
        have hE := Nat.eq_of_beq_eq_true hc.2
        subst hE
        exact ⟨[], ⟨a.1, a.2.1, a.2.2.1, a.2.2.2⟩, tableOf b, rfl, h9, by show (decide _ && decide _) = true; rw [hc.1.1, hc.1.2]; rfl, hl, fun y hy => by cases hy⟩
      | false =>
        rw [hc] at h
        obtain ⟨pre, x, suf, g1, g2, g3, g4, g5⟩ := ev_han_sp (hh := b) h
        refine ⟨⟨a.1, a.2.1, a.2.2.1, a.2.2.2⟩ :: pre, x, suf, ?_, g2, g3, g4, fun y hy => ?_⟩
        · show (⟨a.1, a.2.1, a.2.2.1, a.2.2.2⟩ : ExceptionTableEntry) :: tableOf b = _
          rw [g1]
          rfl
        · rcases List.mem_cons.mp hy with rfl | hy
          · by_cases hE : E2 = E
            · refine Or.inl ?_
              show (decide (a.1 ≤ pc) && decide (pc < a.2.1)) = false
              have hb9 : Nat.beq E E2 = true := by rw [hE]; exact ev_beq_self E
              rw [hb9, Bool.and_true] at hc
              exact hc
            · exact Or.inr ⟨E2, hE, hl⟩
          · exact g5 y hy
theorem ev_x_call {rest : List Value} {e2 : ev_ME} {o2 : Option Value ⊕ Nat} {w2 : ev_W} {z0 : ev_ME} (hz0 : ev_mel j = some z0) (hz0k : ev_hh z0 ≠ [] → (ev_y z0).cls = "FlagLaundryLaw") (hc2 : w_c w ≤ w_c w2) (hs2 : w_z w ≤ w_z w2) (hm1 : w_c w2 ≤ w_c w1) (hm2 : w_z w2 ≤ w_z w1)
    (hgo : ∀ v, o2 = .inl v → ev_rok (ev_rt e2) v = true → ev_Snd D cy base ext SL SX l j (pc + 3) ls (v.toList ++ rest) w2 o w1)
    (hx : ∀ E, o2 = .inr E → w1 = w2 ∧ ((ev_hh z0 = [] ∧ o = .inr E) ∨ ∃ q k, ev_han pc E (ev_hh z0) = some q ∧ ev_hret j q ls = some k ∧ ev_rok (ev_rt z0) (some (.int k)) = true ∧ o = .inl (some (.int k))))
    (hrun : ∀ (p : Program) (e : Env) (R : Room) (s : State) (m : MethodId) (args : Array Value) (below : List Frame) (meth : Method) (c : Code), ev_Cx D cy base ext SL SX l j z0 p R s m args meth c → ∀ (H : Heap) (locs : List Loc) (cells slots : Nat) (L : Array Slot), ev_M D cy base ext SL SX w H → va_S (ev_A base) s.heap H locs → ev_EL base ext L (ev_ml z0) ls → cells + (w_c w2 - w_c w) ≤ R.cells → slots + (w_z w2 - w_z w) ≤ R.slots →
      ∃ arr, vx_Run p l e R s m args below meth c H locs cells slots (w_c w2 - w_c w) (w_z w2 - w_z w) (F0 m pc L (st.map (ev_v base ext))) (rest.map (ev_v base ext)) (ev_Qc D cy base ext SL SX e2 o2 w2 arr) (ev_XC D cy base ext SL SX o2 w2) (ev_A base)) : ev_Snd D cy base ext SL SX l j pc ls st w o w1 := by
  refine ⟨Nat.le_trans hc2 hm1, Nat.le_trans hs2 hm2, fun z hz p e R s m args below meth c hC H locs cells slots Q L K N hM hS hE hcc hss hK hN hend => ?_⟩
  cases Option.some.inj (hz0.symm.trans hz)
  obtain ⟨arr, hr⟩ := hrun p e R s m args below meth c hC H locs cells slots L hM hS hE (by omega) (by omega)
  refine ev_callG hr hS (fun q h => h) (fun st9 v t h0 hq => ?_) (fun E st9 t h0 hq => ?_) (fun E ce q9 st9 t H1 locs1 h0 ht hq hS1 hce hcv hcl => ?_) (fun v st9 t H1 locs1 h0 ht hq hS1 => ?_)
  · have h9 := hq.2
    unfold va_F at h9
    rw [h0] at h9
    exact h9
  · have h9 := hq.2
    unfold va_F at h9
    rw [h0] at h9
    exact h9
  · obtain ⟨⟨k, ho2, hE9, hM2⟩, hF2⟩ := hq
    subst hE9
    rw [ht] at hM2
    obtain ⟨hw, hcase⟩ := hx k ho2
    subst hw
    rcases hcase with ⟨hh, ho⟩ | ⟨q, kk, hq1, hq2, hq3, ho⟩
    · obtain ⟨Qc, XC, mc', ms', hQ, hKm, hNm, htab, hfin⟩ := hend.2 k ho
      subst hQ
      exact vx_out (fun x hx9 => (htab hh x hx9).elim) hC.2.2.2.2.2.2.1 hce hcv hcl (fun t9 ht9 _ => hfin t9 (by rw [ht9]; exact hM2) (hS1.F ht9)) (fun z9 hz9 => hS1.2.2 z9 hz9) (by omega) (by omega)
    · obtain ⟨pre, x, suf, g1, g2, g3, g4, g5⟩ := ev_han_sp hq1
      have hne : ev_hh z0 ≠ [] := by
        intro h9
        rw [h9] at hq1
        cases hq1
      have hF := hC.2.2.2.2.2.2.2.2.2.1
      obtain ⟨i1, i2, i3⟩ := ev_hct_of g4
      have hown : s.vm.findClass "FlagLaundryLaw" = some m.cls := by
        rw [← hz0k hne]
        exact hC.2.2.2.2.1
      have hK9 : K = cells + (w_c w1 - w_c w) := by omega
      have hN9 : N = slots + (w_z w1 - w_z w) := by omega
      subst hK9; subst hN9
      refine vx_catch hown pre x suf (by rw [hC.2.2.2.2.2.2.2.2.2.2.2.2.1 hne, g1]) (fun y hy => ?_) g3 i1 (hC.2.2.2.2.2.1 _ i3) (va_Nw.use rfl (hF.1 _ (ev_cast_in i2))) hce hcv hcl ?_
      · rcases g5 y hy with h9 | ⟨E2, h8, h9⟩
        · exact Or.inl h9
        · obtain ⟨j1, j2, j3⟩ := ev_hct_of h9
          exact Or.inr ⟨j1, _, hC.2.2.2.2.2.1 _ j3, hF.2.1 k E2 i2 j2 (fun q9 => h8 q9.symm)⟩
      · rw [g2]
        unfold ev_hret at hq2
        have hx9 := hC.1
        have hb9 := hC.2.1
        split at hq2
        · rename_i a hcd
          cases hb1 : (decide ((a : Nat) < ls.length) && ev_c1 ls a) with
          | false => rw [hb1] at hq2; cases hq2
          | true =>
            rw [hb1] at hq2
            simp only [Bool.and_eq_true, decide_eq_true_eq] at hb1
            dsimp only [cond_true] at hq2
            split at hq2
            · rename_i n c1 c2
              have hkk : Int32.ofInt n = kk := Option.some.inj hq2
              refine lv_astore_n hx9 hb9 (ev_cd_ok hz hcd) rfl (ev_EL_has hE) (by rw [← hE.1]; exact hb1.1) rfl (fun L2 h2 => ?_)
              refine lv_iconst hx9 hb9 (ev_cd_ok hz c1) hkk ?_
              exact hend.1 (some (.int kk)) H1 locs1 L2 (q + 1 + 1) ho hM2 hS1 hq3 (ev_cd_ok hz c2)
            · cases hq2
        · rename_i a hcd
          cases hb1 : (decide (a < ls.length) && ev_c1 ls a) with
          | false => rw [hb1] at hq2; cases hq2
          | true =>
            rw [hb1] at hq2
            simp only [Bool.and_eq_true, decide_eq_true_eq] at hb1
            dsimp only [cond_true] at hq2
            split at hq2
            · rename_i n c1 c2
              have hkk : Int32.ofInt n = kk := Option.some.inj hq2
              refine lv_astore hx9 hb9 (ev_cd_ok hz hcd) (ev_EL_has hE) (by rw [← hE.1]; exact hb1.1) rfl (fun L2 h2 => ?_)
              refine lv_iconst hx9 hb9 (ev_cd_ok hz c1) hkk ?_
              exact hend.1 (some (.int kk)) H1 locs1 L2 (q + 2 + 1) ho hM2 hS1 hq3 (ev_cd_ok hz c2)
            · cases hq2
        · cases hq2
  · obtain ⟨⟨v9, ho2, hoc, hrok, hM2⟩, hF2⟩ := hq
    have hv : v = v9.map (ev_v base ext) := Outcome.returned.inj hoc
    subst hv
    rw [ht] at hM2
    have h9 := hgo v9 ho2 hrok
    have e9 : (v9.toList ++ rest).map (ev_v base ext) = (v9.map (ev_v base ext)).toList ++ rest.map (ev_v base ext) := by cases v9 <;> rfl
    have k9 := h9.2.2 z0 hz p e R s m args below meth c hC H1 locs1 (cells + (w_c w2 - w_c w)) (slots + (w_z w2 - w_z w)) Q L K N hM2 hS1 hE (by omega) (by omega) hK hN hend
    rw [e9] at k9
    exact k9
end CALL
