/-! the three calls whose argument is out of range -/
section BADS
variable {D : va_G} {cy : Nat → ClassId} {base : Nat} {ext : Nat → Nat} {SL : Nat} {SX : Nat → Int32} {l : Launch} {pc : Nat} {ls : ev_L} {r : List Value} {w : ev_W} {o : Option Value ⊕ Nat} {w1 : ev_W}
theorem ev_x_badC {ix jW a d G : Nat} {v : Int32} {zW : ev_ME} (hl : l.stackTraces = false) (hSL : SL = 6) (hSX : SX 1 = v) (hcd : ev_cd ev_LAW pc = some (.aload_n 0, 1) ∧ ev_cd ev_LAW (pc + 1) = some (.iload 5, 2) ∧ ev_cd ev_LAW (pc + 1 + 2) = some (.iconst 1, 1) ∧ ev_cd ev_LAW (pc + 1 + 2 + 1) = some (.iadd, 1) ∧ ev_cd ev_LAW (pc + 1 + 2 + 1 + 1) = some (.iaload, 1)) (hc6 : ev_cd ev_LAW (pc + 6) = some (.aload_n 3, 1)) (hc7 : ev_cd ev_LAW (pc + 6 + 1) = some (.invokestatic ix, 3)) (hj : ev_look2 (ev_own1 ev_lawME) ix ev_tgt = some jW) (he : ev_me jW = some zW) (hkd : ev_kd zW = 0) (hna : 3 = ev_na zW) (hml : 3 ≤ ev_ml zW) (hrm : ev_rmk ev_lawME zW = true) (hr : ev_cat r ≤ 8) (hrt : ev_rok (ev_rt zW) (some (.int 1)) = true)
    (hev : ev G jW 0 (ev_in (ev_ml zW) [.ref a, .int v, .ref d]) [] w = some (.inl (some (.int 1)), w_th w)) (h0 : ls[0]? = some (some (.ref ev_S))) (h3 : ls[3]? = some (some (.ref d))) (h5 : ls[5]? = some (some (.int 0))) (h : ev_Snd D cy base ext SL SX l ev_LAW (pc + 10) ls (.int 1 :: r) (w_th w) o w1) : ev_Snd D cy base ext SL SX l ev_LAW pc ls (.ref a :: r) w o w1 := by
  have hc2 : w_c w ≤ w_c (w_th w) := Nat.le_succ _
  have hs2 : w_z w ≤ w_z (w_th w) := Nat.le_add_right _ _
  have hcon : ev_Con D cy base ext SL SX l zW [.ref a, .int v, .ref d] w (.inl (some (.int 1))) (w_th w) := ev_con he hl (fun v hv => by
    simp only [List.mem_cons, List.not_mem_nil, or_false] at hv
    rcases hv with rfl | rfl | rfl <;> rfl) hml (ev_sound hl _ _ _ _ _ _ _ _ hev)
  have hrun := ev_runS (j := ev_LAW) (ls := ls) (pc := pc + 6 + 1) (as := [.ref a, .int v, .ref d]) (rest := r) hj he hkd hna hr hrm (ev_cd_ok (e := ev_lawME) rfl hc7) hcon
  have k9 : ev_Snd D cy base ext SL SX l ev_LAW (pc + 6 + 1) ls (.ref d :: .int v :: .ref a :: r) w o w1 :=
    ev_x_call (rest := r) (e2 := zW) (o2 := .inl (some (.int 1))) (w2 := w_th w) (z0 := ev_lawME) rfl (fun h9 => absurd rfl h9) hc2 hs2 h.1 h.2.1 (fun v9 hv9 _ => by cases hv9; exact h) (fun E hE => by cases hE) hrun
  exact ev_x_arg hSL hSX hcd h0 h5 (ev_x_aload_n (q := 3) h3 (ev_hdl hc6) k9)
theorem ev_x_badM {ix jM a G : Nat} {v : Int32} {zM : ev_ME} (hl : l.stackTraces = false) (hSL : SL = 6) (hSX : SX 1 = v) (hcd : ev_cd ev_LAW pc = some (.aload_n 0, 1) ∧ ev_cd ev_LAW (pc + 1) = some (.iload 5, 2) ∧ ev_cd ev_LAW (pc + 1 + 2) = some (.iconst 1, 1) ∧ ev_cd ev_LAW (pc + 1 + 2 + 1) = some (.iadd, 1) ∧ ev_cd ev_LAW (pc + 1 + 2 + 1 + 1) = some (.iaload, 1)) (hc6 : ev_cd ev_LAW (pc + 6) = some (.invokevirtual ix, 3)) (hj : ev_look2 (ev_own1 ev_lawME) ix ev_tgt = some jM) (he : ev_me jM = some zM) (hkd : ev_kd zM = 1) (hna : 1 = ev_na zM) (hml : 2 ≤ ev_ml zM) (hrm : ev_rmk ev_lawME zM = true) (hr : ev_cat r ≤ 8) (ha : a < w_n w) (hk : w_K w a = ev_own1 zM)
    (hev : ev G jM 0 (ev_in (ev_ml zM) [.ref a, .int v]) [] w = some (.inl (some (.int 0)), w_sI w a 0 1)) (h0 : ls[0]? = some (some (.ref ev_S))) (h5 : ls[5]? = some (some (.int 0))) (h : ev_Snd D cy base ext SL SX l ev_LAW (pc + 9) ls (.int 0 :: r) (w_sI w a 0 1) o w1) : ev_Snd D cy base ext SL SX l ev_LAW pc ls (.ref a :: r) w o w1 := by
  have hcon : ev_Con D cy base ext SL SX l zM [.ref a, .int v] w (.inl (some (.int 0))) (w_sI w a 0 1) := ev_con he hl (fun v hv => by
    simp only [List.mem_cons, List.not_mem_nil, or_false] at hv
    rcases hv with rfl | rfl <;> rfl) hml (ev_sound hl _ _ _ _ _ _ _ _ hev)
  have hrun := ev_runV (j := ev_LAW) (ls := ls) (pc := pc + 6) (a := a) (as := [.int v]) (rest := r) hj he hkd hna ha hk hr hrm (ev_cd_ok (e := ev_lawME) rfl hc6) hcon
  have k9 : ev_Snd D cy base ext SL SX l ev_LAW (pc + 6) ls (.int v :: .ref a :: r) w o w1 :=
    ev_x_call (rest := r) (e2 := zM) (o2 := .inl (some (.int 0))) (w2 := w_sI w a 0 1) (z0 := ev_lawME) rfl (fun h9 => absurd rfl h9) (Nat.le_refl _) (Nat.le_refl _) h.1 h.2.1 (fun v9 hv9 _ => by cases hv9; exact h) (fun E hE => by cases hE) hrun
  exact ev_x_arg hSL hSX hcd h0 h5 k9
end BADS
/-- the places: the operation's; the two at which the second int is read -/
def ev_arg (pc : Nat) (ls : ev_L) : Bool := match (ls[0]? : Option (Option Value)), (ls[5]? : Option (Option Value)) with
  | some (some (.ref s)), some (some (.int x)) => Nat.beq s ev_S && decide (x = 0)
  | _, _ => false
theorem ev_arg_of {pc : Nat} {ls : ev_L} (h : ev_arg pc ls = true) : ls[0]? = some (some (.ref ev_S)) ∧ ls[5]? = some (some (.int 0)) := by
  unfold ev_arg at h
  split at h
  · rename_i h0 h5
    simp only [Bool.and_eq_true, decide_eq_true_eq] at h
    have ha := Nat.eq_of_beq_eq_true h.1
    rw [h0, h5, ha, h.2]
    exact ⟨rfl, rfl⟩
  · cases h
def ev_out (ls : ev_L) : Option Nat := match (ls[3]? : Option (Option Value)) with
  | some (some (.ref d)) => some d
  | _ => none
theorem ev_out_of {ls : ev_L} {d : Nat} (h : ev_out ls = some d) : ls[3]? = some (some (.ref d)) := by
  unfold ev_out at h
  split at h
  · rename_i h0
    cases h
    exact h0
  · cases h
def ev_seq (pc : Nat) : Prop := ev_cd ev_LAW pc = some (.aload_n 0, 1) ∧ ev_cd ev_LAW (pc + 1) = some (.iload 5, 2) ∧ ev_cd ev_LAW (pc + 1 + 2) = some (.iconst 1, 1) ∧ ev_cd ev_LAW (pc + 1 + 2 + 1) = some (.iadd, 1) ∧ ev_cd ev_LAW (pc + 1 + 2 + 1 + 1) = some (.iaload, 1)
/-- the second int is v -/
def ev_bhv (c v : Int32) (A C : Nat) (pc : Nat) (ls : ev_L) (st : List Value) (w : ev_W) : Option (Nat × List Value × ev_W) := bif Nat.beq pc 38 then ev_bhc c pc ls st w
  else bif (Nat.beq pc A || Nat.beq pc C) && ev_arg pc ls then some (pc + 6, .int v :: st, w) else none
/-- the second int is out of range -/
def ev_bhb (c : Int32) (A C : Nat) (gC gM : ev_W → Nat → Bool) (pc : Nat) (ls : ev_L) (st : List Value) (w : ev_W) : Option (Nat × List Value × ev_W) := bif Nat.beq pc 38 then ev_bhc c pc ls st w
  else bif Nat.beq pc A && ev_arg pc ls then (match ev_out ls, st with
    | some d, [.ref a] => bif decide (a < w_n w) && gC w a then some (A + 10, [.int 1], w_th w) else none
    | _, _ => none)
  else bif Nat.beq pc C && ev_arg pc ls then (match st with
    | [.ref a] => bif decide (a < w_n w) && gM w a then some (C + 9, [.int 0], w_sI w a 0 1) else none
    | _ => none)
  else none
section BADH
variable {D : va_G} {cy : Nat → ClassId} {base : Nat} {ext : Nat → Nat} {SL : Nat} {SX : Nat → Int32} {l : Launch}
theorem ev_bhv_ok {c v : Int32} {A C : Nat} (hSL : SL = 6) (hSX : SX 0 &&& 63 = c) (hv : SX 1 = v) (hA : ev_seq A) (hC : ev_seq C) (pc : Nat) (ls : ev_L) (st : List Value) (w : ev_W) (q : Nat × List Value × ev_W) (h : ev_bhv c v A C pc ls st w = some q) (o : Option Value ⊕ Nat) (w1 : ev_W) (hs : ev_Snd D cy base ext SL SX l ev_LAW q.1 ls q.2.1 q.2.2 o w1) : ev_Snd D cy base ext SL SX l ev_LAW pc ls st w o w1 := by
  unfold ev_bhv at h
  cases h38 : Nat.beq pc 38 with
  | true => rw [h38, cond_true] at h; exact ev_bhc_ok hSL hSX pc ls st w q h o w1 hs
  | false =>
    rw [h38, cond_false] at h
    obtain ⟨hb, h⟩ := ev_cond h
    simp only [Bool.and_eq_true, Bool.or_eq_true] at hb
    obtain ⟨h0, h5⟩ := ev_arg_of hb.2
    cases h
    have hq : ev_seq pc := by
      rcases hb.1 with h9 | h9
      · rw [Nat.eq_of_beq_eq_true h9]; exact hA
      · rw [Nat.eq_of_beq_eq_true h9]; exact hC
    exact ev_x_arg hSL hv hq h0 h5 hs
theorem ev_bhb_ok {c v : Int32} {A C ixW jW ixM jM GW GM : Nat} {zW zM : ev_ME} {gC gM : ev_W → Nat → Bool} (hl : l.stackTraces = false) (hSL : SL = 6) (hSX : SX 0 &&& 63 = c) (hv : SX 1 = v) (hA : ev_seq A) (hC : ev_seq C)
    (a6 : ev_cd ev_LAW (A + 6) = some (.aload_n 3, 1)) (a7 : ev_cd ev_LAW (A + 6 + 1) = some (.invokestatic ixW, 3)) (wj : ev_look2 (ev_own1 ev_lawME) ixW ev_tgt = some jW) (we : ev_me jW = some zW) (wkd : ev_kd zW = 0) (wna : 3 = ev_na zW) (wml : 3 ≤ ev_ml zW) (wrm : ev_rmk ev_lawME zW = true) (wrt : ev_rok (ev_rt zW) (some (.int 1)) = true) (wev : ∀ (w : ev_W) (a d : Nat), a < w_n w → gC w a = true → ev GW jW 0 (ev_in (ev_ml zW) [.ref a, .int v, .ref d]) [] w = some (.inl (some (.int 1)), w_th w))
    (m6 : ev_cd ev_LAW (C + 6) = some (.invokevirtual ixM, 3)) (mj : ev_look2 (ev_own1 ev_lawME) ixM ev_tgt = some jM) (me : ev_me jM = some zM) (mkd : ev_kd zM = 1) (mna : 1 = ev_na zM) (mml : 2 ≤ ev_ml zM) (mrm : ev_rmk ev_lawME zM = true) (mk : ∀ w a, gM w a = true → w_K w a = ev_own1 zM) (mev : ∀ (w : ev_W) (a : Nat), a < w_n w → gM w a = true → ev GM jM 0 (ev_in (ev_ml zM) [.ref a, .int v]) [] w = some (.inl (some (.int 0)), w_sI w a 0 1))
    (pc : Nat) (ls : ev_L) (st : List Value) (w : ev_W) (q : Nat × List Value × ev_W) (h : ev_bhb c A C gC gM pc ls st w = some q) (o : Option Value ⊕ Nat) (w1 : ev_W) (hs : ev_Snd D cy base ext SL SX l ev_LAW q.1 ls q.2.1 q.2.2 o w1) : ev_Snd D cy base ext SL SX l ev_LAW pc ls st w o w1 := by
  unfold ev_bhb at h
  cases h38 : Nat.beq pc 38 with
  | true => rw [h38, cond_true] at h; exact ev_bhc_ok hSL hSX pc ls st w q h o w1 hs
  | false =>
    rw [h38, cond_false] at h
    cases hbA : (Nat.beq pc A && ev_arg pc ls) with
    | true =>
      rw [hbA, cond_true] at h
      simp only [Bool.and_eq_true] at hbA
      obtain ⟨h0, h5⟩ := ev_arg_of hbA.2
      have hp := Nat.eq_of_beq_eq_true hbA.1
      subst hp
      cases hd : ev_out ls with
      | none => rw [hd] at h; cases h
      | some d =>
        rw [hd] at h
        match st, h with
        | [.ref a], h =>
          obtain ⟨hb, h⟩ := ev_cond (show (bif decide (a < w_n w) && gC w a then some (pc + 10, [Value.int 1], w_th w) else none) = some q from h)
          simp only [Bool.and_eq_true, decide_eq_true_eq] at hb
          cases h
          exact ev_x_badC hl hSL hv hA a6 a7 wj we wkd wna wml wrm (Nat.zero_le 8) wrt (wev w a d hb.1 hb.2) h0 (ev_out_of hd) h5 hs
    | false =>
      rw [hbA, cond_false] at h
      obtain ⟨hbC, h⟩ := ev_cond h
      simp only [Bool.and_eq_true] at hbC
      obtain ⟨h0, h5⟩ := ev_arg_of hbC.2
      have hp := Nat.eq_of_beq_eq_true hbC.1
      subst hp
      match st, h with
      | [.ref a], h =>
        obtain ⟨hb, h⟩ := ev_cond (show (bif decide (a < w_n w) && gM w a then some (pc + 9, [Value.int 0], w_sI w a 0 1) else none) = some q from h)
        simp only [Bool.and_eq_true, decide_eq_true_eq] at hb
        cases h
        exact ev_x_badM hl hSL hv hC m6 mj me mkd mna mml mrm (Nat.zero_le 8) hb.1 (mk w a hb.2) (mev w a hb.1 hb.2) h0 h5 hs
end BADH
