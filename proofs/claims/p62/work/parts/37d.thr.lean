section CALL
variable {D : va_G} {cy : Nat → ClassId} {base : Nat} {ext : Nat → Nat} {SL : Nat} {SX : Nat → Int32} {l : Launch} {j pc : Nat} {ls : ev_L} {r st : List Value} {w : ev_W} {o : Option Value ⊕ Nat} {w1 : ev_W}
/-- a throw site's rows -/
def ev_thb (j : Nat) (q : Nat × Nat × Nat × Nat × Nat × Nat) : Bool := match ev_me j with
  | some z => decide (decode (ev_by z) q.1 = .ok (.new q.2.2.1, 3)) && decide (decode (ev_by z) (q.1 + 3) = .ok (.dup, 1)) && (bif Nat.beq q.2.2.2.2.2 0 then decide (decode (ev_by z) (q.1 + 4) = .ok (.ldc q.2.2.2.1, 2)) && decide (decode (ev_by z) (q.1 + 6) = .ok (.invokespecial q.2.2.2.2.1, 3)) && decide (decode (ev_by z) (q.1 + 9) = .ok (.athrow, 1))
      else decide (decode (ev_by z) (q.1 + 4) = .ok (.ldc_w q.2.2.2.1, 3)) && decide (decode (ev_by z) (q.1 + 7) = .ok (.invokespecial q.2.2.2.2.1, 3)) && decide (decode (ev_by z) (q.1 + 10) = .ok (.athrow, 1))) && decide ((ev_own1 z, q.2.1, q.2.2.1, q.2.2.2.2.1) ∈ ev_thk) && (ev_str.any (fun t => decide (t.1 = ev_own1 z) && decide (t.2.1 = q.2.2.2.1))) && decide (6 ≤ ev_fr z) && decide (82 ≤ ev_lo z) && (ev_hh z).isEmpty && decide (q.2.1 < 3)
  | none => false
set_option maxRecDepth 100000 in
theorem ev_thr_ok : ev_thr.all (fun p => p.2.all (ev_thb p.1)) = true := by decide +kernel
theorem ev_x_throw {q : Nat × Nat × Nat × Nat × Nat} (hq : ev_look2 j pc ev_thr = some q) : ev_Snd D cy base ext SL SX l j pc ls [] w (.inr q.1) (w_th w) := by
  obtain ⟨l9, h1, h2⟩ := ev_look2_mem hq
  have h3 := List.all_eq_true.mp (List.all_eq_true.mp ev_thr_ok _ h1) _ h2
  refine ⟨Nat.le_succ _, Nat.le_add_right _ _, fun z hz p e R s m args below meth c hC H locs cells slots Q L K N hM hS hE hcc hss hK hN hend => ?_⟩
  unfold ev_thb at h3
  dsimp only at h3
  cases hj : ev_me j with
  | none => rw [hj] at h3; cases h3
  | some z9 =>
    rw [hj] at h3
    dsimp only at h3
    have hzz := (ev_mel_me hj).symm.trans hz
    cases hzz
    simp only [Bool.and_eq_true, decide_eq_true_eq] at h3
    obtain ⟨⟨⟨⟨⟨⟨⟨⟨d0, d3⟩, d4⟩, hth⟩, hstr⟩, hf6⟩, hl82⟩, hhe⟩, hE3⟩ := h3
    have hh : ev_hh z = [] := List.isEmpty_iff.mp hhe
    obtain ⟨Qc, XC, mc', ms', hQ, hKm, hNm, htab, hfin⟩ := hend.2 q.1 rfl
    subst hQ
    have hts := hC.2.2.2.2.2.1
    have hown1 := hC.2.2.2.2.2.2.2.2.2.2.2.1
    have hF := hC.2.2.2.2.2.2.2.2.2.1
    have hR1 := hC.2.2.2.2.2.2.2.2.2.2.2.2.2.1
    have hR2 := hC.2.2.2.2.2.2.2.2.2.2.2.2.2.2.1
    have hc9 : w_c (w_th w) = w_c w + 1 := rfl
    have hz9 : w_z (w_th w) = w_z w + 6 := rfl
    rw [hc9] at hcc
    rw [hz9] at hss
    have a1 := List.all_eq_true.mp ev_thk_at _ hth
    have a2 := List.all_eq_true.mp ev_thk_ng _ hth
    have a3 := List.all_eq_true.mp ev_thk_ot _ hth
    dsimp only at a1 a2 a3
    rw [hown1] at a1 a2 a3
    have hk : Cond.classLink (ev_y z).cls q.2.1 (ev_ex q.1) ∈ ev_all := by
      have h9 := ev_all_in ev_thk_cl (List.mem_map.mpr ⟨_, hth, rfl⟩)
      dsimp only at h9
      rw [hown1] at h9
      exact h9
    have hini : Cond.initialized (ev_ex q.1) ∈ ev_all := by
      refine ev_all_in ev_thk_in ?_
      have h9 : q.1 = 0 ∨ q.1 = 1 ∨ q.1 = 2 := by omega
      rcases h9 with h9 | h9 | h9 <;> rw [h9]
      · exact List.mem_of_getElem? (i := 0) rfl
      · exact List.mem_of_getElem? (i := 1) rfl
      · exact List.mem_of_getElem? (i := 2) rfl
    have hat : ∀ w ∈ vx_atS (ev_y z).cls q.2.2.2.1 (ev_ex q.1) ["java/lang/RuntimeException", "java/lang/Exception"], w.before args s = true := by
      refine vx_hat (B := ev_ngw) (fun w hw => hts w (List.mem_filter.mpr ⟨of_decide_eq_true (List.all_eq_true.mp a1 w hw), (List.mem_filter.mp hw).2⟩)) (fun w hw => of_decide_eq_true (List.all_eq_true.mp a2 w hw)) (fun w hw => ?_)
      have h9 := hF.1 w hw
      unfold ev_ngw at hw
      simp only [List.mem_cons, List.not_mem_nil, or_false] at hw
      rcases hw with rfl | rfl | rfl | rfl | rfl | rfl <;> exact va_Nw.use rfl h9
    have hgood : ∀ w ∈ Cond.classLink (ev_y z).cls q.2.1 (ev_ex q.1) :: Cond.initialized (ev_ex q.1) :: vx_atS (ev_y z).cls q.2.2.2.1 (ev_ex q.1) ["java/lang/RuntimeException", "java/lang/Exception"], vx_ot w = true := fun w hw => List.all_eq_true.mp a3 w hw
    obtain ⟨t9, ht9, ht8⟩ := List.any_eq_true.mp hstr
    simp only [Bool.and_eq_true, decide_eq_true_eq] at ht8
    obtain ⟨k9, hk9⟩ := List.getElem?_of_mem ht9
    have hsr := (hF.2.2.2.2.2.1 k9 t9 hk9).1
    rw [ht8.1, ht8.2, hown1] at hsr
    have hEx : ev_ex q.1 = "java/lang/IllegalStateException" ∨ ev_ex q.1 = "java/lang/IndexOutOfBoundsException" ∨ ev_ex q.1 = "java/lang/IllegalArgumentException" := by
      have h9 : q.1 = 0 ∨ q.1 = 1 ∨ q.1 = 2 := by omega
      rcases h9 with h9 | h9 | h9 <;> rw [h9]
      · exact Or.inl rfl
      · exact Or.inr (Or.inl rfl)
      · exact Or.inr (Or.inr rfl)
    have hfit : Bundle.fit (ev_ex q.1) = true := by rcases hEx with h9 | h9 | h9 <;> rw [h9] <;> decide +kernel
    have hnames : ∀ n ∈ ["java/lang/RuntimeException", "java/lang/Exception"], Bundle.fit n = true := by decide +kernel
    have hlsz : L.size = c.maxLocals := hE.2.1.trans hC.2.2.2.1.symm
    have hxx : ∀ t : State, s.vm.Alike t.vm → H.size ≤ t.heap.size → (∀ q : Nat, q < H.size → t.heap[q]? = H[q]?) → XC (ev_ex q.1) s t := fun t _ f1 f2 => hfin t (ev_M_kept hM rfl rfl rfl f1 f2) ⟨Nat.le_trans hS.1 f1, fun x y1 y2 => (f2 x (Nat.lt_of_lt_of_le y1 hS.1)).trans (hS.2.1 x y1 y2)⟩
    cases hw9 : Nat.beq q.2.2.2.2 0 with
    | true =>
      rw [hw9] at d4
      simp only [cond_true, Bool.and_eq_true, decide_eq_true_eq] at d4
      exact vx_throwS (names := ["java/lang/RuntimeException", "java/lang/Exception"]) (own := (ev_y z).cls) (rest := []) hC.1 hC.2.1 hC.2.2.2.2.2.2.2.2.2.2.2.2.2.2.2.1 hC.2.2.2.2.1 hfit hnames (hts _ hk) (hts _ hini) hsr hat hgood hF.2.2.2.2.2.2.1 hF.2.2.2.2.2.2.2 hS hlsz d0 d3 d4.1.1 d4.1.2 d4.2 (fun x hx => (htab hh x hx).elim) (by show 2 + 3 < R.frames; omega) (by show 0 + (13 * (2 + 1) + 43) ≤ R.locals; omega) (by omega) (by omega) hC.2.2.2.2.2.2.1 hxx hS.2.2 (by omega) (by omega)
    | false =>
      rw [hw9] at d4
      simp only [cond_false, Bool.and_eq_true, decide_eq_true_eq] at d4
      exact vx_throwSW (names := ["java/lang/RuntimeException", "java/lang/Exception"]) (own := (ev_y z).cls) (rest := []) hC.1 hC.2.1 hC.2.2.2.2.2.2.2.2.2.2.2.2.2.2.2.1 hC.2.2.2.2.1 hfit hnames (hts _ hk) (hts _ hini) hsr hat hgood hF.2.2.2.2.2.2.1 hF.2.2.2.2.2.2.2 hS hlsz d0 d3 d4.1.1 d4.1.2 d4.2 (fun x hx => (htab hh x hx).elim) (by show 2 + 3 < R.frames; omega) (by show 0 + (13 * (2 + 1) + 43) ≤ R.locals; omega) (by omega) (by omega) hC.2.2.2.2.2.2.1 hxx hS.2.2 (by omega) (by omega)
end CALL
