set_option maxRecDepth 100000 in
theorem ev_mb_0 : ev_ms_0.all ev_meb = true := by decide +kernel
theorem ev_mo_0 : ∀ e ∈ ev_ms_0, ev_meok e := fun e he => ev_meok_of (List.all_eq_true.mp ev_mb_0 e he) (fun w hw => ev_all_in ev_msw_0 (List.mem_flatMap.mpr ⟨e, he, hw⟩))
set_option maxRecDepth 100000 in
theorem ev_mb_1 : ev_ms_1.all ev_meb = true := by decide +kernel
theorem ev_mo_1 : ∀ e ∈ ev_ms_1, ev_meok e := fun e he => ev_meok_of (List.all_eq_true.mp ev_mb_1 e he) (fun w hw => ev_all_in ev_msw_1 (List.mem_flatMap.mpr ⟨e, he, hw⟩))
set_option maxRecDepth 100000 in
theorem ev_mb_2 : ev_ms_2.all ev_meb = true := by decide +kernel
theorem ev_mo_2 : ∀ e ∈ ev_ms_2, ev_meok e := fun e he => ev_meok_of (List.all_eq_true.mp ev_mb_2 e he) (fun w hw => ev_all_in ev_msw_2 (List.mem_flatMap.mpr ⟨e, he, hw⟩))
set_option maxRecDepth 100000 in
theorem ev_mb_3 : ev_ms_3.all ev_meb = true := by decide +kernel
theorem ev_mo_3 : ∀ e ∈ ev_ms_3, ev_meok e := fun e he => ev_meok_of (List.all_eq_true.mp ev_mb_3 e he) (fun w hw => ev_all_in ev_msw_3 (List.mem_flatMap.mpr ⟨e, he, hw⟩))
set_option maxRecDepth 100000 in
theorem ev_mb_4 : ev_ms_4.all ev_meb = true := by decide +kernel
theorem ev_mo_4 : ∀ e ∈ ev_ms_4, ev_meok e := fun e he => ev_meok_of (List.all_eq_true.mp ev_mb_4 e he) (fun w hw => ev_all_in ev_msw_4 (List.mem_flatMap.mpr ⟨e, he, hw⟩))
set_option maxRecDepth 100000 in
theorem ev_mb_5 : ev_ms_5.all ev_meb = true := by decide +kernel
theorem ev_mo_5 : ∀ e ∈ ev_ms_5, ev_meok e := fun e he => ev_meok_of (List.all_eq_true.mp ev_mb_5 e he) (fun w hw => ev_all_in ev_msw_5 (List.mem_flatMap.mpr ⟨e, he, hw⟩))
set_option maxRecDepth 100000 in
theorem ev_mb_6 : ev_ms_6.all ev_meb = true := by decide +kernel
theorem ev_mo_6 : ∀ e ∈ ev_ms_6, ev_meok e := fun e he => ev_meok_of (List.all_eq_true.mp ev_mb_6 e he) (fun w hw => ev_all_in ev_msw_6 (List.mem_flatMap.mpr ⟨e, he, hw⟩))
set_option maxRecDepth 100000 in
theorem ev_mb_7 : ev_ms_7.all ev_meb = true := by decide +kernel
theorem ev_mo_7 : ∀ e ∈ ev_ms_7, ev_meok e := fun e he => ev_meok_of (List.all_eq_true.mp ev_mb_7 e he) (fun w hw => ev_all_in ev_msw_7 (List.mem_flatMap.mpr ⟨e, he, hw⟩))
set_option maxRecDepth 100000 in
theorem ev_mb_8 : ev_ms_8.all ev_meb = true := by decide +kernel
theorem ev_mo_8 : ∀ e ∈ ev_ms_8, ev_meok e := fun e he => ev_meok_of (List.all_eq_true.mp ev_mb_8 e he) (fun w hw => ev_all_in ev_msw_8 (List.mem_flatMap.mpr ⟨e, he, hw⟩))
set_option maxRecDepth 100000 in
theorem ev_mb_9 : ev_ms_9.all ev_meb = true := by decide +kernel
theorem ev_mo_9 : ∀ e ∈ ev_ms_9, ev_meok e := fun e he => ev_meok_of (List.all_eq_true.mp ev_mb_9 e he) (fun w hw => ev_all_in ev_msw_9 (List.mem_flatMap.mpr ⟨e, he, hw⟩))
set_option maxRecDepth 100000 in
theorem ev_mb_10 : ev_ms_10.all ev_meb = true := by decide +kernel
theorem ev_mo_10 : ∀ e ∈ ev_ms_10, ev_meok e := fun e he => ev_meok_of (List.all_eq_true.mp ev_mb_10 e he) (fun w hw => ev_all_in ev_msw_10 (List.mem_flatMap.mpr ⟨e, he, hw⟩))
set_option maxRecDepth 100000 in
theorem ev_mb_11 : ev_ms_11.all ev_meb = true := by decide +kernel
theorem ev_mo_11 : ∀ e ∈ ev_ms_11, ev_meok e := fun e he => ev_meok_of (List.all_eq_true.mp ev_mb_11 e he) (fun w hw => ev_all_in ev_msw_11 (List.mem_flatMap.mpr ⟨e, he, hw⟩))
set_option maxRecDepth 100000 in
theorem ev_mb_12 : ev_ms_12.all ev_meb = true := by decide +kernel
theorem ev_mo_12 : ∀ e ∈ ev_ms_12, ev_meok e := fun e he => ev_meok_of (List.all_eq_true.mp ev_mb_12 e he) (fun w hw => ev_all_in ev_msw_12 (List.mem_flatMap.mpr ⟨e, he, hw⟩))
set_option maxRecDepth 100000 in
theorem ev_mb_13 : ev_ms_13.all ev_meb = true := by decide +kernel
theorem ev_mo_13 : ∀ e ∈ ev_ms_13, ev_meok e := fun e he => ev_meok_of (List.all_eq_true.mp ev_mb_13 e he) (fun w hw => ev_all_in ev_msw_13 (List.mem_flatMap.mpr ⟨e, he, hw⟩))
set_option maxRecDepth 100000 in
theorem ev_mb_14 : ev_ms_14.all ev_meb = true := by decide +kernel
theorem ev_mo_14 : ∀ e ∈ ev_ms_14, ev_meok e := fun e he => ev_meok_of (List.all_eq_true.mp ev_mb_14 e he) (fun w hw => ev_all_in ev_msw_14 (List.mem_flatMap.mpr ⟨e, he, hw⟩))
set_option maxRecDepth 100000 in
theorem ev_mb_15 : ev_ms_15.all ev_meb = true := by decide +kernel
theorem ev_mo_15 : ∀ e ∈ ev_ms_15, ev_meok e := fun e he => ev_meok_of (List.all_eq_true.mp ev_mb_15 e he) (fun w hw => ev_all_in ev_msw_15 (List.mem_flatMap.mpr ⟨e, he, hw⟩))
set_option maxRecDepth 100000 in
theorem ev_mb_16 : ev_ms_16.all ev_meb = true := by decide +kernel
theorem ev_mo_16 : ∀ e ∈ ev_ms_16, ev_meok e := fun e he => ev_meok_of (List.all_eq_true.mp ev_mb_16 e he) (fun w hw => ev_all_in ev_msw_16 (List.mem_flatMap.mpr ⟨e, he, hw⟩))
set_option maxRecDepth 100000 in
theorem ev_mb_17 : ev_ms_17.all ev_meb = true := by decide +kernel
theorem ev_mo_17 : ∀ e ∈ ev_ms_17, ev_meok e := fun e he => ev_meok_of (List.all_eq_true.mp ev_mb_17 e he) (fun w hw => ev_all_in ev_msw_17 (List.mem_flatMap.mpr ⟨e, he, hw⟩))
set_option maxRecDepth 100000 in
theorem ev_mb_18 : ev_ms_18.all ev_meb = true := by decide +kernel
theorem ev_mo_18 : ∀ e ∈ ev_ms_18, ev_meok e := fun e he => ev_meok_of (List.all_eq_true.mp ev_mb_18 e he) (fun w hw => ev_all_in ev_msw_18 (List.mem_flatMap.mpr ⟨e, he, hw⟩))
set_option maxRecDepth 100000 in
theorem ev_mb_19 : ev_ms_19.all ev_meb = true := by decide +kernel
theorem ev_mo_19 : ∀ e ∈ ev_ms_19, ev_meok e := fun e he => ev_meok_of (List.all_eq_true.mp ev_mb_19 e he) (fun w hw => ev_all_in ev_msw_19 (List.mem_flatMap.mpr ⟨e, he, hw⟩))
set_option maxRecDepth 100000 in
theorem ev_mb_20 : ev_ms_20.all ev_meb = true := by decide +kernel
theorem ev_mo_20 : ∀ e ∈ ev_ms_20, ev_meok e := fun e he => ev_meok_of (List.all_eq_true.mp ev_mb_20 e he) (fun w hw => ev_all_in ev_msw_20 (List.mem_flatMap.mpr ⟨e, he, hw⟩))
set_option maxRecDepth 100000 in
theorem ev_mb_21 : ev_ms_21.all ev_meb = true := by decide +kernel
theorem ev_mo_21 : ∀ e ∈ ev_ms_21, ev_meok e := fun e he => ev_meok_of (List.all_eq_true.mp ev_mb_21 e he) (fun w hw => ev_all_in ev_msw_21 (List.mem_flatMap.mpr ⟨e, he, hw⟩))
set_option maxRecDepth 100000 in
theorem ev_mb_22 : ev_ms_22.all ev_meb = true := by decide +kernel
theorem ev_mo_22 : ∀ e ∈ ev_ms_22, ev_meok e := fun e he => ev_meok_of (List.all_eq_true.mp ev_mb_22 e he) (fun w hw => ev_all_in ev_msw_22 (List.mem_flatMap.mpr ⟨e, he, hw⟩))
set_option maxRecDepth 100000 in
theorem ev_mb_23 : ev_ms_23.all ev_meb = true := by decide +kernel
theorem ev_mo_23 : ∀ e ∈ ev_ms_23, ev_meok e := fun e he => ev_meok_of (List.all_eq_true.mp ev_mb_23 e he) (fun w hw => ev_all_in ev_msw_23 (List.mem_flatMap.mpr ⟨e, he, hw⟩))
set_option maxRecDepth 100000 in
theorem ev_mb_24 : ev_ms_24.all ev_meb = true := by decide +kernel
theorem ev_mo_24 : ∀ e ∈ ev_ms_24, ev_meok e := fun e he => ev_meok_of (List.all_eq_true.mp ev_mb_24 e he) (fun w hw => ev_all_in ev_msw_24 (List.mem_flatMap.mpr ⟨e, he, hw⟩))
set_option maxRecDepth 100000 in
theorem ev_mb_25 : ev_ms_25.all ev_meb = true := by decide +kernel
theorem ev_mo_25 : ∀ e ∈ ev_ms_25, ev_meok e := fun e he => ev_meok_of (List.all_eq_true.mp ev_mb_25 e he) (fun w hw => ev_all_in ev_msw_25 (List.mem_flatMap.mpr ⟨e, he, hw⟩))
set_option maxRecDepth 100000 in
theorem ev_mb_26 : ev_ms_26.all ev_meb = true := by decide +kernel
theorem ev_mo_26 : ∀ e ∈ ev_ms_26, ev_meok e := fun e he => ev_meok_of (List.all_eq_true.mp ev_mb_26 e he) (fun w hw => ev_all_in ev_msw_26 (List.mem_flatMap.mpr ⟨e, he, hw⟩))
theorem ev_mo : ∀ p ∈ ev_mss, ∀ e ∈ p.2, ev_meok e := List.forall_mem_cons.mpr ⟨ev_mo_0, List.forall_mem_cons.mpr ⟨ev_mo_1, List.forall_mem_cons.mpr ⟨ev_mo_2, List.forall_mem_cons.mpr ⟨ev_mo_3, List.forall_mem_cons.mpr ⟨ev_mo_4, List.forall_mem_cons.mpr ⟨ev_mo_5, List.forall_mem_cons.mpr ⟨ev_mo_6, List.forall_mem_cons.mpr ⟨ev_mo_7, List.forall_mem_cons.mpr ⟨ev_mo_8, List.forall_mem_cons.mpr ⟨ev_mo_9, List.forall_mem_cons.mpr ⟨ev_mo_10, List.forall_mem_cons.mpr ⟨ev_mo_11, List.forall_mem_cons.mpr ⟨ev_mo_12, List.forall_mem_cons.mpr ⟨ev_mo_13, List.forall_mem_cons.mpr ⟨ev_mo_14, List.forall_mem_cons.mpr ⟨ev_mo_15, List.forall_mem_cons.mpr ⟨ev_mo_16, List.forall_mem_cons.mpr ⟨ev_mo_17, List.forall_mem_cons.mpr ⟨ev_mo_18, List.forall_mem_cons.mpr ⟨ev_mo_19, List.forall_mem_cons.mpr ⟨ev_mo_20, List.forall_mem_cons.mpr ⟨ev_mo_21, List.forall_mem_cons.mpr ⟨ev_mo_22, List.forall_mem_cons.mpr ⟨ev_mo_23, List.forall_mem_cons.mpr ⟨ev_mo_24, List.forall_mem_cons.mpr ⟨ev_mo_25, List.forall_mem_cons.mpr ⟨ev_mo_26, fun _ h => absurd h List.not_mem_nil⟩⟩⟩⟩⟩⟩⟩⟩⟩⟩⟩⟩⟩⟩⟩⟩⟩⟩⟩⟩⟩⟩⟩⟩⟩⟩⟩
theorem ev_me_ok {j : Nat} {e : ev_ME} (h : ev_me j = some e) : ev_meok e := by
  unfold ev_me at h
  cases hl : ev_look (j / 16) ev_mss with
  | none => rw [hl] at h; cases h
  | some l => rw [hl] at h; exact ev_mo _ (ev_look_mem hl) e (List.mem_of_getElem? h)
theorem ev_me_law (j : Nat) {e : ev_ME} (h : ev_me j = some e) : Nat.beq j ev_LAW = false := by
  cases hb : Nat.beq j ev_LAW with
  | false => rfl
  | true =>
    have e1 := Nat.eq_of_beq_eq_true hb
    subst e1
    have h9 : (ev_me ev_LAW).isSome = false := by decide +kernel
    rw [h] at h9
    cases h9
