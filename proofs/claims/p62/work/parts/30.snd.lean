/-! what the evaluator says of the machine: worlds and contexts -/
def ev_all : List Cond := lw_tbl.filter goodWord
theorem ev_all_of {ws : List Cond} (h : GoodIn lw_tbl ws) (h2 : ws.all goodWord = true) : ∀ w ∈ ws, w ∈ ev_all := fun w hw => List.mem_filter.mpr ⟨(h w hw).1, List.all_eq_true.mp h2 w hw⟩
theorem goodWord_of {w : Cond} (h : (w.onTables && w.keeps) = true ∨ ∃ ty, w = .arrayClass ty) : goodWord w = true := by
  rcases h with h | ⟨ty, rfl⟩
  · cases w <;> first | rfl | exact h
  · rfl
theorem ev_all_in {ws : List Cond} (h : GoodIn lw_tbl ws) {w : Cond} (hw : w ∈ ws) : w ∈ ev_all := List.mem_filter.mpr ⟨(h w hw).1, goodWord_of (h w hw).2⟩
theorem ev_all_good {w : Cond} (h : w ∈ ev_all) : (w.onTables && w.keeps) = true ∨ ∃ ty, w = .arrayClass ty := good_of_word (List.mem_filter.mp h).2
theorem ev_good {ws : List Cond} (h : ∀ w ∈ ws, w ∈ ev_all) : GoodIn ev_all ws := fun w hw => ⟨h w hw, ev_all_good (h w hw)⟩
/-- a class of the worlds: its rows -/
def ev_clok (r : vw_C) : Prop := ∃ ty : Nat → FieldType, (∀ k, k < r.2.2 → parseFieldDescriptor (r.2.1 k).2.2.1 = some (ty k)) ∧ (∀ a, a < r.2.2 → ∀ b, b < r.2.2 → a ≠ b → (r.2.1 a).2.1 ≠ (r.2.1 b).2.1) ∧ (∀ w ∈ u_ws r.1 r.2.1 r.2.2, w ∈ ev_all)
def ev_ftk (t : Nat) (ty : FieldType) : Bool := match t, ty with
  | 0, .int => true
  | 1, .boolean => true
  | 2, .object _ => true
  | 2, .array _ => true
  | _, _ => false
/-- a class's fields: their kinds are those of the table, their types' -/
def ev_clft (ci : Nat) (r : vw_C) : Prop := ∃ ty : Nat → FieldType, (∀ k, k < r.2.2 → parseFieldDescriptor (r.2.1 k).2.2.1 = some (ty k)) ∧ (∀ a, a < r.2.2 → ∀ b, b < r.2.2 → a ≠ b → (r.2.1 a).2.1 ≠ (r.2.1 b).2.1) ∧ (∀ w ∈ u_ws r.1 r.2.1 r.2.2, w ∈ ev_all) ∧ (ev_ft.getD ci []).length = r.2.2 ∧ (∀ k, k < r.2.2 → ev_ftk (ev_fty ci k) (ty k) = true) ∧ ∀ k, k < r.2.2 → (r.2.1 k).1 = r.1
set_option maxRecDepth 100000 in
theorem ev_cls (ci : Nat) (r : vw_C) (h : vwCl[ci]? = some r) : ev_clft ci r := by
  have hl : ci < 9 := (List.getElem?_eq_some_iff.mp h).1
  match ci, hl with
  | 0, _ => cases h; exact ⟨tyX0, tyX0_ok, nmX0, fun w hw => ev_all_in ev_layX0 hw, rfl, by decide +kernel, by decide +kernel⟩
  | 1, _ => cases h; exact ⟨tyX1, tyX1_ok, nmX1, fun w hw => ev_all_in ev_layX1 hw, rfl, by decide +kernel, by decide +kernel⟩
  | 2, _ => cases h; exact ⟨tyX2, tyX2_ok, nmX2, fun w hw => ev_all_in ev_layX2 hw, rfl, by decide +kernel, by decide +kernel⟩
  | 3, _ => cases h; exact ⟨tyX3, tyX3_ok, nmX3, fun w hw => ev_all_in ev_layX3 hw, rfl, by decide +kernel, by decide +kernel⟩
  | 4, _ => cases h; exact ⟨tyX4, tyX4_ok, nmX4, fun w hw => ev_all_in ev_layX4 hw, rfl, by decide +kernel, by decide +kernel⟩
  | 5, _ => cases h; exact ⟨tyX5, tyX5_ok, nmX5, fun w hw => ev_all_in ev_layX5 hw, rfl, by decide +kernel, by decide +kernel⟩
  | 6, _ => cases h; exact ⟨tyX6, tyX6_ok, nmX6, fun w hw => ev_all_in ev_layX6 hw, rfl, by decide +kernel, by decide +kernel⟩
  | 7, _ => cases h; exact ⟨tyX7, tyX7_ok, nmX7, fun w hw => ev_all_in ev_layX7 hw, rfl, by decide +kernel, by decide +kernel⟩
  | 8, _ => cases h; exact ⟨tyX8, tyX8_ok, nmX8, fun w hw => ev_all_in ev_layX8 hw, rfl, by decide +kernel, by decide +kernel⟩
/-- a method's rows -/
def ev_meok (e : ev_ME) : Prop := (∀ w ∈ ev_mw e, w ∈ ev_all) ∧ ev_own.getD (ev_own1 e) "" = (ev_y e).cls ∧ plainName (ev_y e).cls = true ∧ ((ev_y e).cls ≠ "java/lang/invoke/MethodHandle" ∧ (ev_y e).cls ≠ "java/lang/invoke/VarHandle") ∧ (parseMethodDescriptor (ev_y e).desc).map (fun d => d.parameters.length) = some (ev_na e) ∧ (ev_kd e = 2 ∨ ev_kd e = 3 → (ev_y e).name = "<init>" ∧ ev_hh e = [] ∧ ev_rt e = none) ∧ (ev_kd e = 1 → ev_hh e = [] ∧ ∃ r, vwCl[ev_own1 e]? = some r ∧ r.1 = (ev_y e).cls) ∧ (ev_hh e ≠ [] → (ev_y e).cls = "FlagLaundryLaw")
def ev_meb (e : ev_ME) : Bool := decide (ev_own.getD (ev_own1 e) "" = (ev_y e).cls) && plainName (ev_y e).cls && decide ((ev_y e).cls ≠ "java/lang/invoke/MethodHandle") && decide ((ev_y e).cls ≠ "java/lang/invoke/VarHandle") && decide ((parseMethodDescriptor (ev_y e).desc).map (fun d => d.parameters.length) = some (ev_na e)) && (bif Nat.beq (ev_kd e) 2 || Nat.beq (ev_kd e) 3 then decide ((ev_y e).name = "<init>") && (ev_hh e).isEmpty && (ev_rt e).isNone else true) && (bif Nat.beq (ev_kd e) 1 then (ev_hh e).isEmpty && (match vwCl[ev_own1 e]? with | some r => decide (r.1 = (ev_y e).cls) | none => false) else true) && ((ev_hh e).isEmpty || decide ((ev_y e).cls = "FlagLaundryLaw"))
theorem ev_meok_of {e : ev_ME} (h : ev_meb e = true) (hw : ∀ w ∈ ev_mw e, w ∈ ev_all) : ev_meok e := by
  simp only [ev_meb, Bool.and_eq_true, decide_eq_true_eq] at h
  obtain ⟨⟨⟨⟨⟨⟨⟨h1, h2⟩, h3⟩, h4⟩, h5⟩, h6⟩, h7⟩, h10⟩ := h
  refine ⟨hw, h1, h2, ⟨h3, h4⟩, h5, fun hk => ?_, fun hk => ?_, fun hk => ?_⟩
  · have hb : (Nat.beq (ev_kd e) 2 || Nat.beq (ev_kd e) 3) = true := by
      rcases hk with hk | hk <;> rw [hk] <;> rfl
    rw [hb] at h6
    simp only [cond_true, Bool.and_eq_true, decide_eq_true_eq, List.isEmpty_iff, Option.isNone_iff_eq_none] at h6
    exact ⟨h6.1.1, h6.1.2, h6.2⟩
  · rw [hk] at h7
    simp only [show Nat.beq 1 1 = true from rfl, cond_true, Bool.and_eq_true, List.isEmpty_iff] at h7
    refine ⟨h7.1, ?_⟩
    have h8 := h7.2
    cases hr : vwCl[ev_own1 e]? with
    | none => rw [hr] at h8; cases h8
    | some r => rw [hr] at h8; exact ⟨r, rfl, of_decide_eq_true h8⟩
  · simp only [Bool.or_eq_true, List.isEmpty_iff, decide_eq_true_eq] at h10
    rcases h10 with h10 | h10
    · exact absurd h10 hk
    · exact h10
