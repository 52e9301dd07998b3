/-! worlds in the heap -/
def ev_ρ (base : Nat) (ext : Nat → Nat) : Nat → Nat := fun k => if k < ev_S then base + k else ext k
def ev_v (base : Nat) (ext : Nat → Nat) : Value → Value
  | .ref k => .ref (ev_ρ base ext k)
  | .int x => .int x
  | .long x => .long x
  | .float x => .float x
  | .double x => .double x
  | .null => .null
  | .retAddr k => .retAddr k
theorem ev_v_cat (base : Nat) (ext : Nat → Nat) (v : Value) : (ev_v base ext v).category = v.category := by cases v <;> rfl
theorem ev_v_rf (base : Nat) (ext : Nat → Nat) (r : Option Nat) : ev_v base ext (va_rf r) = va_rf (r.map (ev_ρ base ext)) := by cases r <;> rfl
theorem ev_v_cats (base : Nat) (ext : Nat → Nat) (st : List Value) : ((st.map (ev_v base ext)).map fun v => v.category) = st.map fun v => v.category := by
  rw [List.map_map]
  exact List.map_congr_left fun v _ => ev_v_cat base ext v
/-- what a field holds -/
def ev_fv (base : Nat) (ext : Nat → Nat) (w : ev_W) (a : Nat) (q : Nat × Nat) : Value := if q.1 = 2 then va_rf ((w_R w a q.2).map (ev_ρ base ext)) else .int (w_I w a q.2)
def ev_fs (base : Nat) (ext : Nat → Nat) (w : ev_W) (a ci : Nat) : List Value := (ev_ft.getD ci []).zipIdx.map (ev_fv base ext w a)
/-- a cell, by its kind -/
def ev_ent (cy : Nat → ClassId) (base : Nat) (ext : Nat → Nat) (w : ev_W) (a : Nat) : va_E :=
  if w_K w a < 9 then .inr (w_K w a, ev_fs base ext w a (w_K w a))
  else .inl (cy (w_K w a), w_L w a, if w_K w a = 12 ∨ w_K w a = 13 then .inr (.inr (.inr (.inr (fun j => (w_R w a j).map (ev_ρ base ext))))) else if w_K w a = 14 then .inr (.inl (w_J w a)) else if w_K w a = 15 then .inr (.inr (.inr (.inl (w_D w a)))) else .inl (w_I w a))
def ev_ws (cy : Nat → ClassId) (base : Nat) (ext : Nat → Nat) (w : ev_W) : va_W := (List.range (w_n w)).map (fun a => (base + a, ev_ent cy base ext w a))
def ev_tys (cy : Nat → ClassId) : List (ClassId × FieldType) := [(cy 9, .byte), (cy 10, .int), (cy 11, .boolean), (cy 12, .object RX0), (cy 13, .object RX5), (cy 14, .long), (cy 15, .double)]
def ev_A (base : Nat) : Nat → Prop := fun q => base ≤ q
/-- the heap holds the world -/
def ev_M (D : va_G) (cy : Nat → ClassId) (base : Nat) (ext : Nat → Nat) (SL : Nat) (SX : Nat → Int32) (w : ev_W) (H : Heap) : Prop :=
  va_P D vwCl (ev_ws cy base ext w) H ∧ w_n w ≤ 1000 ∧ base + w_n w ≤ H.size ∧ (w_l w = true → H.size = base + w_n w) ∧ w_L w ev_S = SL ∧ w_I w ev_S = SX
theorem ev_ws_at {cy : Nat → ClassId} {base : Nat} {ext : Nat → Nat} {w : ev_W} {a : Nat} (h : a < w_n w) : (ev_ws cy base ext w)[a]? = some (base + a, ev_ent cy base ext w a) := by
  unfold ev_ws
  rw [List.getElem?_map, List.getElem?_range h]
  rfl
theorem ev_ws_of {cy : Nat → ClassId} {base : Nat} {ext : Nat → Nat} {w : ev_W} {k : Nat} {q : Nat × va_E} (h : (ev_ws cy base ext w)[k]? = some q) : k < w_n w ∧ q = (base + k, ev_ent cy base ext w k) := by
  have hl : k < (ev_ws cy base ext w).length := (List.getElem?_eq_some_iff.mp h).1
  have hl2 : k < w_n w := by
    unfold ev_ws at hl
    rw [List.length_map, List.length_range] at hl
    exact hl
  rw [ev_ws_at hl2] at h
  exact ⟨hl2, (Option.some.inj h).symm⟩
theorem ev_dis (cy : Nat → ClassId) (base : Nat) (ext : Nat → Nat) (w : ev_W) : va_D (ev_A base) (ev_ws cy base ext w) := by
  refine ⟨fun i j p q hi hj h => ?_, fun k q h => ?_⟩
  · obtain ⟨-, rfl⟩ := ev_ws_of hi
    obtain ⟨-, rfl⟩ := ev_ws_of hj
    have h1 : base + i = base + j := h
    omega
  · obtain ⟨-, rfl⟩ := ev_ws_of h
    exact Nat.le_add_right _ _
/-- two worlds that differ in one cell -/
theorem ev_ws_set {cy : Nat → ClassId} {base : Nat} {ext : Nat → Nat} {w w1 : ev_W} {a : Nat} (hn : w_n w1 = w_n w) (h : ∀ b, b ≠ a → ev_ent cy base ext w1 b = ev_ent cy base ext w b) : (ev_ws cy base ext w).set a (base + a, ev_ent cy base ext w1 a) = ev_ws cy base ext w1 := by
  apply List.ext_getElem?
  intro k
  rw [List.getElem?_set]
  by_cases hk : k < w_n w
  · have hk1 : k < w_n w1 := by rw [hn]; exact hk
    have hlen : (ev_ws cy base ext w).length = w_n w := by unfold ev_ws; rw [List.length_map, List.length_range]
    rw [ev_ws_at hk1, ev_ws_at hk]
    by_cases e : a = k
    · subst e
      rw [if_pos rfl, if_pos (by rw [hlen]; exact hk)]
    · rw [if_neg e, h k (fun q => e q.symm)]
  · have e1 : (ev_ws cy base ext w1)[k]? = none := List.getElem?_eq_none (by unfold ev_ws; rw [List.length_map, List.length_range, hn]; omega)
    have e2 : (ev_ws cy base ext w)[k]? = none := List.getElem?_eq_none (by unfold ev_ws; rw [List.length_map, List.length_range]; omega)
    have hlen : (ev_ws cy base ext w).length = w_n w := by unfold ev_ws; rw [List.length_map, List.length_range]
    rw [e1, e2]
    by_cases e : a = k
    · subst e
      rw [if_pos rfl, if_neg (by rw [hlen]; exact hk)]
    · rw [if_neg e]
theorem ev_M_ws {D : va_G} {cy : Nat → ClassId} {base : Nat} {ext : Nat → Nat} {SL : Nat} {SX : Nat → Int32} {w w1 : ev_W} {H H1 : Heap} {a : Nat} {en : va_E} (h : ev_M D cy base ext SL SX w H) (ha : a < w_n w)
    (hn : w_n w1 = w_n w) (hl : w_l w1 = w_l w) (hL : w_L w1 = w_L w) (hI : w_I w1 ev_S = w_I w ev_S) (he : ∀ b, b ≠ a → ev_ent cy base ext w1 b = ev_ent cy base ext w b) (hen : en = ev_ent cy base ext w1 a)
    (hP : va_P D vwCl ((ev_ws cy base ext w).set a (base + a, en)) H1) (hz : H1.size = H.size) : ev_M D cy base ext SL SX w1 H1 := by
  obtain ⟨h1, h2, h3, h4, h5, h6⟩ := h
  subst hen
  rw [ev_ws_set hn he] at hP
  exact ⟨hP, by rw [hn]; exact h2, by rw [hn, hz]; exact h3, fun q => by rw [hz, hn]; exact h4 (by rw [← hl]; exact q), by rw [hL]; exact h5, by rw [hI]; exact h6⟩
/-- a write outside the worlds' cells, or a larger heap -/
theorem ev_M_kept {D : va_G} {cy : Nat → ClassId} {base : Nat} {ext : Nat → Nat} {SL : Nat} {SX : Nat → Int32} {w w1 : ev_W} {H H1 : Heap} (h : ev_M D cy base ext SL SX w H) (hw : w1.2.2.2.2 = w.2.2.2.2) (hn : w_n w1 = w_n w) (hl : w_l w1 = false) (hz : H.size ≤ H1.size) (hk : ∀ q, q < H.size → H1[q]? = H[q]?) : ev_M D cy base ext SL SX w1 H1 := by
  obtain ⟨h1, h2, h3, h4, h5, h6⟩ := h
  have e : ev_ws cy base ext w1 = ev_ws cy base ext w := by
    unfold ev_ws
    rw [hn]
    refine List.map_congr_left fun a _ => ?_
    unfold ev_ent ev_fs ev_fv w_K w_L w_R w_I w_J w_D
    rw [hw]
  refine ⟨?_, by rw [hn]; exact h2, by rw [hn]; omega, fun q => (by rw [hl] at q; cases q), ?_, ?_⟩
  · rw [e]
    exact h1.kept fun k q hq => hk q.1 (h1 k q hq).lt
  · unfold w_L at h5 ⊢; rw [hw]; exact h5
  · unfold w_I at h6 ⊢; rw [hw]; exact h6
/-- a new cell -/
theorem ev_M_new {D : va_G} {cy : Nat → ClassId} {base : Nat} {ext : Nat → Nat} {SL : Nat} {SX : Nat → Int32} {w : ev_W} {H H1 : Heap} {k len : Nat} (h : ev_M D cy base ext SL SX w H) (hl : w_l w = true) (hlt : w_n w < 1000) (hz : H1.size = H.size + 1) (hk : ∀ q, q < H.size → H1[q]? = H[q]?)
    (ha : va_at D vwCl (base + w_n w, ev_ent cy base ext (w_nw w k len) (w_n w)) H1) : ev_M D cy base ext SL SX (w_nw w k len) H1 := by
  obtain ⟨h1, h2, h3, h4, h5, h6⟩ := h
  have h4' := h4 hl
  have hS : ¬ ev_S = w_n w := by unfold ev_S; omega
  refine ⟨fun i q hq => ?_, by show w_n w + 1 ≤ 1000; omega, by show base + (w_n w + 1) ≤ H1.size; omega, fun _ => by show H1.size = base + (w_n w + 1); omega, ?_, ?_⟩
  · obtain ⟨hi, rfl⟩ := ev_ws_of hq
    have hi' : i < w_n w + 1 := hi
    by_cases e : i = w_n w
    · subst e; exact ha
    · have hi2 : i < w_n w := by omega
      have e2 : ev_ent cy base ext (w_nw w k len) i = ev_ent cy base ext w i := by
        unfold ev_ent ev_fs ev_fv w_nw w_K w_L w_R w_I w_J w_D ev_u1
        simp only [if_neg e]
      rw [e2]
      have h9 := h1 i _ (ev_ws_at hi2)
      exact h9.kept (hk _ h9.lt)
  · show ev_u1 (w_L w) (w_n w) len ev_S = SL
    unfold ev_u1; rw [if_neg hS]; exact h5
  · show ev_u1 (w_I w) (w_n w) (fun _ => 0) ev_S = SX
    unfold ev_u1; rw [if_neg hS]; exact h6
theorem ev_fs_at {base : Nat} {ext : Nat → Nat} {w : ev_W} {a ci k : Nat} (hk : k < (ev_ft.getD ci []).length) : (ev_fs base ext w a ci)[k]? = some (ev_fv base ext w a (ev_fty ci k, k)) := by
  unfold ev_fs ev_fty
  generalize ev_ft.getD ci [] = l9 at hk ⊢
  have e9 : l9.getD k 9 = l9[k] := by
    rw [List.getD_eq_getElem?_getD, List.getElem?_eq_getElem hk]
    rfl
  rw [List.getElem?_map, List.getElem?_zipIdx, List.getElem?_eq_getElem hk, e9]
  simp only [Option.map_some, Nat.zero_add]
theorem ev_fs_len {base : Nat} {ext : Nat → Nat} {w : ev_W} {a ci : Nat} : (ev_fs base ext w a ci).length = (ev_ft.getD ci []).length := by
  unfold ev_fs
  rw [List.length_map, List.length_zipIdx]
/-- a field is written: the list of what the object holds -/
theorem ev_fs_set {base : Nat} {ext : Nat → Nat} {w w1 : ev_W} {a ci k : Nat} {v : Value} (hv : k < (ev_ft.getD ci []).length → ev_fv base ext w1 a (ev_fty ci k, k) = v) (ho : ∀ j t, j ≠ k → ev_fv base ext w1 a (t, j) = ev_fv base ext w a (t, j)) : (ev_fs base ext w a ci).set k v = ev_fs base ext w1 a ci := by
  apply List.ext_getElem?
  intro j
  rw [List.getElem?_set]
  by_cases hj : j < (ev_ft.getD ci []).length
  · rw [ev_fs_at hj, ev_fs_at hj, ev_fs_len]
    by_cases e : k = j
    · subst e
      rw [if_pos rfl, if_pos hj, hv hj]
    · rw [if_neg e, ho j _ (fun q => e q.symm)]
  · have e1 : (ev_fs base ext w a ci)[j]? = none := List.getElem?_eq_none (by rw [ev_fs_len]; omega)
    have e2 : (ev_fs base ext w1 a ci)[j]? = none := List.getElem?_eq_none (by rw [ev_fs_len]; omega)
    rw [e1, e2]
    by_cases e : k = j
    · subst e
      rw [if_pos rfl, if_neg (by rw [ev_fs_len]; exact hj)]
    · rw [if_neg e]
/-! locals -/
def ev_EL (base : Nat) (ext : Nat → Nat) (L : Array Slot) (nL : Nat) (ls : ev_L) : Prop := ls.length = nL ∧ L.size = nL ∧ lv_wf L ∧ ∀ (i : Nat) (v : Value), ls[i]? = some (some v) → L[i]? = some (.val (ev_v base ext v))
def ev_prs (base : Nat) (ext : Nat → Nat) (ls : ev_L) : List (Nat × Value) := ls.zipIdx.filterMap (fun q => q.1.map (fun v => (q.2, ev_v base ext v)))
theorem ev_prs_mem {base : Nat} {ext : Nat → Nat} {ls : ev_L} {q : Nat × Value} : q ∈ ev_prs base ext ls ↔ ∃ v, ls[q.1]? = some (some v) ∧ q.2 = ev_v base ext v := by
  unfold ev_prs
  rw [List.mem_filterMap]
  constructor
  · rintro ⟨⟨o, i⟩, h1, h2⟩
    cases o with
    | none => cases h2
    | some v =>
      cases h2
      have h3 := List.mem_zipIdx_iff_getElem?.mp h1
      exact ⟨v, h3, rfl⟩
  · rintro ⟨v, h1, h2⟩
    refine ⟨(some v, q.1), List.mem_zipIdx_iff_getElem?.mpr h1, ?_⟩
    show some (q.1, ev_v base ext v) = some q
    rw [← h2]
theorem ev_EL_has {base : Nat} {ext : Nat → Nat} {L : Array Slot} {nL : Nat} {ls : ev_L} (h : ev_EL base ext L nL ls) : lv_has L nL (ev_prs base ext ls) := by
  refine ⟨h.2.1, h.2.2.1, fun q hq => ?_⟩
  obtain ⟨v, h1, h2⟩ := ev_prs_mem.mp hq
  rw [h2]
  exact h.2.2.2 _ _ h1
theorem ev_c1_of {ls : ev_L} {i j : Nat} {v : Value} (h : ev_c1 ls i = true) (hj : j + 1 = i) (hv : ls[j]? = some (some v)) : v.category = 1 := by
  subst hj
  unfold ev_c1 at h
  dsimp only at h
  rw [hv] at h
  exact eq_of_beq h
theorem ev_EL_st1 {base : Nat} {ext : Nat → Nat} {L : Array Slot} {nL i : Nat} {ls : ev_L} {v : Value} (h : ev_EL base ext L nL ls) (hi : i < ls.length) (hc : ev_c1 ls i = true) {L' : Array Slot}
    (h' : lv_has L' nL ((i, ev_v base ext v) :: (ev_prs base ext ls).filter (fun q => !(q.1 == i) && !(q.1 + 1 == i && q.2.category == 2)))) : ev_EL base ext L' nL (ev_sto ls i v) := by
  refine ⟨by unfold ev_sto; rw [List.length_set]; exact h.1, h'.1, h'.2.1, fun j u hj => ?_⟩
  unfold ev_sto at hj
  rw [List.getElem?_set] at hj
  by_cases e : i = j
  · subst e
    rw [if_pos rfl, if_pos hi] at hj
    cases hj
    exact h'.2.2 (i, ev_v base ext v) List.mem_cons_self
  · rw [if_neg e] at hj
    refine h'.2.2 (j, ev_v base ext u) (List.mem_cons_of_mem _ (List.mem_filter.mpr ⟨ev_prs_mem.mpr ⟨u, hj, rfl⟩, ?_⟩))
    have e1 : (j == i) = false := by rw [beq_eq_false_iff_ne]; exact fun q => e q.symm
    simp only [e1, Bool.not_false, Bool.true_and, ev_v_cat]
    by_cases e2 : j + 1 = i
    · rw [ev_c1_of hc e2 hj]
      simp
    · simp [e2]
theorem ev_EL_st2 {base : Nat} {ext : Nat → Nat} {L : Array Slot} {nL i : Nat} {ls : ev_L} {v : Value} (h : ev_EL base ext L nL ls) (hi : i + 1 < ls.length) (hc : ev_c1 ls i = true) {L' : Array Slot}
    (h' : lv_has L' nL ((i, ev_v base ext v) :: (ev_prs base ext ls).filter (fun q => !(q.1 == i) && (!(q.1 == i + 1) && !(q.1 + 1 == i && q.2.category == 2))))) : ev_EL base ext L' nL ((ev_sto ls i v).set (i + 1) none) := by
  refine ⟨by unfold ev_sto; rw [List.length_set, List.length_set]; exact h.1, h'.1, h'.2.1, fun j u hj => ?_⟩
  unfold ev_sto at hj
  rw [List.getElem?_set] at hj
  by_cases e0 : i + 1 = j
  · subst e0
    rw [if_pos rfl] at hj
    split at hj <;> cases hj
  rw [if_neg e0, List.getElem?_set] at hj
  by_cases e : i = j
  · subst e
    rw [if_pos rfl, if_pos (by omega)] at hj
    cases hj
    exact h'.2.2 (i, ev_v base ext v) List.mem_cons_self
  · rw [if_neg e] at hj
    refine h'.2.2 (j, ev_v base ext u) (List.mem_cons_of_mem _ (List.mem_filter.mpr ⟨ev_prs_mem.mpr ⟨u, hj, rfl⟩, ?_⟩))
    have e1 : (j == i) = false := by rw [beq_eq_false_iff_ne]; exact fun q => e q.symm
    have e3 : (j == i + 1) = false := by rw [beq_eq_false_iff_ne]; exact fun q => e0 q.symm
    simp only [e1, e3, Bool.not_false, Bool.true_and, ev_v_cat]
    by_cases e2 : j + 1 = i
    · rw [ev_c1_of hc e2 hj]
      simp
    · simp [e2]
/-- the locals at a method's entry, its arguments one slot each -/
theorem ev_lsl {vs : List Value} (h : ∀ v ∈ vs, v.category = 1) : lg_sl vs = vs.map Slot.val := by
  induction vs with
  | nil => rfl
  | cons v r ih =>
    unfold lg_sl at ih ⊢
    rw [List.flatMap_cons, ih (fun u hu => h u (List.mem_cons_of_mem _ hu)), if_neg (by rw [h v List.mem_cons_self]; decide)]
    rfl
theorem ev_EL_in {base : Nat} {ext : Nat → Nat} {n : Nat} {as : List Value} (h : ∀ v ∈ as, v.category = 1) (hn : as.length ≤ n) : ev_EL base ext ((lg_sl (as.map (ev_v base ext)) ++ List.replicate (n - (lg_sl (as.map (ev_v base ext))).length) Slot.unset).toArray) n (ev_in n as) := by
  have hc : ∀ v ∈ as.map (ev_v base ext), v.category = 1 := fun v hv => by
    obtain ⟨u, hu, rfl⟩ := List.mem_map.mp hv
    rw [ev_v_cat]; exact h u hu
  have hlen : (lg_sl (as.map (ev_v base ext))).length = as.length := by rw [ev_lsl hc, List.length_map, List.length_map]
  have h1 := lv_entry (as.map (ev_v base ext)) (n := n) (by rw [hlen]; exact hn)
  refine ⟨by unfold ev_in; rw [List.length_append, List.length_map, List.length_replicate]; omega, h1.1, h1.2.1, fun i v hv => ?_⟩
  rw [ev_lsl hc]
  unfold ev_in at hv
  have hi : i < as.length := by
    rcases Nat.lt_or_ge i as.length with q | q
    · exact q
    · rw [List.getElem?_append_right (by rw [List.length_map]; exact q)] at hv
      rw [List.getElem?_replicate] at hv
      split at hv <;> cases hv
  rw [List.getElem?_append_left (by rw [List.length_map]; exact hi), List.getElem?_map] at hv
  rw [List.getElem?_toArray, List.getElem?_append_left (by rw [List.length_map, List.length_map]; exact hi), List.getElem?_map, List.getElem?_map]
  cases ha : as[i]? with
  | none => rw [ha] at hv; cases hv
  | some u =>
    rw [ha] at hv
    cases hv
    rfl
