/-! what the premises say of the String constants: by wip/gen/zk.py -/
def zs_tm (q : Nat × Nat × String) : Term := .string (ev_own.getD q.1 "") q.2.1
def zs_vf (q : Nat × Nat × String) : Term := .field (zs_tm q) "java/lang/String" "value" "[B"
def zs_pw (q : Nat × Nat × String) (b : List Int32) : List Cond := [.exactly (zs_tm q) "java/lang/String", .eq (.field (zs_tm q) "java/lang/String" "coder" "B") (.int 0), .arrayOf (zs_vf q) .byte, .eq (.length (zs_vf q)) (.int (Int32.ofNat b.length))] ++ b.zipIdx.map (fun z => .eq (.elem (zs_vf q) (.int (Int32.ofNat z.2))) (.int z.1))
def zs_fl : List Cond := flatC (Jvm.Cond.and given_1 narrow_1)
set_option maxRecDepth 1000000 in
theorem zs_pw_eq : (ev_str.zip ev_sby).flatMap (fun z => zs_pw z.1 z.2) = ([70, 71, 72, 73, 74, 75, 76, 77, 78, 79, 80, 81, 82, 83, 84, 85, 86, 87, 88, 89, 90, 91, 92, 93, 94, 95, 96, 97, 98, 99, 100, 101, 102, 103, 104, 105, 106, 107, 108, 109, 110, 111, 112, 113, 114, 115, 116, 117, 118, 119, 120, 121, 122, 123, 124, 125, 126, 127, 128, 129, 130, 131, 132, 133, 134, 135, 136, 137, 138, 139, 140, 141, 142, 143, 144, 145, 146, 147, 148, 149, 150, 151, 152, 153, 154, 155, 156, 157, 158, 159, 160, 161, 162, 163, 164, 165, 166, 167, 168, 169, 170, 171, 172, 173, 174, 175, 176, 177, 178, 179, 180, 181, 182, 183, 184, 185, 186, 187, 188, 189, 190, 191, 192, 193, 194, 195, 196, 197, 198, 199, 200, 201, 202, 203, 204, 205, 206, 207, 208, 209, 210, 211, 212, 213, 214, 215, 216, 217, 218, 219, 220, 221, 222, 223, 224, 225, 226, 227, 228, 229, 230, 231, 232, 233, 234, 235, 236, 237, 238, 239, 240, 241, 242, 243, 244, 245, 246, 247, 248, 249, 250, 251, 252, 253, 254, 255, 256, 257, 258, 259, 260, 261, 262, 263, 264, 265, 266, 267, 268, 269, 270, 271, 272, 273, 274, 275, 276, 277, 278, 279, 280, 281, 282, 283, 284, 285, 286, 287, 288, 289, 290, 291, 292, 293, 294, 295, 296, 297, 298, 299, 300, 301, 302, 303, 304, 305, 306, 307, 308, 309, 310, 311, 312, 313, 314, 315, 316, 317, 318, 319, 320, 321, 322, 323, 324, 325, 326, 327, 328, 329, 330, 331, 332, 333, 334, 335, 336, 337, 338, 339, 340, 341, 342, 343, 344, 345, 346, 347, 348, 349, 350, 351, 352, 353, 354, 355, 356, 357, 358, 359, 360, 361, 362, 363, 364, 365, 366, 367, 368, 369, 370, 371, 372, 373, 374, 375, 376, 377, 378, 379, 380, 381, 382, 383, 384, 385, 386, 387, 388, 389, 390, 391, 392, 393, 394, 395, 396, 397, 398, 399, 400, 401, 402, 403, 404, 405, 406, 407, 408, 409, 410, 411, 412, 413, 414, 415, 416, 417, 418, 419, 420, 421, 422, 423, 424, 425, 426, 427, 428, 429, 430, 431, 432, 433, 434, 435, 436, 437, 438, 439, 440, 441, 442, 443, 444, 446, 447, 448, 449, 450, 451, 452, 453, 454, 455, 457, 458, 459, 460, 461, 462, 463, 464, 465, 466, 468, 469, 470, 471, 472, 473, 474, 476, 477, 478, 479, 480, 481, 482, 483, 485, 486, 487, 488, 489, 490, 491, 493, 494, 495, 496, 497, 498, 499, 500, 502, 503, 504, 505, 506, 507, 508, 509, 511, 512, 513, 514, 515, 516, 517, 518, 520, 521, 522, 523, 524, 525, 526, 527] : List Nat).filterMap (fun i => zs_fl[i]?) := by decide +kernel
set_option maxRecDepth 1000000 in
theorem zs_st_eq : ([.eq (.static "java/lang/String" "COMPACT_STRINGS" "Z") (.int 1), .isRef (.static zs_pc "SIOOBE_FORMATTER" zs_fd)] : List Cond) = ([6, 7] : List Nat).filterMap (fun i => zs_fl[i]?) := by decide +kernel
theorem zs_fm {ws : List Cond} {l : List Nat} (h : ws = l.filterMap (fun i => zs_fl[i]?)) : ∀ w ∈ ws, w ∈ zs_fl := fun w hw => by
  rw [h] at hw
  obtain ⟨i_, -, hi_⟩ := List.mem_filterMap.mp hw
  exact List.mem_of_getElem? hi_
theorem zs_pw_in {k : Nat} {q : Nat × Nat × String} (hq : ev_str[k]? = some q) : ∀ w ∈ zs_pw q (ev_sby.getD k []), w ∈ zs_fl := by
  intro w hw
  have hl_ : ev_str.length = 34 ∧ ev_sby.length = 34 := by decide +kernel
  have hk_ : k < 34 := by rw [← hl_.1]; exact (List.getElem?_eq_some_iff.mp hq).1
  have hb_ : ev_sby[k]? = some (ev_sby.getD k []) := by
    rw [List.getD_eq_getElem?_getD, List.getElem?_eq_getElem (by rw [hl_.2]; exact hk_)]
    rfl
  refine zs_fm zs_pw_eq w (List.mem_flatMap.mpr ⟨(q, ev_sby.getD k []), List.mem_of_getElem? (i := k) ?_, hw⟩)
  rw [List.getElem?_zip_eq_some]
  exact ⟨hq, hb_⟩
set_option maxRecDepth 100000 in
theorem zs_la : Cond.laysStatic "java/lang/String" "COMPACT_STRINGS" "Z" ∈ lw_tbl ∧ Cond.laysStatic zs_pc "SIOOBE_FORMATTER" zs_fd ∈ lw_tbl ∧ Cond.initialized "java/lang/String" ∈ lw_tbl ∧ Cond.initialized zs_pc ∈ lw_tbl := by decide +kernel
theorem zs_get {args : Array Value} {s : State} (hfl : ∀ c ∈ zs_fl, c.before args s = true) (hts : ∀ w ∈ lw_tbl, w.before args s = true) {A : Nat → Prop} (hA : ∀ a : Nat, a < s.heap.size → ¬ A a) {k : Nat} {q : Nat × Nat × String} (hq : ev_str[k]? = some q) : ∃ a : Nat, (zs_tm q).eval args s none [] s = some (.ref a) ∧ zs_1 (ev_sby.getD k []) a A s s.heap := by
  have hk_ : k < 34 := by
    have hl_ : ev_str.length = 34 := by decide +kernel
    rw [← hl_]; exact (List.getElem?_eq_some_iff.mp hq).1
  have hp_ : ∀ w ∈ zs_pw q (ev_sby.getD k []), w.before args s = true := fun w hw => hfl w (zs_pw_in hq w hw)
  have hN_ : (ev_sby.getD k []).length < 2 ^ 31 := by
    have h9_ := (zs_tab_at hk_).2.2.1
    omega
  obtain ⟨a, c, cA, kA, q1, q2, q3, q4, q5, q6, -⟩ := Cond.exactly_spec (args := args) (first := s) (o := none) (s := s) (idx := []) (t := zs_tm q) (cls := "java/lang/String") (hp_ _ (List.mem_append_left _ (List.mem_of_getElem? (i := 0) rfl)))
  obtain ⟨t, ht, hT⟩ := va_Tof (f := fun j => .int ((ev_sby.getD k []).getD j 0)) (A := A) hN_ (hp_ (.arrayOf (zs_vf q) .byte) (List.mem_append_left _ (List.mem_of_getElem? (i := 2) rfl))) (va_eqt (hp_ (.eq (.length (zs_vf q)) (.int (Int32.ofNat (ev_sby.getD k []).length))) (List.mem_append_left _ (List.mem_of_getElem? (i := 3) rfl)))) (fun j hj => va_eqt (hp_ _ (List.mem_append_right _ (List.mem_map.mpr ⟨((ev_sby.getD k []).getD j 0, j), by
      rw [List.mem_zipIdx_iff_getElem?]
      generalize ev_sby.getD k [] = l9_ at hj ⊢
      rw [List.getD_eq_getElem?_getD, List.getElem?_eq_getElem hj]
      rfl, rfl⟩)))) hA
  have hst_ : ∀ w ∈ ([.eq (.static "java/lang/String" "COMPACT_STRINGS" "Z") (.int 1), .isRef (.static zs_pc "SIOOBE_FORMATTER" zs_fd)] : List Cond), w.before args s = true := fun w hw => hfl w (zs_fm zs_st_eq w hw)
  exact ⟨a, q1, ⟨cA, q3, q5, by rw [q6]; exact q2, hA a (Array.getElem?_eq_some_iff.mp q3).1⟩, vk_OFof q1 (va_eqt (hp_ (.eq (.field (zs_tm q) "java/lang/String" "coder" "B") (.int 0)) (List.mem_append_left _ (List.mem_of_getElem? (i := 1) rfl)))) hA, ⟨t, vk_OFof q1 ht hA, hT⟩,
    va_Zof (hts _ zs_la.1) (hts _ zs_la.2.2.1) (va_eqt (hst_ _ (List.mem_of_getElem? (i := 0) rfl))) hA, va_Zqof (hts _ zs_la.2.1) (hts _ zs_la.2.2.2) (hst_ _ (List.mem_of_getElem? (i := 1) rfl)) hA⟩
/-! the law's start -/
/-- the first world: the script alone -/
def ev_w0 (L : Nat) (xs : Nat → Int32) : ev_W := (0, 0, 0, true, fun _ => 0, fun a => if a = ev_S then L else 0, fun a => if a = ev_S then xs else fun _ => 0, fun _ _ => none, fun _ _ => 0, fun _ _ => 0)
set_option maxRecDepth 100000 in
theorem ev_nc_in : (List.range 3).all (fun i => (List.range 3).all (fun k => decide (i = k) || decide (Cond.not (Cond.castable (ev_ex i) (ev_ex k)) ∈ flatC (Jvm.Cond.and given_1 narrow_1)))) = true := by decide +kernel
set_option maxRecDepth 100000 in
theorem ev_st_in : decide (Cond.isRef (.static Bundle.tN "UNASSIGNED_STACK" Bundle.steD) ∈ flatC (Jvm.Cond.and given_1 narrow_1)) && decide (Cond.isRef (.static Bundle.tN "SUPPRESSED_SENTINEL" Bundle.listD) ∈ flatC (Jvm.Cond.and given_1 narrow_1)) && decide (Cond.laysStatic Bundle.tN "UNASSIGNED_STACK" Bundle.steD ∈ lw_tbl) && decide (Cond.laysStatic Bundle.tN "SUPPRESSED_SENTINEL" Bundle.listD ∈ lw_tbl) && decide (Cond.initialized Bundle.tN ∈ lw_tbl) = true := by decide +kernel
theorem ev_arr_of {ty : FieldType} {args : Array Value} {s : State} (hp : match ty with | .object _ => False | _ => True) (h : (Cond.arrayClass ty).before args s = true) : ∃ cA, ArrOfT s cA ty ∧ va_RA s cA ty := by
  obtain ⟨c, k, comp, h1, h2, h3⟩ := Cond.arrayClass_spec h
  refine ⟨c, fun n z => ⟨fun k h => (by cases h), k, h2, comp, h3⟩, ?_⟩
  cases ty with
  | object C => exact hp.elim
  | _ => exact h1
theorem ev_arq_of {C : String} {args : Array Value} {s : State} (h : (Cond.arrayOver (.object C)).before args s = true) : ∃ cA, ArrOfT s cA (.object C) ∧ va_RA s cA (.object C) := by
  obtain ⟨comp, c, k, h1, h2, h3, h4, h5⟩ := Cond.arrayOver_spec h
  exact ⟨c, fun n z => ⟨fun k h => (by cases h), k, h3, comp, h4⟩, k, comp, h3, h4, h1, h5⟩
set_option maxHeartbeats 4000000 in
set_option maxRecDepth 100000 in
theorem ev_start {p : Program} {e : Env} {s : State} {m : MethodId} {below : List Frame} {meth : Method} {c : Code} (l : Launch) (hflags : l.flags = flags0) {b L : Nat} {xs : Nat → Int32} (C0 : lw_At p s m meth c b L xs) {w1 : ev_W} (hsnd : ∀ (D : va_G) (cy : Nat → ClassId) (base : Nat) (ext : Nat → Nat), l.stackTraces = false → ev_Snd D cy base ext L xs l ev_LAW 0 (ev_in 9 [.ref ev_S]) [] (ev_w0 L xs) (.inl (some (.int 1))) w1) (hcc : w_c w1 ≤ room_1.cells) (hzz : w_z w1 ≤ room_1.slots) :
    W p l e room_1 s m #[Value.ref b] below meth c s.heap [] 0 0 (lw_Z below #[Value.ref b] s) (entryFrame m ([Value.ref b] : List Value).toArray 9) := by
  obtain ⟨hx, hb, hr, hml, hown, hts, hX, hbl, hlocks, hgv⟩ := id C0
  have hl : l.stackTraces = false := by
    unfold Launch.stackTraces
    rw [hflags]
    decide +kernel
  have hfl := flat_of_before _ hgv
  have htall : ∀ w ∈ ev_all, w.before #[Value.ref b] s = true := fun w hw => hts w (List.mem_filter.mp hw).1
  have hKn : ∀ k : Nat, ∃ q : ClassId × (Nat → Nat), ∀ r : vw_C, vwCl[k]? = some r → u_Kn s r.1 r.2.1 r.2.2 q.1 q.2 := by
    intro k
    cases hk : vwCl[k]? with
    | none => exact ⟨(0, fun _ => 0), fun r hr9 => by cases hr9⟩
    | some r =>
      obtain ⟨ty, t1, t2, t3, t4, t5, t6⟩ := ev_cls k r hk
      have hins : Cond.instantiable r.1 r.2.2 ∈ ev_all := ev_all_in ev_insw_in (List.mem_flatMap.mpr ⟨_, List.mem_of_getElem? hk, List.mem_cons_self⟩)
      obtain ⟨cC, iS, hh⟩ := u_known htall t3 (htall _ hins)
      exact ⟨(cC, iS), fun r9 hr9 => by cases hr9; exact hh⟩
  obtain ⟨fK, hfK⟩ := Classical.axiomOfChoice hKn
  have harr : ∀ w ∈ ev_arrw, w.before #[Value.ref b] s = true := fun w hw => htall _ (ev_all_in ev_arrw_in hw)
  obtain ⟨cB, hB⟩ := ev_arr_of (ty := .byte) trivial (harr _ (List.mem_of_getElem? (i := 0) rfl))
  obtain ⟨cI, hI⟩ := ev_arr_of (ty := .int) trivial (harr _ (List.mem_of_getElem? (i := 1) rfl))
  obtain ⟨cZ, hZ⟩ := ev_arr_of (ty := .boolean) trivial (harr _ (List.mem_of_getElem? (i := 2) rfl))
  obtain ⟨cJ, hJ⟩ := ev_arr_of (ty := .long) trivial (harr _ (List.mem_of_getElem? (i := 3) rfl))
  obtain ⟨cD, hD⟩ := ev_arr_of (ty := .double) trivial (harr _ (List.mem_of_getElem? (i := 4) rfl))
  obtain ⟨cF, hF⟩ := ev_arq_of (C := RX0) (hts _ ev_ao_Flag)
  obtain ⟨cS, hS⟩ := ev_arq_of (C := RX5) (hts _ ev_ao_State)
  obtain ⟨cy, c9, c10, c11, c12, c13, c14, c15⟩ : ∃ cy : Nat → ClassId, cy 9 = cB ∧ cy 10 = cI ∧ cy 11 = cZ ∧ cy 12 = cF ∧ cy 13 = cS ∧ cy 14 = cJ ∧ cy 15 = cD := ⟨fun k => if k = 9 then cB else if k = 10 then cI else if k = 11 then cZ else if k = 12 then cF else if k = 13 then cS else if k = 14 then cJ else cD, rfl, rfl, rfl, rfl, rfl, rfl, rfl⟩
  have hK : va_K (fun k => (fK k).1, fun k => (fK k).2) vwCl (ev_tys cy) s := by
    refine ⟨fun k q hq => hfK k q hq, fun k q hq => ?_⟩
    have hk : k < 7 := (List.getElem?_eq_some_iff.mp hq).1
    match k, hk with
    | 0, _ => cases hq; rw [c9]; exact hB
    | 1, _ => cases hq; rw [c10]; exact hI
    | 2, _ => cases hq; rw [c11]; exact hZ
    | 3, _ => cases hq; rw [c12]; exact hF
    | 4, _ => cases hq; rw [c13]; exact hS
    | 5, _ => cases hq; rw [c14]; exact hJ
    | 6, _ => cases hq; rw [c15]; exact hD
  have hA : ∀ a : Nat, a < s.heap.size → ¬ ev_A s.heap.size a := fun a h1 h2 => absurd (show s.heap.size ≤ a from h2) (by omega)
  have hstr : ∀ k : Nat, ∃ a : Nat, ∀ q : Nat × Nat × String, ev_str[k]? = some q → vk_R (ev_own.getD q.1 "") q.2.1 q.2.2 a s ∧ zs_1 (ev_sby.getD k []) a (ev_A s.heap.size) s s.heap := by
    intro k
    cases hk : ev_str[k]? with
    | none => exact ⟨0, fun r hr9 => by cases hr9⟩
    | some q =>
      have hm : q ∈ ev_str := List.mem_of_getElem? hk
      have h1 := hts _ (ev_str_in q hm)
      obtain ⟨a, q1, q2⟩ := zs_get hfl hts hA hk
      exact ⟨a, fun q9 hq9 => by cases hq9; exact ⟨vk_R.of h1 q1, q2⟩⟩
  obtain ⟨ad, had⟩ := Classical.axiomOfChoice hstr
  obtain ⟨ext, hext⟩ : ∃ ext : Nat → Nat, ext = fun k => if k = ev_S then b else ad (k - (ev_S + 1)) := ⟨_, rfl⟩
  have hext1 : ext ev_S = b := by rw [hext]; exact if_pos rfl
  have hext2 : ∀ k, ext (ev_S + 1 + k) = ad k := fun k => by
    rw [hext]
    show (if ev_S + 1 + k = ev_S then b else ad (ev_S + 1 + k - (ev_S + 1))) = ad k
    rw [if_neg (by omega), Nat.add_sub_cancel_left]
  have hst := ev_st_in
  simp only [Bool.and_eq_true, decide_eq_true_eq] at hst
  obtain ⟨⟨⟨⟨st1, st2⟩, st3⟩, st4⟩, st5⟩ := hst
  have hF9 : ev_F s.heap.size ext s s.heap := by
    refine ⟨fun w hw => ?_, fun i k hi hk hne => ?_, va_AO.of (hts _ ev_ao_Flag), va_AO.of (hts _ ev_ao_State), va_Nw.of rfl (hts _ ev_nsw_in), fun k q hq => ?_, vx_Zqof (hts _ st3) (hts _ st5) (hfl _ st1) hA, vx_Zqof (hts _ st4) (hts _ st5) (hfl _ st2) hA⟩
    · have h9 := hts _ (ev_ngw_in w hw)
      unfold ev_ngw at hw
      simp only [List.mem_cons, List.not_mem_nil, or_false] at hw
      rcases hw with rfl | rfl | rfl | rfl | rfl | rfl <;> exact va_Nw.of rfl h9
    · have h9 := List.all_eq_true.mp (List.all_eq_true.mp ev_nc_in i (List.mem_range.mpr hi)) k (List.mem_range.mpr hk)
      simp only [Bool.or_eq_true, decide_eq_true_eq] at h9
      exact va_Nc.of (hfl _ (h9.resolve_left hne))
    · rw [hext2]
      exact had k q hq
  have hM : ev_M (fun k => (fK k).1, fun k => (fK k).2) cy s.heap.size ext L xs (ev_w0 L xs) s.heap := by
    refine ⟨fun k q hq => ?_, by show 0 ≤ 1000; omega, by show s.heap.size + 0 ≤ s.heap.size; omega, fun _ => rfl, (show (if ev_S = ev_S then L else 0) = L from if_pos rfl), (show (if ev_S = ev_S then xs else fun _ => 0) = xs from if_pos rfl)⟩
    have h9 := (ev_ws_of hq).1
    exact absurd h9 (Nat.not_lt_zero k)
  have hC : ev_Cx (fun k => (fK k).1, fun k => (fK k).2) cy s.heap.size ext L xs l ev_LAW ev_lawME p room_1 s m #[Value.ref b] meth c :=
    ⟨hx, hb, hr, hml, hown, htall, hlocks, fun h9 => absurd rfl h9, hK, hF9, Nat.le_refl _, rfl, fun h9 => absurd rfl h9, by decide, by decide, hl, fun _ => by rw [hext1]; exact ⟨hX, hbl, hbl⟩⟩
  have hs := hsnd (fun k => (fK k).1, fun k => (fK k).2) cy s.heap.size ext hl
  have hρ : ev_ρ s.heap.size ext ev_S = b := by
    unfold ev_ρ
    rw [if_neg (Nat.lt_irrefl _), hext1]
  have hEL := ev_EL_in (base := s.heap.size) (ext := ext) (n := 9) (as := [.ref ev_S]) (fun v hv => by rw [List.mem_singleton.mp hv]; rfl) (by decide)
  have e1 : ([Value.ref ev_S] : List Value).map (ev_v s.heap.size ext) = [Value.ref b] := by
    show [Value.ref (ev_ρ s.heap.size ext ev_S)] = _
    rw [hρ]
  rw [e1] at hEL
  rw [lg_entry_eq]
  refine hs.2.2 ev_lawME rfl p e room_1 s m _ below meth c hC s.heap [] 0 0 _ _ (w_c w1) (w_z w1) hM va_S.rf hEL (by show 0 + w_c w1 = w_c w1 + 0; omega) (by show 0 + w_z w1 = w_z w1 + 0; omega) hcc hzz ⟨fun v H1 locs1 L1 pc1 ho hM1 hS1 hrok hrat => ?_, fun E ho => by cases ho⟩
  cases ho
  refine W.widen hcc hzz ?_
  refine va_forget (fun q hq => hS1.2.2 q hq) ?_
  exact lw_ret (Drawn.sameBut.refl s.drawn lw_cs) hx hb hr hlocks hrat
