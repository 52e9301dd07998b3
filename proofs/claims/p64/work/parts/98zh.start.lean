/-! what the premises say of the String constants: by wip/gen/p64/j98zg.py -/
def zs_tm (q : Nat × Nat × String) : Term := .string (ev_own.getD q.1 "") q.2.1
def zs_vf (q : Nat × Nat × String) : Term := .field (zs_tm q) "java/lang/String" "value" "[B"
def zs_pw (q : Nat × Nat × String) (b : List Int32) : List Cond := [.exactly (zs_tm q) "java/lang/String", .eq (.field (zs_tm q) "java/lang/String" "coder" "B") (.int 0), .arrayOf (zs_vf q) .byte, .eq (.length (zs_vf q)) (.int (Int32.ofNat b.length))] ++ b.zipIdx.map (fun z => .eq (.elem (zs_vf q) (.int (Int32.ofNat z.2))) (.int z.1))
def zs_fl : List Cond := flatC (Jvm.Cond.and given_1 narrow_1)
set_option maxRecDepth 1000000 in
theorem zs_pw_eq : (ev_str.zip ev_sby).flatMap (fun z => zs_pw z.1 z.2) = ([263, 264, 265, 266, 267, 268, 269, 270, 271, 272, 273, 274, 275, 276, 277, 278, 279, 280, 281, 282, 283, 284, 285, 286, 287, 288, 289, 290, 291, 292, 293, 294, 295, 296, 297, 298, 299, 300, 301, 302, 303, 304, 305, 306, 307, 308, 309, 310, 311, 312, 313, 314, 315, 316, 317, 318, 319, 320, 321, 322, 323, 324, 325, 326, 327, 328, 329, 330, 331, 332, 333, 334, 335, 336, 337, 338, 339, 340, 341, 342, 343, 344, 345, 346, 347, 348, 349, 350, 351, 352, 353, 354, 355, 356, 357, 358, 359, 360, 361, 362, 363, 364, 365, 366, 367, 368, 369, 370, 371, 372, 373, 374, 375, 376, 377, 378, 379, 380, 381, 382, 383, 384, 385, 386, 387, 388, 389, 390, 391, 392, 393, 394, 395, 396, 397, 398, 399, 400, 401, 402, 403, 404, 405, 406, 407, 408, 409, 410, 411, 412, 413, 414, 415, 416, 417, 418, 419, 420, 421, 422, 423, 424, 425, 426, 427, 428, 429, 430, 431, 432, 433, 434, 435, 436, 437, 438, 439, 440, 441, 442, 443, 444, 445, 446, 447, 448, 449, 450, 451, 452, 453, 454, 455, 456, 457, 458, 459, 460, 461, 462, 463, 464, 465, 466, 467, 468, 469, 470, 471, 472, 473, 474, 475, 476, 477, 478, 479, 480, 481, 482, 483, 484, 485, 486, 487, 488, 489, 490, 491, 492, 493, 494, 495, 496, 497, 498, 499, 500, 501, 502, 503, 504, 505, 506, 507, 508, 509, 510, 511, 512, 513, 514, 515, 516, 517, 518, 519, 520, 521, 522, 523, 524, 525, 526, 527, 528, 529, 530, 531, 532, 533, 534, 535, 536, 537, 538, 539, 540, 541, 542, 543, 544, 545, 546, 547, 548, 549, 550, 551, 552, 553, 554, 555, 556, 557, 558, 559, 560, 561, 562, 563, 564, 565, 566, 567, 568, 569, 570, 571, 572, 573, 574, 575, 576, 577, 578, 579, 580, 581, 582, 583, 584, 585, 586, 587, 588, 589, 590, 591, 592, 593, 594, 595, 596, 597, 598, 599, 600, 601, 602, 603, 604, 605, 606, 607, 608, 609, 610, 611, 612, 613, 614, 615, 616, 617, 618, 619, 620, 621, 622, 623, 624, 625, 626, 627, 628, 629, 630, 631, 632, 633, 634, 635, 636, 637, 638, 639, 640, 641, 642, 643, 644, 645, 646, 647, 648, 649, 650, 651] : List Nat).filterMap (fun i => zs_fl[i]?) := by decide +kernel
set_option maxRecDepth 1000000 in
theorem zs_st_eq : ([.eq (.static "java/lang/String" "COMPACT_STRINGS" "Z") (.int 1), .isRef (.static zs_pc "SIOOBE_FORMATTER" zs_fd)] : List Cond) = ([6, 7] : List Nat).filterMap (fun i => zs_fl[i]?) := by decide +kernel
theorem zs_fm {ws : List Cond} {l : List Nat} (h : ws = l.filterMap (fun i => zs_fl[i]?)) : ∀ w ∈ ws, w ∈ zs_fl := fun w hw => by
  rw [h] at hw
  obtain ⟨i_, -, hi_⟩ := List.mem_filterMap.mp hw
  exact List.mem_of_getElem? hi_
theorem zs_pw_in {k : Nat} {q : Nat × Nat × String} (hq : ev_str[k]? = some q) : ∀ w ∈ zs_pw q (ev_sby.getD k []), w ∈ zs_fl := by
  intro w hw
  have hl_ : ev_str.length = 29 ∧ ev_sby.length = 29 := by decide +kernel
  have hk_ : k < 29 := by rw [← hl_.1]; exact (List.getElem?_eq_some_iff.mp hq).1
  have hb_ : ev_sby[k]? = some (ev_sby.getD k []) := by
    rw [List.getD_eq_getElem?_getD, List.getElem?_eq_getElem (by rw [hl_.2]; exact hk_)]
    rfl
  refine zs_fm zs_pw_eq w (List.mem_flatMap.mpr ⟨(q, ev_sby.getD k []), List.mem_of_getElem? (i := k) ?_, hw⟩)
  rw [List.getElem?_zip_eq_some]
  exact ⟨hq, hb_⟩
set_option maxRecDepth 100000 in
theorem zs_la : Cond.laysStatic "java/lang/String" "COMPACT_STRINGS" "Z" ∈ lw_tbl ∧ Cond.laysStatic zs_pc "SIOOBE_FORMATTER" zs_fd ∈ lw_tbl ∧ Cond.initialized "java/lang/String" ∈ lw_tbl ∧ Cond.initialized zs_pc ∈ lw_tbl := by decide +kernel
theorem zs_get {args : Array Value} {s : State} (hfl : ∀ c ∈ zs_fl, c.before args s = true) (hts : ∀ w ∈ lw_tbl, w.before args s = true) {A : Nat → Prop} (hA : ∀ a : Nat, a < s.heap.size → ¬ A a) {k : Nat} {q : Nat × Nat × String} (hq : ev_str[k]? = some q) : ∃ a : Nat, (zs_tm q).eval args s none [] s = some (.ref a) ∧ zs_1 (ev_sby.getD k []) a A s s.heap := by
  have hk_ : k < 29 := by
    have hl_ : ev_str.length = 29 := by decide +kernel
    rw [← hl_]; exact (List.getElem?_eq_some_iff.mp hq).1
  have hp_ : ∀ w ∈ zs_pw q (ev_sby.getD k []), w.before args s = true := fun w hw => hfl w (zs_pw_in hq w hw)
  have hN_ : (ev_sby.getD k []).length < 2 ^ 31 := by
    have h9_ := (zs_tab_at hk_).2.2.1
    omega
  obtain ⟨a, c, cA, kA, q1, q2, q3, q4, q5, q6, -⟩ := Cond.exactly_spec (args := args) (first := s) (o := none) (s := s) (idx := []) (t := zs_tm q) (cls := "java/lang/String") (hp_ _ (List.mem_append_left _ (List.mem_of_getElem? (i := 0) rfl)))
  obtain ⟨t, ht, hT⟩ := va_Tof (f := fun j => .int ((ev_sby.getD k []).getD j 0)) (A := A) hN_ (hp_ (.arrayOf (zs_vf q) .byte) (List.mem_append_left _ (List.mem_of_getElem? (i := 2) rfl))) (va_eqt (hp_ (.eq (.length (zs_vf q)) (.int (Int32.ofNat (ev_sby.getD k []).length))) (List.mem_append_left _ (List.mem_of_getElem? (i := 3) rfl)))) (fun j hj => va_eqt (hp_ _ (List.mem_append_right _ (List.mem_map.mpr ⟨((ev_sby.getD k []).getD j 0, j), by
      rw [List.mem_zipIdx_iff_getElem?]
      generalize ev_sby.getD k [] = l9_ at hj ⊢
      rw [List.getD_eq_getElem?_getD, List.getElem?_eq_getElem hj]
      rfl, rfl⟩)))) hA
  have hst_ : ∀ w ∈ ([.eq (.static "java/lang/String" "COMPACT_STRINGS" "Z") (.int 1), .isRef (.static zs_pc "SIOOBE_FORMATTER" zs_fd)] : List Cond), w.before args s = true := fun w hw => hfl w (zs_fm zs_st_eq w hw)
  exact ⟨a, q1, ⟨cA, q3, q5, by rw [q6]; exact q2, hA a (Array.getElem?_eq_some_iff.mp q3).1⟩, vk_OFof q1 (va_eqt (hp_ (.eq (.field (zs_tm q) "java/lang/String" "coder" "B") (.int 0)) (List.mem_append_left _ (List.mem_of_getElem? (i := 1) rfl)))) hA, ⟨t, vk_OFof q1 ht hA, hT⟩,
    va_Zof (hts _ zs_la.1) (hts _ zs_la.2.2.1) (va_eqt (hst_ _ (List.mem_of_getElem? (i := 0) rfl))) hA, va_Zqof (hts _ zs_la.2.1) (hts _ zs_la.2.2.2) (hst_ _ (List.mem_of_getElem? (i := 1) rfl)) hA⟩
/-! the law's start -/
set_option maxRecDepth 100000 in
theorem ev_st_in : decide (Cond.isRef (.static Bundle.tN "UNASSIGNED_STACK" Bundle.steD) ∈ flatC (Jvm.Cond.and given_1 narrow_1)) && decide (Cond.isRef (.static Bundle.tN "SUPPRESSED_SENTINEL" Bundle.listD) ∈ flatC (Jvm.Cond.and given_1 narrow_1)) && decide (Cond.laysStatic Bundle.tN "UNASSIGNED_STACK" Bundle.steD ∈ lw_tbl) && decide (Cond.laysStatic Bundle.tN "SUPPRESSED_SENTINEL" Bundle.listD ∈ lw_tbl) && decide (Cond.initialized Bundle.tN ∈ lw_tbl) = true := by decide +kernel
theorem ev_arr_of {ty : FieldType} {args : Array Value} {s : State} (hp : match ty with | .object _ => False | _ => True) (h : (Cond.arrayClass ty).before args s = true) : ∃ cA, ArrOfT s cA ty ∧ va_RA s cA ty := by
  obtain ⟨c, k, comp, h1, h2, h3⟩ := Cond.arrayClass_spec h
  refine ⟨c, fun n z => ⟨fun k h => (by cases h), k, h2, comp, h3⟩, ?_⟩
  cases ty with
  | object C => exact hp.elim
  | _ => exact h1
theorem ev_arq_of {C : String} {args : Array Value} {s : State} (h : (Cond.arrayOver (.object C)).before args s = true) : ∃ cA, ArrOfT s cA (.object C) ∧ va_RA s cA (.object C) := by
  obtain ⟨comp, c, k, h1, h2, h3, h4, h5⟩ := Cond.arrayOver_spec h
  exact ⟨c, fun n z => ⟨fun k h => (by cases h), k, h3, comp, h4⟩, k, comp, h3, h4, h1, h5⟩
def zt_st (C n d : String) : Term := .static C n d
abbrev zt_tA : Term := .static "java/util/ArrayList" "DEFAULTCAPACITY_EMPTY_ELEMENTDATA" "[Ljava/lang/Object;"
abbrev zt_tO : Term := .static "java/lang/Integer" "DigitOnes" "[B"
abbrev zt_tT : Term := .static "java/lang/Integer" "DigitTens" "[B"
abbrev zt_tU : Term := .static "jdk/internal/util/ArraysSupport" "U" "Ljdk/internal/misc/Unsafe;"
set_option maxRecDepth 100000 in
theorem zt_la : Cond.laysStatic "java/util/ArrayList" "DEFAULTCAPACITY_EMPTY_ELEMENTDATA" "[Ljava/lang/Object;" ∈ lw_tbl ∧ Cond.laysStatic "java/lang/Integer" "DigitOnes" "[B" ∈ lw_tbl ∧ Cond.laysStatic "java/lang/Integer" "DigitTens" "[B" ∈ lw_tbl ∧ Cond.laysStatic "jdk/internal/util/ArraysSupport" "U" "Ljdk/internal/misc/Unsafe;" ∈ lw_tbl ∧ Cond.laysStatic "jdk/internal/misc/Unsafe" "ARRAY_LONG_BASE_OFFSET" "I" ∈ lw_tbl ∧ Cond.laysStatic "jdk/internal/util/ArraysSupport" "LOG2_ARRAY_LONG_INDEX_SCALE" "I" ∈ lw_tbl ∧ Cond.laysStatic "jdk/internal/util/ArraysSupport" "LOG2_ARRAY_INT_INDEX_SCALE" "I" ∈ lw_tbl := by decide +kernel
set_option maxRecDepth 100000 in
theorem zt_ini : Cond.initialized "java/util/ArrayList" ∈ lw_tbl ∧ Cond.initialized "java/lang/Integer" ∈ lw_tbl ∧ Cond.initialized "jdk/internal/util/ArraysSupport" ∈ lw_tbl ∧ Cond.initialized "jdk/internal/misc/Unsafe" ∈ lw_tbl := by decide +kernel
set_option maxRecDepth 100000 in
theorem zt_fl : Cond.arrayOf zt_tA (.object "java/lang/Object") ∈ zs_fl ∧ Cond.eq (.length zt_tA) (.int (Int32.ofNat 0)) ∈ zs_fl ∧ Cond.arrayOf zt_tO .byte ∈ zs_fl ∧ Cond.eq (.length zt_tO) (.int (Int32.ofNat 100)) ∈ zs_fl ∧ Cond.arrayOf zt_tT .byte ∈ zs_fl ∧ Cond.eq (.length zt_tT) (.int (Int32.ofNat 100)) ∈ zs_fl ∧ Cond.exactly zt_tU "jdk/internal/misc/Unsafe" ∈ zs_fl ∧ Cond.eq (.static "jdk/internal/misc/Unsafe" "ARRAY_LONG_BASE_OFFSET" "I") (.int 16) ∈ zs_fl ∧ Cond.eq (.static "jdk/internal/util/ArraysSupport" "LOG2_ARRAY_LONG_INDEX_SCALE" "I") (.int 3) ∈ zs_fl ∧ Cond.eq (.static "jdk/internal/util/ArraysSupport" "LOG2_ARRAY_INT_INDEX_SCALE" "I") (.int 2) ∈ zs_fl := by decide +kernel
set_option maxRecDepth 1000000 in
theorem zt_dO : (List.range 100).all (fun j => decide (zs_fl[18 + j]? = some (Cond.eq (.elem zt_tO (.int (Int32.ofNat j))) (.int (Int32.ofNat (48 + j % 10)))))) = true := by decide +kernel
set_option maxRecDepth 1000000 in
theorem zt_dT : (List.range 100).all (fun j => decide (zs_fl[121 + j]? = some (Cond.eq (.elem zt_tT (.int (Int32.ofNat j))) (.int (Int32.ofNat (48 + j / 10)))))) = true := by decide +kernel
abbrev zt_mL : MethodName := ⟨"java/lang/CharSequence", "length", "()I"⟩
abbrev zt_mC : MethodName := ⟨"java/lang/CharSequence", "charAt", "(I)C"⟩
abbrev zt_nL : MethodName := ⟨"java/lang/String", "length", "()I"⟩
abbrev zt_nC : MethodName := ⟨"java/lang/String", "charAt", "(I)C"⟩
set_option maxRecDepth 100000 in
theorem zt_cs : Cond.castable "FlagLaundryLaw$Flag" "java/lang/Object" ∈ lw_tbl ∧ Cond.castable "[B" "java/lang/Cloneable" ∈ lw_tbl ∧ Cond.castable "java/lang/String" "java/lang/CharSequence" ∈ lw_tbl := by decide +kernel
set_option maxRecDepth 100000 in
theorem zt_fL : Cond.declares zt_mL ∈ lw_tbl ∧ Cond.interfaceMethod "java/lang/CharSequence" "java/lang/CharSequence" "length" "()I" ∈ lw_tbl ∧ Cond.publicMethod zt_nL ∈ lw_tbl ∧ Cond.unhidden "java/lang/String" "length" "()I" ∈ lw_tbl := by decide +kernel
set_option maxRecDepth 100000 in
theorem zt_fC : Cond.declares zt_mC ∈ lw_tbl ∧ Cond.interfaceMethod "java/lang/CharSequence" "java/lang/CharSequence" "charAt" "(I)C" ∈ lw_tbl ∧ Cond.publicMethod zt_nC ∈ lw_tbl ∧ Cond.unhidden "java/lang/String" "charAt" "(I)C" ∈ lw_tbl := by decide +kernel
set_option maxRecDepth 100000 in
theorem zt_prv : ∀ y ∈ zt_pr, Cond.privateMethod y ∈ lw_tbl := by decide +kernel
set_option maxRecDepth 100000 in
theorem ev_fnw_on : ev_fnw.all (fun w => w.onTables) = true := by decide +kernel
theorem ev_arv_of {t : FieldType} {args : Array Value} {s : State} (h : (Cond.arrayOver (.array t)).before args s = true) : ∃ cA, ArrOfT s cA (.array t) ∧ va_RA s cA (.array t) := by
  obtain ⟨comp, c, k, h1, h2, h3, h4, h5⟩ := arrayOverA_spec h
  exact ⟨c, fun n z => ⟨fun k h => (by cases h), k, h3, comp, h4⟩, h5⟩
set_option maxHeartbeats 4000000 in
set_option maxRecDepth 100000 in
theorem ev_start {p : Program} {e : Env} {s : State} {m : MethodId} {below : List Frame} {meth : Method} {c : Code} (l : Launch) (hflags : l.flags = flags0) {b L : Nat} {xs : Nat → Int32} (C0 : lw_At p s m meth c b L xs) {w1 : ev_W} (hsnd : ∀ (D : va_G) (cy : Nat → ClassId) (base : Nat) (ext : Nat → Nat), l.stackTraces = false → ev_Snd D cy base ext L xs l ev_LAW 0 (ev_in 19 [.ref ev_S]) [] (ev_w0 L xs) (.inl (some (.int 1))) w1) (hcc : w_c w1 ≤ room_1.cells) (hzz : w_z w1 ≤ room_1.slots) :
    W p l e room_1 s m #[Value.ref b] below meth c s.heap [] 0 0 (lw_Z below #[Value.ref b] s) (entryFrame m ([Value.ref b] : List Value).toArray 19) := by
  obtain ⟨hx, hb, hr, hml, hown, hts, hX, hbl, hlocks, hgv⟩ := id C0
  have hl : l.stackTraces = false := by
    unfold Launch.stackTraces
    rw [hflags]
    decide +kernel
  have hfl := flat_of_before _ hgv
  have htall : ∀ w ∈ ev_all, w.before #[Value.ref b] s = true := fun w hw => hts w (List.mem_filter.mp hw).1
  have hKn : ∀ k : Nat, ∃ q : ClassId × (Nat → Nat), ∀ r : vw_C, vwCl[k]? = some r → u_Kn s r.1 r.2.1 r.2.2 q.1 q.2 := by
    intro k
    cases hk : vwCl[k]? with
    | none => exact ⟨(0, fun _ => 0), fun r hr9 => by cases hr9⟩
    | some r =>
      obtain ⟨ty, t1, t2, t3, t4, t5, t6⟩ := ev_cls k r hk
      have hins : Cond.instantiable r.1 r.2.2 ∈ ev_all := ev_all_in ev_insw_in (List.mem_flatMap.mpr ⟨_, List.mem_of_getElem? hk, List.mem_cons_self⟩)
      obtain ⟨cC, iS, hh⟩ := u_known htall t3 (htall _ hins)
      exact ⟨(cC, iS), fun r9 hr9 => by cases hr9; exact hh⟩
  obtain ⟨fK, hfK⟩ := Classical.axiomOfChoice hKn
  have harr : ∀ w ∈ ev_arrw, w.before #[Value.ref b] s = true := fun w hw => htall _ (ev_all_in ev_arrw_in hw)
  obtain ⟨cB, hB⟩ := ev_arr_of (ty := .byte) trivial (harr _ (List.mem_of_getElem? (i := 0) rfl))
  obtain ⟨cI, hI⟩ := ev_arr_of (ty := .int) trivial (harr _ (List.mem_of_getElem? (i := 1) rfl))
  obtain ⟨cZ, hZ⟩ := ev_arr_of (ty := .boolean) trivial (harr _ (List.mem_of_getElem? (i := 2) rfl))
  obtain ⟨cJ, hJ⟩ := ev_arr_of (ty := .long) trivial (harr _ (List.mem_of_getElem? (i := 3) rfl))
  obtain ⟨cF, hF⟩ := ev_arq_of (C := RX0) (hts _ ev_ao_Flag)
  obtain ⟨cS, hS⟩ := ev_arq_of (C := RX5) (hts _ ev_ao_State)
  obtain ⟨cO, hO⟩ := ev_arq_of (C := "java/lang/Object") (hts _ ev_ao_Obj)
  obtain ⟨cQ, hQ⟩ := ev_arv_of (t := .int) (hts _ ev_ao_II)
  obtain ⟨cy, c9, c10, c11, c12, c13, c14, c15, c20⟩ : ∃ cy : Nat → ClassId, cy 9 = cB ∧ cy 10 = cI ∧ cy 11 = cZ ∧ cy 12 = cF ∧ cy 13 = cS ∧ cy 14 = cJ ∧ cy 15 = cO ∧ cy 20 = cQ := ⟨fun k => if k = 9 then cB else if k = 10 then cI else if k = 11 then cZ else if k = 12 then cF else if k = 13 then cS else if k = 14 then cJ else if k = 15 then cO else cQ, rfl, rfl, rfl, rfl, rfl, rfl, rfl, rfl⟩
  have hK : va_K (fun k => (fK k).1, fun k => (fK k).2) vwCl (ev_tys cy) s := by
    refine ⟨fun k q hq => hfK k q hq, fun k q hq => ?_⟩
    have hk : k < 8 := (List.getElem?_eq_some_iff.mp hq).1
    match k, hk with
    | 0, _ => cases hq; rw [c9]; exact hB
    | 1, _ => cases hq; rw [c10]; exact hI
    | 2, _ => cases hq; rw [c11]; exact hZ
    | 3, _ => cases hq; rw [c12]; exact hF
    | 4, _ => cases hq; rw [c13]; exact hS
    | 5, _ => cases hq; rw [c14]; exact hJ
    | 6, _ => cases hq; rw [c15]; exact hO
    | 7, _ => cases hq; rw [c20]; exact hQ
  have hA : ∀ a : Nat, a < s.heap.size → ¬ ev_A s.heap.size a := fun a h1 h2 => absurd (show s.heap.size ≤ a from h2) (by omega)
  have hstr : ∀ k : Nat, ∃ a : Nat × Nat, ∀ q : Nat × Nat × String, ev_str[k]? = some q → (vk_R (ev_own.getD q.1 "") q.2.1 q.2.2 a.1 s ∧ zs_1 (ev_sby.getD k []) a.1 (ev_A s.heap.size) s s.heap) ∧ va_OF "java/lang/String" "value" "[B" (.ref a.2) a.1 (ev_A s.heap.size) s s.heap ∧ va_T .byte a.2 (ev_sby.getD k []).length (fun j => .int ((ev_sby.getD k []).getD j 0)) (ev_A s.heap.size) s s.heap := by
    intro k
    cases hk : ev_str[k]? with
    | none => exact ⟨(0, 0), fun r hr9 => by cases hr9⟩
    | some q =>
      have hm : q ∈ ev_str := List.mem_of_getElem? hk
      have h1 := hts _ (ev_str_in q hm)
      obtain ⟨a, q1, q2⟩ := zs_get hfl hts hA hk
      obtain ⟨v, v1, v2⟩ := id q2.2.2.1
      exact ⟨(a, v), fun q9 hq9 => by cases hq9; exact ⟨⟨vk_R.of h1 q1, q2⟩, v1, v2⟩⟩
  obtain ⟨ad, had⟩ := Classical.axiomOfChoice hstr
  obtain ⟨f1, f2, f3, f4, f5, f6, f7, f8, f9, fa⟩ := zt_fl
  obtain ⟨tA, tA1, tA2⟩ := va_Tof (ty := .object "java/lang/Object") (N := 0) (f := fun _ => .null) (A := ev_A s.heap.size) (by decide) (hfl _ f1) (va_eqt (hfl _ f2)) (fun j hj => absurd hj (Nat.not_lt_zero _)) hA
  obtain ⟨tO, tO1, tO2⟩ := va_Tof (ty := .byte) (N := 100) (f := fun j => .int (Int32.ofNat (48 + j % 10))) (A := ev_A s.heap.size) (by decide) (hfl _ f3) (va_eqt (hfl _ f4)) (fun j hj => va_eqt (hfl _ (List.mem_of_getElem? (of_decide_eq_true (List.all_eq_true.mp zt_dO j (List.mem_range.mpr hj)))))) hA
  obtain ⟨tT, tT1, tT2⟩ := va_Tof (ty := .byte) (N := 100) (f := fun j => .int (Int32.ofNat (48 + j / 10))) (A := ev_A s.heap.size) (by decide) (hfl _ f5) (va_eqt (hfl _ f6)) (fun j hj => va_eqt (hfl _ (List.mem_of_getElem? (of_decide_eq_true (List.all_eq_true.mp zt_dT j (List.mem_range.mpr hj)))))) hA
  obtain ⟨tU, uc, ucA, ukA, u1, u2, u3, u4, u5, u6, -⟩ := Cond.exactly_spec (args := #[Value.ref b]) (first := s) (o := none) (s := s) (idx := []) (t := zt_tU) (cls := "jdk/internal/misc/Unsafe") (hfl _ f7)
  have tU2 : va_O "jdk/internal/misc/Unsafe" tU (ev_A s.heap.size) s s.heap := ⟨ucA, u3, u5, by rw [u6]; exact u2, hA tU (Array.getElem?_eq_some_iff.mp u3).1⟩
  obtain ⟨ext, hext⟩ : ∃ ext : Nat → Nat, ext = fun k => if k = ev_S then b else if k = ev_S + 100 then tA else if k = ev_S + 101 then tO else if k = ev_S + 102 then tT else if k = ev_S + 103 then tU else if k < ev_S + 100 then (ad (k - (ev_S + 1))).1 else (ad (k - (ev_S + 200))).2 := ⟨_, rfl⟩
  have hext1 : ext ev_S = b := by rw [hext]; exact if_pos rfl
  have hx0 : ext (ev_S + 100) = tA := by rw [hext]; dsimp only; rw [if_neg (by omega), if_pos rfl]
  have hx1 : ext (ev_S + 101) = tO := by rw [hext]; dsimp only; rw [if_neg (by omega), if_neg (by omega), if_pos rfl]
  have hx2 : ext (ev_S + 102) = tT := by rw [hext]; dsimp only; rw [if_neg (by omega), if_neg (by omega), if_neg (by omega), if_pos rfl]
  have hx3 : ext (ev_S + 103) = tU := by rw [hext]; dsimp only; rw [if_neg (by omega), if_neg (by omega), if_neg (by omega), if_neg (by omega), if_pos rfl]
  have hext2 : ∀ k, k < 29 → ext (ev_S + 1 + k) = (ad k).1 := fun k hk => by
    rw [hext]
    dsimp only
    rw [if_neg (by omega), if_neg (by omega), if_neg (by omega), if_neg (by omega), if_neg (by omega), if_pos (by omega), Nat.add_sub_cancel_left]
  have hext3 : ∀ k, k < 29 → ext (ev_S + 200 + k) = (ad k).2 := fun k hk => by
    rw [hext]
    dsimp only
    rw [if_neg (by omega), if_neg (by omega), if_neg (by omega), if_neg (by omega), if_neg (by omega), if_neg (by omega), Nat.add_sub_cancel_left]
  have hlen9 : ev_str.length = 29 := by decide +kernel
  have hst := ev_st_in
  simp only [Bool.and_eq_true, decide_eq_true_eq] at hst
  obtain ⟨⟨⟨⟨st1, st2⟩, st3⟩, st4⟩, st5⟩ := hst
  have hst9 : ∀ w ∈ ([.eq (.static "java/lang/String" "COMPACT_STRINGS" "Z") (.int 1), .isRef (.static zs_pc "SIOOBE_FORMATTER" zs_fd)] : List Cond), w.before #[Value.ref b] s = true := fun w hw => hfl w (zs_fm zs_st_eq w hw)
  have hZA : zt_A s.heap.size ext s s.heap := by
    obtain ⟨g1, g2, g3, g4, g5, g6, g7⟩ := zt_la
    obtain ⟨i1, i2, i3, i4⟩ := zt_ini
    refine ⟨va_Zof (hts _ zs_la.1) (hts _ zs_la.2.2.1) (va_eqt (hst9 _ (List.mem_of_getElem? (i := 0) rfl))) hA, va_Zqof (hts _ zs_la.2.1) (hts _ zs_la.2.2.2) (hst9 _ (List.mem_of_getElem? (i := 1) rfl)) hA, ?_, ?_, ?_, ?_, ?_, ?_, ?_, ?_, va_Zof (hts _ g5) (hts _ i4) (va_eqt (hfl _ f8)) hA, va_Zof (hts _ g6) (hts _ i3) (va_eqt (hfl _ f9)) hA, va_Zof (hts _ g7) (hts _ i3) (va_eqt (hfl _ fa)) hA, fun k hk => ?_⟩
    · rw [hx0]; exact va_Zof (hts _ g1) (hts _ i1) tA1 hA
    · rw [hx0]; exact tA2
    · rw [hx1]; exact va_Zof (hts _ g2) (hts _ i2) tO1 hA
    · rw [hx1]; exact tO2
    · rw [hx2]; exact va_Zof (hts _ g3) (hts _ i2) tT1 hA
    · rw [hx2]; exact tT2
    · rw [hx3]; exact va_Zof (hts _ g4) (hts _ i3) u1 hA
    · rw [hx3]; exact tU2
    · rw [hext2 k hk, hext3 k hk]
      obtain ⟨q, hq⟩ := (zs_tab_at hk).1
      exact (had k q hq).2
  have hII : zt_II s := by
    obtain ⟨g1, g2, g3⟩ := zt_cs
    obtain ⟨l1, l2, l3, l4⟩ := zt_fL
    obtain ⟨m1, m2, m3, m4⟩ := zt_fC
    exact ⟨hts _ ev_ao_II, va_Nw.of rfl (hts _ g1), va_Fw.of (hts _ l1) (hts _ l2) (hts _ l3) (hts _ l4) (hts _ g3), va_Fw.of (hts _ m1) (hts _ m2) (hts _ m3) (hts _ m4) (hts _ g3), fun y hy => va_Nw.of rfl (hts _ (zt_prv y hy)), va_Nw.of rfl (hts _ g2)⟩
  have hF9 : ev_F s.heap.size ext s s.heap := by
    refine ⟨fun w hw => ?_, Or.inl rfl, va_AO.of (hts _ ev_ao_Flag), va_AO.of (hts _ ev_ao_State), va_Nw.of rfl (hts _ ev_nsw_in), fun k q hq => ?_, vx_Zqof (hts _ st3) (hts _ st5) (hfl _ st1) hA, vx_Zqof (hts _ st4) (hts _ st5) (hfl _ st2) hA, hZA, va_AO.of (hts _ ev_ao_Obj), hII, fun w hw => ?_, fun w hw => va_Nw.of (List.all_eq_true.mp ev_fnw_on w hw) (hts _ (ev_fnw_in w hw))⟩
    · have h9 := hts _ (ev_ngw_in w hw)
      unfold ev_ngw at hw
      simp only [List.mem_cons, List.not_mem_nil, or_false] at hw
      rcases hw with rfl | rfl | rfl | rfl | rfl | rfl <;> exact va_Nw.of rfl h9
    · rw [hext2 k (by rw [← hlen9]; exact (List.getElem?_eq_some_iff.mp hq).1)]
      exact (had k q hq).1
    · have h9 := hts _ (ev_nslw_in w hw)
      unfold ev_nslw at hw
      simp only [List.mem_cons, List.not_mem_nil, or_false] at hw
      rcases hw with rfl | rfl <;> exact va_Nw.of rfl h9
  have hM : ev_M (fun k => (fK k).1, fun k => (fK k).2) cy s.heap.size ext L xs (ev_w0 L xs) s.heap := by
    refine ⟨fun k q hq => ?_, by show 0 ≤ 1000; omega, by show s.heap.size + 0 ≤ s.heap.size; omega, fun _ => rfl, (show (if ev_S = ev_S then L else 0) = L from if_pos rfl), (show (if ev_S = ev_S then xs else fun _ => 0) = xs from if_pos rfl)⟩
    have h9 := (ev_ws_of hq).1
    exact absurd h9 (Nat.not_lt_zero k)
  have hC : ev_Cx (fun k => (fK k).1, fun k => (fK k).2) cy s.heap.size ext L xs l ev_LAW ev_lawME p room_1 s m #[Value.ref b] meth c :=
    ⟨hx, hb, hr, hml, hown, htall, hlocks, fun h9 => absurd rfl h9, hK, hF9, Nat.le_refl _, rfl, fun h9 => absurd rfl h9, by decide, by decide, hl, by rw [hext1]; exact ⟨hX, hbl, hbl⟩⟩
  have hs := hsnd (fun k => (fK k).1, fun k => (fK k).2) cy s.heap.size ext hl
  have hρ : ev_ρ s.heap.size ext ev_S = b := by
    unfold ev_ρ
    rw [if_neg (Nat.lt_irrefl _), hext1]
  have hEL := ev_EL_in (base := s.heap.size) (ext := ext) (n := 19) (as := [.ref ev_S]) (fun v hv => by rw [List.mem_singleton.mp hv]; rfl) (by decide)
  have e1 : ([Value.ref ev_S] : List Value).map (ev_v s.heap.size ext) = [Value.ref b] := by
    show [Value.ref (ev_ρ s.heap.size ext ev_S)] = _
    rw [hρ]
  rw [e1] at hEL
  rw [lg_entry_eq]
  refine hs.2.2 ev_lawME rfl p e room_1 s m _ below meth c hC s.heap [] 0 0 _ _ (w_c w1) (w_z w1) hM va_S.rf hEL (by show 0 + w_c w1 = w_c w1 + 0; omega) (by show 0 + w_z w1 = w_z w1 + 0; omega) hcc hzz ⟨fun v H1 locs1 L1 pc1 ho hM1 hS1 hrok hrat => ?_, fun E ho => by cases ho⟩
  cases ho
  refine W.widen hcc hzz ?_
  refine va_forget (fun q hq => hS1.2.2 q hq) ?_
  exact lw_ret hx hb hr hlocks hrat
