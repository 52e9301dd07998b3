section
-- ===== PART A: goes FIRST, ahead of the names: the tables' words, and 'selects' of the private methods out of them =====
/-- a private method of a class that the tables say can be made, by its rows of tables_1 -/
def lw_okq (q : MethodName × Nat) : Prop := (q.1.cls ≠ "java/lang/invoke/MethodHandle" ∧ q.1.cls ≠ "java/lang/invoke/VarHandle") ∧ Cond.instantiable q.1.cls q.2 ∈ tables_1 ∧ Cond.privateMethod q.1 ∈ tables_1 ∧ Cond.instanceMethod q.1 ∈ tables_1
theorem lw_p0 : lw_okq (⟨"java/lang/Throwable", "fillInStackTrace", "(I)Ljava/lang/Throwable;"⟩, 6) := ⟨⟨by decide +kernel, by decide +kernel⟩, List.mem_of_getElem? (i := 389) (by decide +kernel), List.mem_of_getElem? (i := 387) (by decide +kernel), List.mem_of_getElem? (i := 388) (by decide +kernel)⟩
theorem lw_p1 : lw_okq (⟨"FlagLaundry$Parser", "readFirstLine", "()V"⟩, 9) := ⟨⟨by decide +kernel, by decide +kernel⟩, List.mem_of_getElem? (i := 240) (by decide +kernel), List.mem_of_getElem? (i := 440) (by decide +kernel), List.mem_of_getElem? (i := 441) (by decide +kernel)⟩
theorem lw_p2 : lw_okq (⟨"FlagLaundry$Parser", "next", "()V"⟩, 9) := ⟨⟨by decide +kernel, by decide +kernel⟩, List.mem_of_getElem? (i := 240) (by decide +kernel), List.mem_of_getElem? (i := 444) (by decide +kernel), List.mem_of_getElem? (i := 445) (by decide +kernel)⟩
theorem lw_p3 : lw_okq (⟨"FlagLaundry$Parser", "failed", "()Z"⟩, 9) := ⟨⟨by decide +kernel, by decide +kernel⟩, List.mem_of_getElem? (i := 240) (by decide +kernel), List.mem_of_getElem? (i := 448) (by decide +kernel), List.mem_of_getElem? (i := 449) (by decide +kernel)⟩
theorem lw_p4 : lw_okq (⟨"FlagLaundry$Parser", "skipBlanks", "()V"⟩, 9) := ⟨⟨by decide +kernel, by decide +kernel⟩, List.mem_of_getElem? (i := 240) (by decide +kernel), List.mem_of_getElem? (i := 452) (by decide +kernel), List.mem_of_getElem? (i := 453) (by decide +kernel)⟩
theorem lw_p5 : lw_okq (⟨"FlagLaundry$Parser", "isLetterAt", "(I)Z"⟩, 9) := ⟨⟨by decide +kernel, by decide +kernel⟩, List.mem_of_getElem? (i := 240) (by decide +kernel), List.mem_of_getElem? (i := 456) (by decide +kernel), List.mem_of_getElem? (i := 457) (by decide +kernel)⟩
theorem lw_p6 : lw_okq (⟨"FlagLaundry$Parser", "isDigitAt", "(I)Z"⟩, 9) := ⟨⟨by decide +kernel, by decide +kernel⟩, List.mem_of_getElem? (i := 240) (by decide +kernel), List.mem_of_getElem? (i := 460) (by decide +kernel), List.mem_of_getElem? (i := 461) (by decide +kernel)⟩
theorem lw_p7 : lw_okq (⟨"FlagLaundry$Parser", "fail", "(I)V"⟩, 9) := ⟨⟨by decide +kernel, by decide +kernel⟩, List.mem_of_getElem? (i := 240) (by decide +kernel), List.mem_of_getElem? (i := 464) (by decide +kernel), List.mem_of_getElem? (i := 465) (by decide +kernel)⟩
theorem lw_p8 : lw_okq (⟨"FlagLaundry$Parser", "isWord", "(Ljava/lang/String;)Z"⟩, 9) := ⟨⟨by decide +kernel, by decide +kernel⟩, List.mem_of_getElem? (i := 240) (by decide +kernel), List.mem_of_getElem? (i := 469) (by decide +kernel), List.mem_of_getElem? (i := 470) (by decide +kernel)⟩
theorem lw_p9 : lw_okq (⟨"FlagLaundry$Parser", "number", "(II)I"⟩, 9) := ⟨⟨by decide +kernel, by decide +kernel⟩, List.mem_of_getElem? (i := 240) (by decide +kernel), List.mem_of_getElem? (i := 521) (by decide +kernel), List.mem_of_getElem? (i := 522) (by decide +kernel)⟩
theorem lw_p10 : lw_okq (⟨"FlagLaundry$Parser", "readLine", "()V"⟩, 9) := ⟨⟨by decide +kernel, by decide +kernel⟩, List.mem_of_getElem? (i := 240) (by decide +kernel), List.mem_of_getElem? (i := 525) (by decide +kernel), List.mem_of_getElem? (i := 526) (by decide +kernel)⟩
theorem lw_p11 : lw_okq (⟨"FlagLaundry$Parser", "readColour", "()V"⟩, 9) := ⟨⟨by decide +kernel, by decide +kernel⟩, List.mem_of_getElem? (i := 240) (by decide +kernel), List.mem_of_getElem? (i := 530) (by decide +kernel), List.mem_of_getElem? (i := 531) (by decide +kernel)⟩
theorem lw_p12 : lw_okq (⟨"FlagLaundry$Parser", "needPlaceFor", "(II)V"⟩, 9) := ⟨⟨by decide +kernel, by decide +kernel⟩, List.mem_of_getElem? (i := 240) (by decide +kernel), List.mem_of_getElem? (i := 534) (by decide +kernel), List.mem_of_getElem? (i := 535) (by decide +kernel)⟩
theorem lw_p13 : lw_okq (⟨"FlagLaundry$Parser", "readNation", "()V"⟩, 9) := ⟨⟨by decide +kernel, by decide +kernel⟩, List.mem_of_getElem? (i := 240) (by decide +kernel), List.mem_of_getElem? (i := 543) (by decide +kernel), List.mem_of_getElem? (i := 544) (by decide +kernel)⟩
theorem lw_p14 : lw_okq (⟨"FlagLaundry$Parser", "readTub", "()V"⟩, 9) := ⟨⟨by decide +kernel, by decide +kernel⟩, List.mem_of_getElem? (i := 240) (by decide +kernel), List.mem_of_getElem? (i := 552) (by decide +kernel), List.mem_of_getElem? (i := 553) (by decide +kernel)⟩
theorem lw_p15 : lw_okq (⟨"FlagLaundry$Parser", "readFlag", "()V"⟩, 9) := ⟨⟨by decide +kernel, by decide +kernel⟩, List.mem_of_getElem? (i := 240) (by decide +kernel), List.mem_of_getElem? (i := 561) (by decide +kernel), List.mem_of_getElem? (i := 562) (by decide +kernel)⟩
def lw_privs_1 : List (MethodName × Nat) := [(⟨"java/lang/Throwable", "fillInStackTrace", "(I)Ljava/lang/Throwable;"⟩, 6), (⟨"FlagLaundry$Parser", "readFirstLine", "()V"⟩, 9), (⟨"FlagLaundry$Parser", "next", "()V"⟩, 9), (⟨"FlagLaundry$Parser", "failed", "()Z"⟩, 9), (⟨"FlagLaundry$Parser", "skipBlanks", "()V"⟩, 9), (⟨"FlagLaundry$Parser", "isLetterAt", "(I)Z"⟩, 9), (⟨"FlagLaundry$Parser", "isDigitAt", "(I)Z"⟩, 9), (⟨"FlagLaundry$Parser", "fail", "(I)V"⟩, 9), (⟨"FlagLaundry$Parser", "isWord", "(Ljava/lang/String;)Z"⟩, 9), (⟨"FlagLaundry$Parser", "number", "(II)I"⟩, 9), (⟨"FlagLaundry$Parser", "readLine", "()V"⟩, 9), (⟨"FlagLaundry$Parser", "readColour", "()V"⟩, 9), (⟨"FlagLaundry$Parser", "needPlaceFor", "(II)V"⟩, 9), (⟨"FlagLaundry$Parser", "readNation", "()V"⟩, 9), (⟨"FlagLaundry$Parser", "readTub", "()V"⟩, 9), (⟨"FlagLaundry$Parser", "readFlag", "()V"⟩, 9)]
theorem lw_r1 : ∀ q ∈ lw_privs_1, lw_okq q := List.forall_mem_cons.mpr ⟨lw_p0, List.forall_mem_cons.mpr ⟨lw_p1, List.forall_mem_cons.mpr ⟨lw_p2, List.forall_mem_cons.mpr ⟨lw_p3, List.forall_mem_cons.mpr ⟨lw_p4, List.forall_mem_cons.mpr ⟨lw_p5, List.forall_mem_cons.mpr ⟨lw_p6, List.forall_mem_cons.mpr ⟨lw_p7, List.forall_mem_cons.mpr ⟨lw_p8, List.forall_mem_cons.mpr ⟨lw_p9, List.forall_mem_cons.mpr ⟨lw_p10, List.forall_mem_cons.mpr ⟨lw_p11, List.forall_mem_cons.mpr ⟨lw_p12, List.forall_mem_cons.mpr ⟨lw_p13, List.forall_mem_cons.mpr ⟨lw_p14, List.forall_mem_cons.mpr ⟨lw_p15, fun _ h => absurd h List.not_mem_nil⟩⟩⟩⟩⟩⟩⟩⟩⟩⟩⟩⟩⟩⟩⟩⟩
theorem lw_p16 : lw_okq (⟨"FlagLaundry$Parser", "numberFollows", "()Z"⟩, 9) := ⟨⟨by decide +kernel, by decide +kernel⟩, List.mem_of_getElem? (i := 240) (by decide +kernel), List.mem_of_getElem? (i := 565) (by decide +kernel), List.mem_of_getElem? (i := 566) (by decide +kernel)⟩
theorem lw_p17 : lw_okq (⟨"FlagLaundry$Parser", "readPut", "()V"⟩, 9) := ⟨⟨by decide +kernel, by decide +kernel⟩, List.mem_of_getElem? (i := 240) (by decide +kernel), List.mem_of_getElem? (i := 582) (by decide +kernel), List.mem_of_getElem? (i := 583) (by decide +kernel)⟩
theorem lw_p18 : lw_okq (⟨"FlagLaundry$Parser", "readWash", "()V"⟩, 9) := ⟨⟨by decide +kernel, by decide +kernel⟩, List.mem_of_getElem? (i := 240) (by decide +kernel), List.mem_of_getElem? (i := 596) (by decide +kernel), List.mem_of_getElem? (i := 597) (by decide +kernel)⟩
theorem lw_p19 : lw_okq (⟨"FlagLaundry$Parser", "readHang", "()V"⟩, 9) := ⟨⟨by decide +kernel, by decide +kernel⟩, List.mem_of_getElem? (i := 240) (by decide +kernel), List.mem_of_getElem? (i := 656) (by decide +kernel), List.mem_of_getElem? (i := 657) (by decide +kernel)⟩
theorem lw_p20 : lw_okq (⟨"FlagLaundry$Parser", "readWind", "()V"⟩, 9) := ⟨⟨by decide +kernel, by decide +kernel⟩, List.mem_of_getElem? (i := 240) (by decide +kernel), List.mem_of_getElem? (i := 677) (by decide +kernel), List.mem_of_getElem? (i := 678) (by decide +kernel)⟩
theorem lw_p21 : lw_okq (⟨"FlagLaundry$Parser", "readPass", "()V"⟩, 9) := ⟨⟨by decide +kernel, by decide +kernel⟩, List.mem_of_getElem? (i := 240) (by decide +kernel), List.mem_of_getElem? (i := 682) (by decide +kernel), List.mem_of_getElem? (i := 683) (by decide +kernel)⟩
theorem lw_p22 : lw_okq (⟨"FlagLaundry$Parser", "readEnd", "()V"⟩, 9) := ⟨⟨by decide +kernel, by decide +kernel⟩, List.mem_of_getElem? (i := 240) (by decide +kernel), List.mem_of_getElem? (i := 707) (by decide +kernel), List.mem_of_getElem? (i := 708) (by decide +kernel)⟩
theorem lw_p23 : lw_okq (⟨"FlagLaundry", "needText", "()V"⟩, 10) := ⟨⟨by decide +kernel, by decide +kernel⟩, List.mem_of_getElem? (i := 37) (by decide +kernel), List.mem_of_getElem? (i := 739) (by decide +kernel), List.mem_of_getElem? (i := 740) (by decide +kernel)⟩
theorem lw_p24 : lw_okq (⟨"FlagLaundry", "needNation", "(I)V"⟩, 10) := ⟨⟨by decide +kernel, by decide +kernel⟩, List.mem_of_getElem? (i := 37) (by decide +kernel), List.mem_of_getElem? (i := 783) (by decide +kernel), List.mem_of_getElem? (i := 784) (by decide +kernel)⟩
theorem lw_p25 : lw_okq (⟨"FlagLaundry", "needFlag", "(I)V"⟩, 10) := ⟨⟨by decide +kernel, by decide +kernel⟩, List.mem_of_getElem? (i := 37) (by decide +kernel), List.mem_of_getElem? (i := 814) (by decide +kernel), List.mem_of_getElem? (i := 815) (by decide +kernel)⟩
theorem lw_p26 : lw_okq (⟨"FlagLaundry", "needTub", "(I)V"⟩, 10) := ⟨⟨by decide +kernel, by decide +kernel⟩, List.mem_of_getElem? (i := 37) (by decide +kernel), List.mem_of_getElem? (i := 823) (by decide +kernel), List.mem_of_getElem? (i := 824) (by decide +kernel)⟩
theorem lw_p27 : lw_okq (⟨"java/util/ArrayList", "add", "(Ljava/lang/Object;[Ljava/lang/Object;I)V"⟩, 3) := ⟨⟨by decide +kernel, by decide +kernel⟩, List.mem_of_getElem? (i := 1118) (by decide +kernel), List.mem_of_getElem? (i := 1230) (by decide +kernel), List.mem_of_getElem? (i := 1231) (by decide +kernel)⟩
theorem lw_p28 : lw_okq (⟨"java/util/ArrayList", "grow", "()[Ljava/lang/Object;"⟩, 3) := ⟨⟨by decide +kernel, by decide +kernel⟩, List.mem_of_getElem? (i := 1118) (by decide +kernel), List.mem_of_getElem? (i := 1234) (by decide +kernel), List.mem_of_getElem? (i := 1235) (by decide +kernel)⟩
theorem lw_p29 : lw_okq (⟨"java/util/ArrayList", "grow", "(I)[Ljava/lang/Object;"⟩, 3) := ⟨⟨by decide +kernel, by decide +kernel⟩, List.mem_of_getElem? (i := 1118) (by decide +kernel), List.mem_of_getElem? (i := 1238) (by decide +kernel), List.mem_of_getElem? (i := 1239) (by decide +kernel)⟩
theorem lw_p30 : lw_okq (⟨"FlagLaundry", "store", "(I)V"⟩, 10) := ⟨⟨by decide +kernel, by decide +kernel⟩, List.mem_of_getElem? (i := 37) (by decide +kernel), List.mem_of_getElem? (i := 1594) (by decide +kernel), List.mem_of_getElem? (i := 1595) (by decide +kernel)⟩
def lw_privs_2 : List (MethodName × Nat) := [(⟨"FlagLaundry$Parser", "numberFollows", "()Z"⟩, 9), (⟨"FlagLaundry$Parser", "readPut", "()V"⟩, 9), (⟨"FlagLaundry$Parser", "readWash", "()V"⟩, 9), (⟨"FlagLaundry$Parser", "readHang", "()V"⟩, 9), (⟨"FlagLaundry$Parser", "readWind", "()V"⟩, 9), (⟨"FlagLaundry$Parser", "readPass", "()V"⟩, 9), (⟨"FlagLaundry$Parser", "readEnd", "()V"⟩, 9), (⟨"FlagLaundry", "needText", "()V"⟩, 10), (⟨"FlagLaundry", "needNation", "(I)V"⟩, 10), (⟨"FlagLaundry", "needFlag", "(I)V"⟩, 10), (⟨"FlagLaundry", "needTub", "(I)V"⟩, 10), (⟨"java/util/ArrayList", "add", "(Ljava/lang/Object;[Ljava/lang/Object;I)V"⟩, 3), (⟨"java/util/ArrayList", "grow", "()[Ljava/lang/Object;"⟩, 3), (⟨"java/util/ArrayList", "grow", "(I)[Ljava/lang/Object;"⟩, 3), (⟨"FlagLaundry", "store", "(I)V"⟩, 10)]
theorem lw_r2 : ∀ q ∈ lw_privs_2, lw_okq q := List.forall_mem_cons.mpr ⟨lw_p16, List.forall_mem_cons.mpr ⟨lw_p17, List.forall_mem_cons.mpr ⟨lw_p18, List.forall_mem_cons.mpr ⟨lw_p19, List.forall_mem_cons.mpr ⟨lw_p20, List.forall_mem_cons.mpr ⟨lw_p21, List.forall_mem_cons.mpr ⟨lw_p22, List.forall_mem_cons.mpr ⟨lw_p23, List.forall_mem_cons.mpr ⟨lw_p24, List.forall_mem_cons.mpr ⟨lw_p25, List.forall_mem_cons.mpr ⟨lw_p26, List.forall_mem_cons.mpr ⟨lw_p27, List.forall_mem_cons.mpr ⟨lw_p28, List.forall_mem_cons.mpr ⟨lw_p29, List.forall_mem_cons.mpr ⟨lw_p30, fun _ h => absurd h List.not_mem_nil⟩⟩⟩⟩⟩⟩⟩⟩⟩⟩⟩⟩⟩⟩⟩
def lw_privs : List (MethodName × Nat) := lw_privs_1 ++ (lw_privs_2)
def lw_tbl : List Cond := k2_sels lw_privs ++ tables_1
theorem lw_privs_ok : ∀ q ∈ lw_privs, lw_okq q := by
  show ∀ q ∈ lw_privs_1 ++ (lw_privs_2), lw_okq q
  exact List.forall_mem_append.mpr ⟨lw_r1, lw_r2⟩

/-! ===== BEGIN words of one list among another's, by their places ===== -/
theorem goodIn_r {big : List Cond} (ws : List Cond) (ps : List Nat) (hp : ws = ps.filterMap (fun i => big[i]?)) (h : ws.all goodWord = true) : GoodIn big ws := by
  intro w hw
  have h1 := List.all_eq_true.mp h w hw
  rw [hp] at hw
  obtain ⟨i, -, hi⟩ := List.mem_filterMap.mp hw
  have hm : w ∈ big := by first | exact List.mem_of_getElem? hi | exact List.getElem?_mem hi
  exact ⟨hm, good_of_word h1⟩
theorem goodIn_app {big a b : List Cond} (ha : GoodIn big a) (hb : GoodIn big b) : GoodIn big (a ++ b) := fun w h => (List.mem_append.mp h).elim (ha w) (hb w)
theorem goodIn_ca {big a b : List Cond} {c : Cond} (ha : GoodIn big (c :: a)) (hb : GoodIn big b) : GoodIn big (c :: (a ++ b)) := fun w h => (List.mem_cons.mp h).elim (fun e => ha w (List.mem_cons.mpr (Or.inl e))) (fun h => (List.mem_append.mp h).elim (fun h => ha w (List.mem_cons.mpr (Or.inr h))) (hb w))
theorem goodIn_sub {big ws : List Cond} (hm : ∀ w ∈ ws, w ∈ big) (h : ws.all goodWord = true) : GoodIn big ws := fun w hw => ⟨hm w hw, good_of_word (List.all_eq_true.mp h w hw)⟩
/-! ===== END ===== -/
/-! ===== BEGIN exceptions that leave a method, and their catching by the caller (launches without stack traces) ===== -/
section VXA
/-! The laws vx_back, vx_callV, vx_callS, vx_callSW, vx_throw0, vx_throwS follow proofs of the library, with one case more: JvmDerived/Free/Laws.lean (Back.of_free), Shelf42/LK1.lean (callV, callS), Shelf/KitTraced.lean (throwNew0V, throwNewS). -/
/-- where a method has thrown q: the class by its name, the cell, what was written, the world -/
def vx_T (XC : String → State → State → Prop) (st : State) (q : Addr) (t : State) (mc ms : Nat) (free : Addr → Prop) : Prop :=
  ∃ (E : String) (ce : Cell) (L : List Loc), XC E st t ∧ t.heap[q]? = some ce ∧ ce.vm = .none ∧ st.vm.findClass E = some ce.cls ∧ st.WarmedH t.vm ∧ st.sameButNew ({ t with vm := st.vm } : State) L mc ms ∧ ∀ z ∈ L, free z.base
def vx_Q (Qc : Array Value → State → Outcome → State → Prop) (XC : String → State → State → Prop) (mc ms : Nat) (free : Addr → Prop) : Array Value → State → Outcome → State → Prop := fun a st o t =>
  (Qc a st o t ∧ ∃ L, FrameEnd st o t L mc ms ∧ ∀ q ∈ L, free q.base) ∨ ∃ q, o = .threw q ∧ vx_T XC st q t mc ms free
/-- a callee that returns or throws -/
def vx_Met (l : Launch) (y : MethodName) (ws : List Cond) (rm : Room) (Pc : Array Value → State → Prop) (Qc : Array Value → State → Outcome → State → Prop) (XC : String → State → State → Prop) (mc ms : Nat) (free : Addr → Prop) : Prop :=
  MetFree l y (headSpec ws rm) Pc (fun _ _ _ _ _ => True) (vx_Q Qc XC mc ms free)
def vx_Post (XC : String → State → State → Prop) (mc ms : Nat) (free : Addr → Prop) : Pt → Array Value → Addr → Pt → Prop := fun A a q B =>
  ∃ (g : JFrame) (mk : MethodId) (t : State) (L : List Loc) (E : String) (ce : Cell), B.U.heap = t.heap ∧ B.U.vm = t.vm ∧ XC E (A.U.calling g mk a) t ∧ t.heap[q]? = some ce ∧ ce.vm = .none ∧ A.U.vm.findClass E = some ce.cls ∧ B.locs = A.locs ++ L ∧ (∀ z ∈ L, free z.base) ∧ B.cells = A.cells + mc ∧ B.slots = A.slots + ms
def vx_Back (l : Launch) (R : Room) (p : Program) (e : Env) (below : List Frame) (s : State) (sargs : Array Value) (y : MethodName) (len W9 : Nat)
    (Pre : Pt → Array Value → Prop) (Post : Pt → Array Value → Option Value → Pt → Prop) (PostX : Pt → Array Value → Addr → Pt → Prop) : Prop :=
  ∀ (m : MethodId) (meth : Method) (c : Code) (A : Pt) (g : JFrame) (ig : Instr) (mk : MethodId) (a : Array Value),
    Stand p l e R s m sargs below meth c A.U A.locs A.cells A.slots → g.method = m → g.locals.size = c.maxLocals → decode c.code g.pc = .ok (ig, len) →
    2 * g.monitorRoom + (g.stack.map fun v => v.category).sum ≤ W9 → A.U.methodNamed? y = some mk → Pre A a →
    (∃ (v : Option Value) (B : Pt), Stand p l e R s m sargs below meth c B.U B.locs B.cells B.slots ∧ Post A a v B ∧
      Steps p.tables e below (doInvoke e (A.U.setTop g) [] mk a).1 (B.U.setTop { g with pc := g.pc + len, stack := v.toList ++ g.stack })) ∨
    (∃ (q : Addr) (B : Pt), Stand p l e R s m sargs below meth c B.U B.locs B.cells B.slots ∧ PostX A a q B ∧
      Steps p.tables e below (doInvoke e (A.U.setTop g) [] mk a).1 ((B.U.setTop g).pushFrame (.throwing q)))
section Payer
variable {l : Launch} {R : Room} {p : Program} {e : Env} {below : List Frame} {s : State} {sargs : Array Value} {y : MethodName} {len W9 : Nat}
theorem vx_back {ws : List Cond} {rm : Room} {Pc : Array Value → State → Prop} {Qc : Array Value → State → Outcome → State → Prop} {XC : String → State → State → Prop} {mc ms : Nat} {free : Addr → Prop} {bytes : ByteArray} {maxL : Nat} {ret : Option FieldType}
    (hM : vx_Met l y ws rm Pc Qc XC mc ms free) (hblind : FrameBlind Pc) (hrc : rm.cells = mc) (hrs : rm.slots = ms)
    (hframes : rm.frames + 1 ≤ R.frames) (hlocals : W9 + (maxL + 11) + rm.locals ≤ R.locals)
    (hws : ∀ w ∈ ws, ∀ a' U, s.WarmedH U.vm → w.before a' U = true) (hcode : Cond.code y bytes maxL ret ∈ ws) (hinit : ∀ a' U, s.WarmedH U.vm → (Cond.initialized y.cls).before a' U = true) :
    vx_Back l R p e below s sargs y len W9 (PreOf R mc ms Pc) (PostOf Qc mc ms free) (vx_Post XC mc ms free) := by
  intro m meth c A g ig mk a X hg hsize hdg hW hn hp
  have h1 : (headSpec ws rm).pre.before a A.U = true := atoms_intro fun w hw => hws w hw _ _ X.warmed
  have h2 : (Cond.code y bytes maxL ret).before a A.U = true := hws _ hcode _ _ X.warmed
  have h3 : (Cond.initialized y.cls).before a A.U = true := hinit _ _ X.warmed
  have h4 : A.cells + (headSpec ws rm).room.cells ≤ R.cells := by rw [show (headSpec ws rm).room.cells = mc from hrc]; exact hp.1
  have h5 : A.slots + (headSpec ws rm).room.slots ≤ R.slots := by rw [show (headSpec ws rm).room.slots = ms from hrs]; exact hp.2.1
  have hPc : Pc a (A.U.calling g mk a) := hblind _ _ _ _ hp.2.2
  obtain ⟨U, Ls, c0, s0⟩ := A
  dsimp only [Pt.U, Pt.locs, Pt.cells, Pt.slots] at h1 h2 h3 h4 h5 X hn hPc ⊢
  obtain ⟨methY, cY, hmY, hcY, -, hlY, -, -, -, -⟩ := Cond.code_spec hn h2
  obtain ⟨kY, hkY, -⟩ := className_of_methodNamed hn
  have hinitY : kY.init = .initialized := Cond.initialized_spec (findClass_of_methodNamed hn) hkY h3
  have h : At U g.method c below := by rw [hg]; exact X.here
  have hlocals9 : W9 + (maxL + 11) + (headSpec ws rm).room.locals ≤ R.locals := hlocals
  have happ : (headSpec ws rm).appliesLoose y e.platform (U.calling g mk a) = true :=
    Spec.appliesLoose_calling (g := g) h hdg hn hkY hinitY
      (X.room_calling (g := g) (R' := (headSpec ws rm).room) hsize hmY hcY hframes (by rw [hlY]; omega) h4 h5) h1
  obtain ⟨mid, hmid⟩ := h.above
  have hfr : (U.setTop g).frames = (.java g :: mid) ++ below := by rw [State.frames_setTop' g h.top, hmid]; rfl
  obtain ⟨o, s₂, hsteps, -, hend, hq⟩ := Steps.callFree hM p X.admits X.cas X.clock (acts := []) hfr happ hPc trivial
  have hq' : vx_Q Qc XC mc ms free a (U.calling g mk a) o s₂ := hq
  rw [State.frames_setTop' g h.top] at hend
  obtain ⟨g₀, hg0⟩ := Option.isSome_iff_exists.mp h.top
  obtain ⟨r, hr⟩ := State.topJava?_eq_some.mp hg0
  have hr' : (({ U with heap := s₂.heap, slotsUsed := s₂.slotsUsed } : State).setVm s₂.vm).frames = .java g₀ :: r := hr
  rcases hq' with ⟨hqc, L, hfe, hL⟩ | ⟨q, rfl, E, ce, L, hx, hce, hcv, hcl, hW₂, hsm, hL⟩
  · obtain ⟨⟨v, rfl⟩, hW₂, e2, q2, q3, q4, q5, q6⟩ := id hfe
    have e3 : s₂ = ({ (U.calling g mk a).setFrames s₂.frames with heap := s₂.heap, slotsUsed := s₂.slotsUsed } : State).setVm s₂.vm := by
      have : s₂ = ({ s₂ with vm := (U.calling g mk a).vm } : State).setVm s₂.vm := rfl
      rw [e2] at this
      exact this
    obtain ⟨c₂, i₂, len₂, hc₂, hd₂, hf₂⟩ := hend
    have hW' : U.WarmedH s₂.vm := hW₂
    have hcc : c₂ = c := by
      have h1 : s₂.code? g.method = U.code? g.method := by
        rw [State.code?_eq, State.code?_eq, hW'.alike.method?]
      exact Option.some.inj (hc₂.symm.trans (h1.trans h.code))
    subst hcc
    have hlen : len₂ = len := by rw [hdg] at hd₂; cases hd₂; rfl
    subst hlen
    have hs₂ : s₂ = (({ U with heap := s₂.heap, slotsUsed := s₂.slotsUsed } : State).setVm s₂.vm).setTop { g with pc := g.pc + len₂, stack := v.toList ++ g.stack } := by
      refine e3.trans ?_
      rw [hf₂, State.calling_eq h.top, State.setFrames_setFrames, State.setTop_of_frames _ hr', hr]
      rfl
    have hsame : U.sameButNew ({ U with heap := s₂.heap, slotsUsed := s₂.slotsUsed } : State) L mc ms := by
      refine ⟨?_, q2, q3, q4, q5, q6⟩
      obtain ⟨t, ht, -⟩ := State.frames_cons hr
      show ({ U with heap := s₂.heap, slotsUsed := s₂.slotsUsed } : State) = { U.setFrames U.frames with heap := s₂.heap, slotsUsed := s₂.slotsUsed }
      rw [State.setFrames_self ht]
    subst hg
    refine Or.inl ⟨v, ⟨(({ U with heap := s₂.heap, slotsUsed := s₂.slotsUsed } : State).setVm s₂.vm), Ls ++ L, c0 + mc, s0 + ms⟩,
      ⟨X.admits, X.cas, X.clock, X.frames, X.room, X.hears, X.method, X.code, (X.here.setHeapUsed s₂.heap s₂.slotsUsed).setVm hW'.alike, X.tail, State.WarmedH.trans X.warmed hW', X.limits, X.bytes, X.same.trans (hsame.setVm s.vm)⟩,
      ⟨g, mk, s₂, L, rfl, rfl, hqc, rfl, hL, rfl, rfl⟩, ?_⟩
    show Steps p.tables e below _ ((({ U with heap := s₂.heap, slotsUsed := s₂.slotsUsed } : State).setVm s₂.vm).setTop { g with pc := g.pc + len₂, stack := v.toList ++ g.stack })
    rw [← hs₂]
    exact hsteps
  · obtain ⟨e2, q2, q3, q4, q5, q6⟩ := id hsm
    have e3 : s₂ = ({ (U.calling g mk a).setFrames s₂.frames with heap := s₂.heap, slotsUsed := s₂.slotsUsed } : State).setVm s₂.vm := by
      have : s₂ = ({ s₂ with vm := (U.calling g mk a).vm } : State).setVm s₂.vm := rfl
      rw [e2] at this
      exact this
    have hf₂ : s₂.frames = .throwing q :: .java g :: U.frames.tail := hend
    have hW' : U.WarmedH s₂.vm := hW₂
    have hs₂ : s₂ = ((({ U with heap := s₂.heap, slotsUsed := s₂.slotsUsed } : State).setVm s₂.vm).setTop g).pushFrame (.throwing q) := by
      refine e3.trans ?_
      rw [hf₂, State.calling_eq h.top, State.setFrames_setFrames, State.pushFrame, State.frames_setTop _ hr', State.setTop_of_frames _ hr', State.setFrames_setFrames, hr]
      rfl
    have hsame : U.sameButNew ({ U with heap := s₂.heap, slotsUsed := s₂.slotsUsed } : State) L mc ms := by
      refine ⟨?_, q2, q3, q4, q5, q6⟩
      obtain ⟨t, ht, -⟩ := State.frames_cons hr
      show ({ U with heap := s₂.heap, slotsUsed := s₂.slotsUsed } : State) = { U.setFrames U.frames with heap := s₂.heap, slotsUsed := s₂.slotsUsed }
      rw [State.setFrames_self ht]
    subst hg
    refine Or.inr ⟨q, ⟨(({ U with heap := s₂.heap, slotsUsed := s₂.slotsUsed } : State).setVm s₂.vm), Ls ++ L, c0 + mc, s0 + ms⟩,
      ⟨X.admits, X.cas, X.clock, X.frames, X.room, X.hears, X.method, X.code, (X.here.setHeapUsed s₂.heap s₂.slotsUsed).setVm hW'.alike, X.tail, State.WarmedH.trans X.warmed hW', X.limits, X.bytes, X.same.trans (hsame.setVm s.vm)⟩,
      ⟨g, mk, s₂, L, E, ce, rfl, rfl, hx, hce, hcv, hcl, rfl, hL, rfl, rfl⟩, ?_⟩
    show Steps p.tables e below _ (((({ U with heap := s₂.heap, slotsUsed := s₂.slotsUsed } : State).setVm s₂.vm).setTop g).pushFrame (.throwing q))
    rw [← hs₂]
    exact hsteps
end Payer
section Calls
variable {p : Program} {l : Launch} {e : Env} {R : Room} {s : State} {m : MethodId} {args : Array Value} {below : List Frame} {meth : Method} {c : Code} {T : State} {locs : List Loc} {cells slots : Nat}
theorem vx_callV (X : Stand p l e R s m args below meth c T locs cells slots) (hexec : p.tables.exec = Jvm.exec) {own C : String} {index : Nat} {y : MethodName} {bytes : ByteArray} {maxL : Nat} {ret : Option FieldType}
    (hown : s.vm.findClass own = some m.cls) (hlink : (Cond.methodLink own index y).before args s = true) (hinst : (Cond.instanceMethod y).before args s = true) (hsel : (Cond.selects C y y).before args s = true)
    (hcode : (Cond.code y bytes maxL ret).before args s = true) (hy : y.cls ≠ "java/lang/invoke/MethodHandle" ∧ y.cls ≠ "java/lang/invoke/VarHandle")
    {W9 : Nat} {Pre : Pt → Array Value → Prop} {Post : Pt → Array Value → Option Value → Pt → Prop} {PostX : Pt → Array Value → Addr → Pt → Prop} (hK : vx_Back l R p e below s args y 3 W9 Pre Post PostX)
    {b : Addr} {cellB : Cell} (hcell : T.heap[b]? = some cellB) (hobj : cellB.vm.isStatics = false) (hcls : s.vm.findClass C = some cellB.cls)
    {g : JFrame} (hg : g.method = m) (hsize : g.locals.size = c.maxLocals) {argsL rest : List Value} (hlen : ∀ sig, parseMethodDescriptor y.desc = some sig → argsL.length = sig.parameters.length)
    (hstack : g.stack = argsL.reverse ++ .ref b :: rest) (hW : 2 * g.monitorRoom + (rest.map fun v => v.category).sum ≤ W9) (hdg : decode c.code g.pc = .ok (.invokevirtual index, 3))
    (hpre : ∀ vm₁, s.WarmedH vm₁ → Pre ⟨T.setVm vm₁, locs, cells, slots⟩ (Value.ref b :: argsL).toArray) :
    (∃ (v : Option Value) (vm₁ : Vm) (B : Pt), s.WarmedH vm₁ ∧ Stand p l e R s m args below meth c B.U B.locs B.cells B.slots ∧ Post ⟨T.setVm vm₁, locs, cells, slots⟩ (Value.ref b :: argsL).toArray v B ∧
      ∀ target, Steps p.tables e below (B.U.setTop { g with pc := g.pc + 3, stack := v.toList ++ rest }) target → Steps p.tables e below (T.setTop g) target) ∨
    (∃ (q : Addr) (vm₁ : Vm) (B : Pt), s.WarmedH vm₁ ∧ Stand p l e R s m args below meth c B.U B.locs B.cells B.slots ∧ PostX ⟨T.setVm vm₁, locs, cells, slots⟩ (Value.ref b :: argsL).toArray q B ∧
      Steps p.tables e below (T.setTop g) ((B.U.setTop { g with stack := rest }).pushFrame (.throwing q))) := by
  obtain ⟨mk, methM, hnamed, hmethM, hstM, habM⟩ := Cond.instanceMethod_spec hinst
  obtain ⟨methM', cM, hmethM', -, -, -, -, -, -, hsigM⟩ := Cond.code_spec hnamed hcode
  cases hmethM.symm.trans hmethM'
  obtain ⟨c2, r2, m2, q1, q2, q3, q4, kP, hkP, hkPi⟩ := Cond.selects_spec hsel
  cases hcls.symm.trans q1
  cases (State.methodFound?_of_named hnamed hy).symm.trans q2
  cases hnamed.symm.trans q3
  have hselP : selectMethod e.platform s.vm cellB.cls mk = .method mk := by rw [Launch.admits_selectMethod X.admits]; exact q4
  obtain ⟨vm₁, X₁, hstep₁⟩ := X.invokevirtual hexec hown hlink hnamed hmethM hstM hkP hkPi hy (a := b) (cell := cellB) hcell
    (fun z h => by rw [h] at hobj; cases hobj) hselP hmethM habM hkP hkPi (g := g) hg (argsL := argsL) (rest := rest) (hlen _ hsigM) hstack hdg
  rcases hK m meth c ⟨T.setVm vm₁, locs, cells, slots⟩ { g with stack := rest } (.invokevirtual index) mk (Value.ref b :: argsL).toArray X₁ hg hsize hdg hW (X₁.named hnamed) (hpre vm₁ X₁.warmed) with ⟨v, B, X', hpost, hsteps⟩ | ⟨q, B, X', hpost, hsteps⟩
  · exact Or.inl ⟨v, vm₁, B, X₁.warmed, X', hpost, fun target h => hstep₁ _ fun acts => by rw [doInvoke_state]; exact hsteps.trans h⟩
  · exact Or.inr ⟨q, vm₁, B, X₁.warmed, X', hpost, hstep₁ _ fun acts => by rw [doInvoke_state]; exact hsteps⟩
theorem vx_callS (X : Stand p l e R s m args below meth c T locs cells slots) (hexec : p.tables.exec = Jvm.exec) {own : String} {index : Nat} {y : MethodName} {bytes : ByteArray} {maxL : Nat} {ret : Option FieldType}
    (hown : s.vm.findClass own = some m.cls) (hlink : (Cond.methodLink own index y).before args s = true) (hstat : (Cond.static y).before args s = true) (hinit : (Cond.initialized y.cls).before args s = true)
    (hcode : (Cond.code y bytes maxL ret).before args s = true) (hy : y.cls ≠ "java/lang/invoke/MethodHandle" ∧ y.cls ≠ "java/lang/invoke/VarHandle")
    {W9 : Nat} {Pre : Pt → Array Value → Prop} {Post : Pt → Array Value → Option Value → Pt → Prop} {PostX : Pt → Array Value → Addr → Pt → Prop} (hK : vx_Back l R p e below s args y 3 W9 Pre Post PostX)
    {g : JFrame} (hg : g.method = m) (hsize : g.locals.size = c.maxLocals) {argsL rest : List Value} (hlen : ∀ sig, parseMethodDescriptor y.desc = some sig → argsL.length = sig.parameters.length)
    (hstack : g.stack = argsL.reverse ++ rest) (hW : 2 * g.monitorRoom + (rest.map fun v => v.category).sum ≤ W9) (hdg : decode c.code g.pc = .ok (.invokestatic index, 3))
    (hpre : ∀ vm₁, s.WarmedH vm₁ → Pre ⟨T.setVm vm₁, locs, cells, slots⟩ argsL.toArray) :
    (∃ (v : Option Value) (vm₁ : Vm) (B : Pt), s.WarmedH vm₁ ∧ Stand p l e R s m args below meth c B.U B.locs B.cells B.slots ∧ Post ⟨T.setVm vm₁, locs, cells, slots⟩ argsL.toArray v B ∧
      ∀ target, Steps p.tables e below (B.U.setTop { g with pc := g.pc + 3, stack := v.toList ++ rest }) target → Steps p.tables e below (T.setTop g) target) ∨
    (∃ (q : Addr) (vm₁ : Vm) (B : Pt), s.WarmedH vm₁ ∧ Stand p l e R s m args below meth c B.U B.locs B.cells B.slots ∧ PostX ⟨T.setVm vm₁, locs, cells, slots⟩ argsL.toArray q B ∧
      Steps p.tables e below (T.setTop g) ((B.U.setTop { g with stack := rest }).pushFrame (.throwing q))) := by
  obtain ⟨mk, hnamed⟩ := Cond.code_named hcode
  obtain ⟨methM, cM, hmethM, -, -, -, -, -, -, hsigM⟩ := Cond.code_spec hnamed hcode
  have hstatic : methM.isStatic = true := Cond.static_spec hnamed hmethM hstat
  obtain ⟨kP, hkP, -⟩ := className_of_methodNamed hnamed
  have hinitP : kP.init = .initialized := Cond.initialized_spec (findClass_of_methodNamed hnamed) hkP hinit
  obtain ⟨vm₁, X₁, hstep₁⟩ := X.invokestatic hexec hown hlink hnamed hmethM hstatic hkP hinitP hy (g := g) hg (argsL := argsL) (rest := rest) (hlen _ hsigM) hstack hdg
  rcases hK m meth c ⟨T.setVm vm₁, locs, cells, slots⟩ { g with stack := rest } (.invokestatic index) mk argsL.toArray X₁ hg hsize hdg hW (X₁.named hnamed) (hpre vm₁ X₁.warmed) with ⟨v, B, X', hpost, hsteps⟩ | ⟨q, B, X', hpost, hsteps⟩
  · exact Or.inl ⟨v, vm₁, B, X₁.warmed, X', hpost, fun target h => hstep₁ _ fun acts => by rw [doInvoke_state]; exact hsteps.trans h⟩
  · exact Or.inr ⟨q, vm₁, B, X₁.warmed, X', hpost, hstep₁ _ fun acts => by rw [doInvoke_state]; exact hsteps⟩
end Calls
theorem vx_cls {s : State} {T : State} {vm₁ : Vm} {E : String} {k : ClassId} (hW : s.WarmedH vm₁) (h : (T.setVm vm₁).vm.findClass E = some k) : s.vm.findClass E = some k := by
  have h1 : vm₁.findClass E = some k := h
  rw [hW.alike.findClass] at h1
  exact h1
/-- the method's frame g, with q thrown over it -/
def vx_W (p : Program) (l : Launch) (e : Env) (R : Room) (s : State) (m : MethodId) (args : Array Value) (below : List Frame) (meth : Method) (c : Code) (H : Heap) (locs : List Loc) (cells slots : Nat) (Q : State → Prop) (g : JFrame) (q : Addr) : Prop :=
  ∀ T : State, T.heap = H → Stand p l e R s m args below meth c T locs cells slots → ∃ t, Steps p.tables e below ((T.setTop g).pushFrame (.throwing q)) t ∧ Q t
def vx_Run (p : Program) (l : Launch) (e : Env) (R : Room) (s : State) (m : MethodId) (args : Array Value) (below : List Frame) (meth : Method) (c : Code) (H : Heap) (locs : List Loc) (cells slots mc ms : Nat) (g : JFrame) (rest : List Value) (Qa : State → Outcome → State → Prop) (XC : String → State → State → Prop) (free : Addr → Prop) : Prop :=
  ∀ T : State, T.heap = H → Stand p l e R s m args below meth c T locs cells slots →
    (∃ (v : Option Value) (st₀ t T' : State) (L : List Loc), st₀.heap = H ∧ Stand p l e R s m args below meth c T' (locs ++ L) (cells + mc) (slots + ms) ∧ (∀ q ∈ L, free q.base) ∧ T'.heap = t.heap ∧ T'.vm = t.vm ∧ Qa st₀ (.returned v) t ∧
      Goes p e below T g T' { g with pc := g.pc + 3, stack := v.toList ++ rest }) ∨
    (∃ (q : Addr) (st₀ t T' : State) (L : List Loc) (E : String) (ce : Cell), st₀.heap = H ∧ Stand p l e R s m args below meth c T' (locs ++ L) (cells + mc) (slots + ms) ∧ (∀ z ∈ L, free z.base) ∧ T'.heap = t.heap ∧ T'.vm = t.vm ∧ XC E st₀ t ∧ t.heap[q]? = some ce ∧ ce.vm = .none ∧ s.vm.findClass E = some ce.cls ∧
      Steps p.tables e below (T.setTop g) ((T'.setTop { g with stack := rest }).pushFrame (.throwing q)))
def vx_X {S : Type} (px : S → Prop) (B : String → S → State → Prop) (A : Nat → Prop) : String → State → State → Prop := fun E st t => ∃ u : S, px u ∧ B E u t ∧ va_F A st t
section Runs
variable {p : Program} {l : Launch} {e : Env} {R : Room} {s : State} {m : MethodId} {args : Array Value} {below : List Frame} {meth : Method} {c : Code} {H : Heap} {locs : List Loc} {cells slots : Nat}
variable {y : MethodName} {bytes cc : ByteArray} {maxL nL mc ms n index : Nat} {ret : Option FieldType} {ws : List Cond} {rm : Room} {Pc : Array Value → State → Prop} {Qc : Array Value → State → Outcome → State → Prop} {XC : String → State → State → Prop} {free : Addr → Prop} {Ts : List Cond} {own C : String} {b : Addr} {As rest : List Value} {g : JFrame}
theorem vx_callBack (cb : CallB R s args own index y bytes maxL ret ws rm mc ms n) (hM : vx_Met l y ws rm Pc Qc XC mc ms free) (hbl : FrameBlind Pc) : vx_Back l R p e below s args y 3 8 (PreOf R mc ms Pc) (PostOf Qc mc ms free) (vx_Post XC mc ms free) := by
  obtain ⟨hrc, hrs, hfr, hlo, hws, hcw, -, hini, -⟩ := cb
  exact vx_back (bytes := bytes) (maxL := maxL) (ret := ret) hM hbl hrc hrs hfr hlo hws hcw (fun a' U hW => word_at hW (Or.inl (by first | rfl | simp [Cond.onTables, Cond.keeps, Cond.steady])) hini)
theorem vx_runV (S : CallFix p m c cc nL s args Ts own) (hM : vx_Met l y ws rm Pc Qc XC mc ms free) (cw : CallW R s args own C index y bytes maxL ret ws rm mc ms n) (hp : PreV s H C b Pc As)
    (hg : g.method = m) (hn : As.length = n) (hsize : g.locals.size = nL) (hstack : g.stack = As.reverse ++ .ref b :: rest) (hW : 2 * g.monitorRoom + (rest.map fun v => v.category).sum ≤ 8) (hdg : decode cc g.pc = .ok (.invokevirtual index, 3)) (hf : cells + mc ≤ R.cells ∧ slots + ms ≤ R.slots) :
    vx_Run p l e R s m args below meth c H locs cells slots mc ms g rest (Qc (Value.ref b :: As).toArray) XC free := by
  have hK : vx_Back l R p e below s args y 3 8 (PreOf R mc ms Pc) (PostOf Qc mc ms free) (vx_Post XC mc ms free) := vx_callBack cw.1 hM hp.1
  obtain ⟨⟨-, -, -, -, -, -, hcode, -, hy, hlen, hl⟩, hin, hse⟩ := cw
  obtain ⟨hx, hb, hml, ho, -⟩ := S
  obtain ⟨-, ⟨cellB, hcB, hoB, hclB⟩, hPc⟩ := hp
  intro T hT X
  rcases vx_callV X hx (C := C) (bytes := bytes) (maxL := maxL) (ret := ret) ho hl hin hse hcode hy hK (by rw [hT]; exact hcB) hoB hclB hg (hsize.trans hml.symm) (argsL := As) (rest := rest) (fun sig h => hn.trans (hlen sig h)) hstack hW (by rw [hb]; exact hdg)
    (fun vm₁ hW₁ => ⟨hf.1, hf.2, hPc (T.setVm vm₁) hT hW₁⟩) with ⟨v, vm₁, ⟨U', l2, c2, s2⟩, hW₁, X', ⟨g', mk, t, L, e1, e2, hq, h1, hL, h2, h3⟩, st⟩ | ⟨q, vm₁, ⟨U', l2, c2, s2⟩, hW₁, X', ⟨g', mk, t, L, E, ce, e1, e2, hq, hce, hcv, hcl, h1, hL, h2, h3⟩, st⟩
  · dsimp only [Pt.U, Pt.locs, Pt.cells, Pt.slots] at X' e1 e2 h1 h2 h3 st
    subst h1; subst h2; subst h3
    exact Or.inl ⟨v, (T.setVm vm₁).calling g' mk (Value.ref b :: As).toArray, t, U', L, hT, X', hL, e1, e2, hq, st⟩
  · dsimp only [Pt.U, Pt.locs, Pt.cells, Pt.slots] at X' e1 e2 h1 h2 h3 st hcl
    subst h1; subst h2; subst h3
    exact Or.inr ⟨q, (T.setVm vm₁).calling g' mk (Value.ref b :: As).toArray, t, U', L, E, ce, hT, X', hL, e1, e2, hq, hce, hcv, vx_cls hW₁ hcl, st⟩
theorem vx_runS (S : CallFix p m c cc nL s args Ts own) (hM : vx_Met l y ws rm Pc Qc XC mc ms free) (cw : CallB R s args own index y bytes maxL ret ws rm mc ms n ∧ (Cond.static y).before args s = true) (hp : PreS s H Pc As)
    (hg : g.method = m) (hn : As.length = n) (hsize : g.locals.size = nL) (hstack : g.stack = As.reverse ++ rest) (hW : 2 * g.monitorRoom + (rest.map fun v => v.category).sum ≤ 8) (hdg : decode cc g.pc = .ok (.invokestatic index, 3)) (hf : cells + mc ≤ R.cells ∧ slots + ms ≤ R.slots) :
    vx_Run p l e R s m args below meth c H locs cells slots mc ms g rest (Qc As.toArray) XC free := by
  have hK : vx_Back l R p e below s args y 3 8 (PreOf R mc ms Pc) (PostOf Qc mc ms free) (vx_Post XC mc ms free) := vx_callBack cw.1 hM hp.1
  obtain ⟨⟨-, -, -, -, -, -, hcode, hini, hy, hlen, hl⟩, hstt⟩ := cw
  obtain ⟨hx, hb, hml, ho, -⟩ := S
  intro T hT X
  rcases vx_callS X hx (bytes := bytes) (maxL := maxL) (ret := ret) ho hl hstt hini hcode hy hK hg (hsize.trans hml.symm) (argsL := As) (rest := rest) (fun sig h => hn.trans (hlen sig h)) hstack hW (by rw [hb]; exact hdg)
    (fun vm₁ hW₁ => ⟨hf.1, hf.2, hp.2 (T.setVm vm₁) hT hW₁⟩) with ⟨v, vm₁, ⟨U', l2, c2, s2⟩, hW₁, X', ⟨g', mk, t, L, e1, e2, hq, h1, hL, h2, h3⟩, st⟩ | ⟨q, vm₁, ⟨U', l2, c2, s2⟩, hW₁, X', ⟨g', mk, t, L, E, ce, e1, e2, hq, hce, hcv, hcl, h1, hL, h2, h3⟩, st⟩
  · dsimp only [Pt.U, Pt.locs, Pt.cells, Pt.slots] at X' e1 e2 h1 h2 h3 st
    subst h1; subst h2; subst h3
    exact Or.inl ⟨v, (T.setVm vm₁).calling g' mk As.toArray, t, U', L, hT, X', hL, e1, e2, hq, st⟩
  · dsimp only [Pt.U, Pt.locs, Pt.cells, Pt.slots] at X' e1 e2 h1 h2 h3 st hcl
    subst h1; subst h2; subst h3
    exact Or.inr ⟨q, (T.setVm vm₁).calling g' mk As.toArray, t, U', L, E, ce, hT, X', hL, e1, e2, hq, hce, hcv, vx_cls hW₁ hcl, st⟩
end Runs
section Rows
variable {p : Program} {l : Launch} {e : Env} {R : Room} {s : State} {m : MethodId} {args : Array Value} {below : List Frame} {meth : Method} {c : Code} {H : Heap} {locs : List Loc} {cells slots : Nat} {Q : State → Prop}
variable {mc ms : Nat} {free : Addr → Prop} {A0 A1 : Nat → Prop} {H0 : Heap} {a : Array Value} {pc : Nat} {ls : Array Slot} {st0 rest : List Value}
theorem vx_keep {st₀ t T' : State} {L : List Loc} (h0 : st₀.heap = H) (e1 : T'.heap = t.heap) (hS : va_S A0 H0 H locs) (hA : ∀ q, q < H.size → A1 q → A0 q) (hf : ∀ q, free q → A0 q) (hL : ∀ q ∈ L, free q.base) (hF : va_F A1 st₀ t) :
    H.size ≤ T'.heap.size ∧ (∀ q : Nat, q < H.size → ¬ A1 q → T'.heap[q]? = H[q]?) ∧ va_S A0 H0 T'.heap (locs ++ L) := by
  obtain ⟨hz, hk⟩ := hF
  rw [h0] at hz hk
  exact ⟨by rw [e1]; exact hz, fun q h1 h2 => by rw [e1]; exact hk q h1 h2,
    ⟨Nat.le_trans hS.1 (by rw [e1]; exact hz), fun q h1 h2 => by rw [e1, hk q (Nat.lt_of_lt_of_le h1 hS.1) (fun z => h2 (hA q (Nat.lt_of_lt_of_le h1 hS.1) z))]; exact hS.2.1 q h1 h2, fun q hq => by
      rcases List.mem_append.mp hq with h | h
      · exact hS.2.2 q h
      · exact hf _ (hL q h)⟩⟩
theorem vx_calli {S SX : Type} {post : Int32 → S → Prop} {px : SX → Prop} {B : S → State → Prop} {BX : String → SX → State → Prop} {AX : Nat → Prop} (hr : vx_Run p l e R s m args below meth c H locs cells slots mc ms (F0 m pc ls st0) rest (va_Qi post B A1 a) (vx_X px BX AX) free) (hS : va_S A0 H0 H locs) (hA : ∀ q, q < H.size → A1 q → A0 q) (hf : ∀ q, free q → A0 q) (hAX : ∀ q, q < H.size → AX q → A0 q)
    (kx : ∀ (E : String) (ce : Cell) (q9 : Addr) (u : SX) (t : State) (H1 : Heap) (locs1 : List Loc), t.heap = H1 → s.vm.Alike t.vm → px u → BX E u t → H.size ≤ H1.size → (∀ q : Nat, q < H.size → ¬ AX q → H1[q]? = H[q]?) → va_S A0 H0 H1 locs1 → H1[q9]? = some ce → ce.vm = .none → s.vm.findClass E = some ce.cls → vx_W p l e R s m args below meth c H1 locs1 (cells + mc) (slots + ms) Q (F0 m pc ls rest) q9)
    (kk : ∀ (r : Int32) (u : S) (t : State) (H1 : Heap) (locs1 : List Loc), t.heap = H1 → s.vm.Alike t.vm → post r u → B u t → H.size ≤ H1.size → (∀ q : Nat, q < H.size → ¬ A1 q → H1[q]? = H[q]?) → va_S A0 H0 H1 locs1 → W p l e R s m args below meth c H1 locs1 (cells + mc) (slots + ms) Q (F0 m (pc + 3) ls (.int r :: rest))) : W p l e R s m args below meth c H locs cells slots Q (F0 m pc ls st0) := by
  intro T hT X
  rcases hr T hT X with ⟨v, st₀, t, T', L, h0, X', hL, e1, e2, ⟨⟨r, u, hv, hp, hb⟩, hF⟩, st⟩ | ⟨q, st₀, t, T', L, E, ce, h0, X', hL, e1, e2, ⟨u, hp, hb, hF⟩, hce, hcv, hcl, st⟩
  · cases hv
    obtain ⟨k1, k2, k3⟩ := vx_keep h0 e1 hS hA hf hL hF
    obtain ⟨t2, a1, b1⟩ := kk r u t T'.heap (locs ++ L) e1.symm (by rw [← e2]; exact X'.warmed.alike) hp hb k1 k2 k3 T' rfl X'
    exact ⟨t2, st t2 a1, b1⟩
  · obtain ⟨k1, k2, k3⟩ := vx_keep h0 e1 hS hAX hf hL hF
    obtain ⟨t2, a1, b1⟩ := kx E ce q u t T'.heap (locs ++ L) e1.symm (by rw [← e2]; exact X'.warmed.alike) hp hb k1 k2 k3 (by rw [e1]; exact hce) hcv hcl T' rfl X'
    exact ⟨t2, st.trans a1, b1⟩
theorem vx_calll {S SX : Type} {post : Int64 → S → Prop} {px : SX → Prop} {B : S → State → Prop} {BX : String → SX → State → Prop} {AX : Nat → Prop} (hr : vx_Run p l e R s m args below meth c H locs cells slots mc ms (F0 m pc ls st0) rest (va_Ql post B A1 a) (vx_X px BX AX) free) (hS : va_S A0 H0 H locs) (hA : ∀ q, q < H.size → A1 q → A0 q) (hf : ∀ q, free q → A0 q) (hAX : ∀ q, q < H.size → AX q → A0 q)
    (kx : ∀ (E : String) (ce : Cell) (q9 : Addr) (u : SX) (t : State) (H1 : Heap) (locs1 : List Loc), t.heap = H1 → s.vm.Alike t.vm → px u → BX E u t → H.size ≤ H1.size → (∀ q : Nat, q < H.size → ¬ AX q → H1[q]? = H[q]?) → va_S A0 H0 H1 locs1 → H1[q9]? = some ce → ce.vm = .none → s.vm.findClass E = some ce.cls → vx_W p l e R s m args below meth c H1 locs1 (cells + mc) (slots + ms) Q (F0 m pc ls rest) q9)
    (kk : ∀ (r : Int64) (u : S) (t : State) (H1 : Heap) (locs1 : List Loc), t.heap = H1 → s.vm.Alike t.vm → post r u → B u t → H.size ≤ H1.size → (∀ q : Nat, q < H.size → ¬ A1 q → H1[q]? = H[q]?) → va_S A0 H0 H1 locs1 → W p l e R s m args below meth c H1 locs1 (cells + mc) (slots + ms) Q (F0 m (pc + 3) ls (.long r :: rest))) : W p l e R s m args below meth c H locs cells slots Q (F0 m pc ls st0) := by
  intro T hT X
  rcases hr T hT X with ⟨v, st₀, t, T', L, h0, X', hL, e1, e2, ⟨⟨r, u, hv, hp, hb⟩, hF⟩, st⟩ | ⟨q, st₀, t, T', L, E, ce, h0, X', hL, e1, e2, ⟨u, hp, hb, hF⟩, hce, hcv, hcl, st⟩
  · cases hv
    obtain ⟨k1, k2, k3⟩ := vx_keep h0 e1 hS hA hf hL hF
    obtain ⟨t2, a1, b1⟩ := kk r u t T'.heap (locs ++ L) e1.symm (by rw [← e2]; exact X'.warmed.alike) hp hb k1 k2 k3 T' rfl X'
    exact ⟨t2, st t2 a1, b1⟩
  · obtain ⟨k1, k2, k3⟩ := vx_keep h0 e1 hS hAX hf hL hF
    obtain ⟨t2, a1, b1⟩ := kx E ce q u t T'.heap (locs ++ L) e1.symm (by rw [← e2]; exact X'.warmed.alike) hp hb k1 k2 k3 (by rw [e1]; exact hce) hcv hcl T' rfl X'
    exact ⟨t2, st.trans a1, b1⟩
theorem vx_callf {S SX : Type} {post : UInt32 → S → Prop} {px : SX → Prop} {B : S → State → Prop} {BX : String → SX → State → Prop} {AX : Nat → Prop} (hr : vx_Run p l e R s m args below meth c H locs cells slots mc ms (F0 m pc ls st0) rest (va_Qf post B A1 a) (vx_X px BX AX) free) (hS : va_S A0 H0 H locs) (hA : ∀ q, q < H.size → A1 q → A0 q) (hf : ∀ q, free q → A0 q) (hAX : ∀ q, q < H.size → AX q → A0 q)
    (kx : ∀ (E : String) (ce : Cell) (q9 : Addr) (u : SX) (t : State) (H1 : Heap) (locs1 : List Loc), t.heap = H1 → s.vm.Alike t.vm → px u → BX E u t → H.size ≤ H1.size → (∀ q : Nat, q < H.size → ¬ AX q → H1[q]? = H[q]?) → va_S A0 H0 H1 locs1 → H1[q9]? = some ce → ce.vm = .none → s.vm.findClass E = some ce.cls → vx_W p l e R s m args below meth c H1 locs1 (cells + mc) (slots + ms) Q (F0 m pc ls rest) q9)
    (kk : ∀ (r : UInt32) (u : S) (t : State) (H1 : Heap) (locs1 : List Loc), t.heap = H1 → s.vm.Alike t.vm → post r u → B u t → H.size ≤ H1.size → (∀ q : Nat, q < H.size → ¬ A1 q → H1[q]? = H[q]?) → va_S A0 H0 H1 locs1 → W p l e R s m args below meth c H1 locs1 (cells + mc) (slots + ms) Q (F0 m (pc + 3) ls (.float r :: rest))) : W p l e R s m args below meth c H locs cells slots Q (F0 m pc ls st0) := by
  intro T hT X
  rcases hr T hT X with ⟨v, st₀, t, T', L, h0, X', hL, e1, e2, ⟨⟨r, u, hv, hp, hb⟩, hF⟩, st⟩ | ⟨q, st₀, t, T', L, E, ce, h0, X', hL, e1, e2, ⟨u, hp, hb, hF⟩, hce, hcv, hcl, st⟩
  · cases hv
    obtain ⟨k1, k2, k3⟩ := vx_keep h0 e1 hS hA hf hL hF
    obtain ⟨t2, a1, b1⟩ := kk r u t T'.heap (locs ++ L) e1.symm (by rw [← e2]; exact X'.warmed.alike) hp hb k1 k2 k3 T' rfl X'
    exact ⟨t2, st t2 a1, b1⟩
  · obtain ⟨k1, k2, k3⟩ := vx_keep h0 e1 hS hAX hf hL hF
    obtain ⟨t2, a1, b1⟩ := kx E ce q u t T'.heap (locs ++ L) e1.symm (by rw [← e2]; exact X'.warmed.alike) hp hb k1 k2 k3 (by rw [e1]; exact hce) hcv hcl T' rfl X'
    exact ⟨t2, st.trans a1, b1⟩
theorem vx_calld {S SX : Type} {post : UInt64 → S → Prop} {px : SX → Prop} {B : S → State → Prop} {BX : String → SX → State → Prop} {AX : Nat → Prop} (hr : vx_Run p l e R s m args below meth c H locs cells slots mc ms (F0 m pc ls st0) rest (va_Qd post B A1 a) (vx_X px BX AX) free) (hS : va_S A0 H0 H locs) (hA : ∀ q, q < H.size → A1 q → A0 q) (hf : ∀ q, free q → A0 q) (hAX : ∀ q, q < H.size → AX q → A0 q)
    (kx : ∀ (E : String) (ce : Cell) (q9 : Addr) (u : SX) (t : State) (H1 : Heap) (locs1 : List Loc), t.heap = H1 → s.vm.Alike t.vm → px u → BX E u t → H.size ≤ H1.size → (∀ q : Nat, q < H.size → ¬ AX q → H1[q]? = H[q]?) → va_S A0 H0 H1 locs1 → H1[q9]? = some ce → ce.vm = .none → s.vm.findClass E = some ce.cls → vx_W p l e R s m args below meth c H1 locs1 (cells + mc) (slots + ms) Q (F0 m pc ls rest) q9)
    (kk : ∀ (r : UInt64) (u : S) (t : State) (H1 : Heap) (locs1 : List Loc), t.heap = H1 → s.vm.Alike t.vm → post r u → B u t → H.size ≤ H1.size → (∀ q : Nat, q < H.size → ¬ A1 q → H1[q]? = H[q]?) → va_S A0 H0 H1 locs1 → W p l e R s m args below meth c H1 locs1 (cells + mc) (slots + ms) Q (F0 m (pc + 3) ls (.double r :: rest))) : W p l e R s m args below meth c H locs cells slots Q (F0 m pc ls st0) := by
  intro T hT X
  rcases hr T hT X with ⟨v, st₀, t, T', L, h0, X', hL, e1, e2, ⟨⟨r, u, hv, hp, hb⟩, hF⟩, st⟩ | ⟨q, st₀, t, T', L, E, ce, h0, X', hL, e1, e2, ⟨u, hp, hb, hF⟩, hce, hcv, hcl, st⟩
  · cases hv
    obtain ⟨k1, k2, k3⟩ := vx_keep h0 e1 hS hA hf hL hF
    obtain ⟨t2, a1, b1⟩ := kk r u t T'.heap (locs ++ L) e1.symm (by rw [← e2]; exact X'.warmed.alike) hp hb k1 k2 k3 T' rfl X'
    exact ⟨t2, st t2 a1, b1⟩
  · obtain ⟨k1, k2, k3⟩ := vx_keep h0 e1 hS hAX hf hL hF
    obtain ⟨t2, a1, b1⟩ := kx E ce q u t T'.heap (locs ++ L) e1.symm (by rw [← e2]; exact X'.warmed.alike) hp hb k1 k2 k3 (by rw [e1]; exact hce) hcv hcl T' rfl X'
    exact ⟨t2, st.trans a1, b1⟩
theorem vx_callv {S SX : Type} {post : S → Prop} {px : SX → Prop} {B : S → State → Prop} {BX : String → SX → State → Prop} {AX : Nat → Prop} (hr : vx_Run p l e R s m args below meth c H locs cells slots mc ms (F0 m pc ls st0) rest (va_Qv post B A1 a) (vx_X px BX AX) free) (hS : va_S A0 H0 H locs) (hA : ∀ q, q < H.size → A1 q → A0 q) (hf : ∀ q, free q → A0 q) (hAX : ∀ q, q < H.size → AX q → A0 q)
    (kx : ∀ (E : String) (ce : Cell) (q9 : Addr) (u : SX) (t : State) (H1 : Heap) (locs1 : List Loc), t.heap = H1 → s.vm.Alike t.vm → px u → BX E u t → H.size ≤ H1.size → (∀ q : Nat, q < H.size → ¬ AX q → H1[q]? = H[q]?) → va_S A0 H0 H1 locs1 → H1[q9]? = some ce → ce.vm = .none → s.vm.findClass E = some ce.cls → vx_W p l e R s m args below meth c H1 locs1 (cells + mc) (slots + ms) Q (F0 m pc ls rest) q9)
    (kk : ∀ (u : S) (t : State) (H1 : Heap) (locs1 : List Loc), t.heap = H1 → s.vm.Alike t.vm → post u → B u t → H.size ≤ H1.size → (∀ q : Nat, q < H.size → ¬ A1 q → H1[q]? = H[q]?) → va_S A0 H0 H1 locs1 → W p l e R s m args below meth c H1 locs1 (cells + mc) (slots + ms) Q (F0 m (pc + 3) ls (rest))) : W p l e R s m args below meth c H locs cells slots Q (F0 m pc ls st0) := by
  intro T hT X
  rcases hr T hT X with ⟨v, st₀, t, T', L, h0, X', hL, e1, e2, ⟨⟨u, hv, hp, hb⟩, hF⟩, st⟩ | ⟨q, st₀, t, T', L, E, ce, h0, X', hL, e1, e2, ⟨u, hp, hb, hF⟩, hce, hcv, hcl, st⟩
  · cases hv
    obtain ⟨k1, k2, k3⟩ := vx_keep h0 e1 hS hA hf hL hF
    obtain ⟨t2, a1, b1⟩ := kk u t T'.heap (locs ++ L) e1.symm (by rw [← e2]; exact X'.warmed.alike) hp hb k1 k2 k3 T' rfl X'
    exact ⟨t2, st t2 a1, b1⟩
  · obtain ⟨k1, k2, k3⟩ := vx_keep h0 e1 hS hAX hf hL hF
    obtain ⟨t2, a1, b1⟩ := kx E ce q u t T'.heap (locs ++ L) e1.symm (by rw [← e2]; exact X'.warmed.alike) hp hb k1 k2 k3 (by rw [e1]; exact hce) hcv hcl T' rfl X'
    exact ⟨t2, st.trans a1, b1⟩
/-- caught by the row x of this method's table; the rows ahead don't take it -/
theorem vx_catch {own name : String} {E : String} {ce : Cell} {q : Addr} (hown : s.vm.findClass own = some m.cls) (pre : List ExceptionTableEntry) (x : ExceptionTableEntry) (suf : List ExceptionTableEntry) (hsplit : c.exceptionTable.toList = pre ++ x :: suf)
    (hpass : ∀ z ∈ pre, covers z pc = false ∨ (z.catchType ≠ 0 ∧ ∃ nm : String, (Cond.classLink own z.catchType nm).before args s = true ∧ va_Nc E nm s)) (hx : covers x pc = true) (h0 : x.catchType ≠ 0)
    (hlink : (Cond.classLink own x.catchType name).before args s = true) (hcast : (Cond.castable E name).before args s = true) (hcell : H[q]? = some ce) (hv : ce.vm = .none) (hcl : s.vm.findClass E = some ce.cls)
    (kk : W p l e R s m args below meth c H locs cells slots Q (F0 m x.handlerPc ls [.ref q])) : vx_W p l e R s m args below meth c H locs cells slots Q (F0 m pc ls rest) q := by
  intro T hT X
  have hpl : e.platform.magicAccessors = ({} : Platform).magicAccessors := by rw [X.admits.platform]
  obtain ⟨c3, c4, hc3, hc4, hasg⟩ := Cond.castable_spec hcast
  cases Option.some.inj (hc3.symm.trans hcl)
  obtain ⟨c5, hc5, hcl5⟩ := Cond.classLink_spec hown hlink e.platform hpl
  cases Option.some.inj (hc4.symm.trans hc5)
  obtain ⟨vm', X', st⟩ := X.thenCaughtThrough q (g := F0 m pc ls rest) rfl (Steps.refl _) (by rw [hT]; exact hcell) (by rw [hv]; rfl) (by obtain ⟨k9, h9, -⟩ := Vm.findClass_spec hcl; exact ⟨k9, h9⟩) pre x suf hsplit
    (fun z hz => by
      rcases hpass z hz with h | ⟨hz0, nm, hl1, hn1⟩
      · exact Or.inl h
      · obtain ⟨c6, hc6, hcl6⟩ := Cond.classLink_spec hown hl1 e.platform hpl
        obtain ⟨a8, b8, h1, h2, h3⟩ := hn1
        cases Option.some.inj (h1.symm.trans hcl)
        cases Option.some.inj (h2.symm.trans hc6)
        exact Or.inr ⟨hz0, _, hcl6, h3⟩) hx (Or.inr ⟨h0, c4, hcl5, hasg⟩)
  obtain ⟨t, a1, b1⟩ := kk (T.setVm vm') hT X'
  exact ⟨t, st.trans a1, b1⟩
end Rows
section Ends
variable {p : Program} {l : Launch} {e : Env} {R : Room} {s : State} {m : MethodId} {args : Array Value} {below : List Frame} {meth : Method} {c : Code} {H : Heap} {locs : List Loc} {cells slots : Nat} {Q : State → Prop}
variable {mc ms : Nat} {free : Addr → Prop} {A0 A1 : Nat → Prop} {H0 : Heap} {a : Array Value} {ls : Array Slot} {st0 rest : List Value}
variable {Qc : Array Value → State → Outcome → State → Prop} {XC : String → State → State → Prop}
/-- what a body that may throw owes at its end -/
def vx_MQ (below : List Frame) (Qc : Array Value → State → Outcome → State → Prop) (XC : String → State → State → Prop) (a : Array Value) (s : State) (mc ms : Nat) (free : Addr → Prop) : State → Prop := fun t =>
  ∃ o, t.status = .running ∧ Ended t below o ∧ vx_Q Qc XC mc ms free a s o t
theorem vx_ret {g : JFrame} {mc ms : Nat} (k : W p l e R s m args below meth c H locs cells slots (MQ below Qc args s mc ms free) g) : W p l e R s m args below meth c H locs cells slots (vx_MQ below Qc XC args s mc ms free) g := by
  intro T hT X
  obtain ⟨t, a1, o, b1, b2, b3, b4⟩ := k T hT X
  exact ⟨t, a1, o, b1, b2, Or.inl ⟨b3, b4⟩⟩
/-- not caught here: it goes on to the caller -/
theorem vx_widen {g : JFrame} {q : Addr} {k n : Nat} (h1 : cells ≤ k) (h2 : slots ≤ n) (kk : vx_W p l e R s m args below meth c H locs k n Q g q) : vx_W p l e R s m args below meth c H locs cells slots Q g q := fun T hT X => kk T hT (stand_widen X h1 h2)
theorem vx_out {pc : Nat} {E : String} {ce : Cell} {q : Addr} {mc ms : Nat} (hout : ∀ x ∈ c.exceptionTable.toList, covers x pc = false) (hlocks : meth.locks = false) (hcell : H[q]? = some ce) (hv : ce.vm = .none) (hcl : s.vm.findClass E = some ce.cls)
    (hx : ∀ t : State, t.heap = H → s.vm.Alike t.vm → XC E s t) (hf : ∀ z ∈ locs, free z.base) (hc : cells ≤ mc) (hs : slots ≤ ms) :
    vx_W p l e R s m args below meth c H locs cells slots (vx_MQ below Qc XC args s mc ms free) (F0 m pc ls rest) q := by
  intro T hT X
  obtain ⟨st1, hrun, hend, hW, hsm⟩ := X.leaveThrown q (g := F0 m pc ls rest) rfl rfl rfl hout hlocks
  have hcell9 : (T.setFrames (.throwing q :: below)).heap[q]? = some ce := by
    show T.heap[q]? = some ce
    rw [hT]; exact hcell
  exact ⟨_, st1, .threw q, hrun, hend, Or.inr ⟨q, rfl, E, ce, locs, hx _ hT hW.alike, hcell9, hv, hcl, hW, hsm.mono hc hs, hf⟩⟩
theorem vx_frame {U : State} {k n : Nat} (h : s.sameButNew ({ U with vm := s.vm } : State) locs k n) : s.heap.size ≤ U.heap.size ∧ ∀ q : Nat, q < s.heap.size → (∀ z ∈ locs, z.base ≠ q) → U.heap[q]? = s.heap[q]? := by
  obtain ⟨-, h2, -, -, -, h6⟩ := h
  refine ⟨h2, fun q hq hz => ?_⟩
  obtain ⟨c9, e1, e2, e3, e4⟩ := h6 q _ (Array.getElem?_eq_getElem hq)
  have hs : c9.slots = (s.heap[q]).slots := Array.ext_getElem? fun i => e4 i fun hm => hz _ hm rfl
  have h9 : c9 = s.heap[q] := by
    rw [hs] at e2
    exact e2
  have e5 : U.heap[q]? = some c9 := e1
  rw [e5, h9, Array.getElem?_eq_getElem hq]
/-- the words of a throw but the four that speak of the heap -/
def vx_no (w : Cond) : Bool := decide (w ≠ .isRef (.static Bundle.tN "UNASSIGNED_STACK" Bundle.steD)) && decide (w ≠ .isRef (.static Bundle.tN "SUPPRESSED_SENTINEL" Bundle.listD)) && decide (w ≠ .laysStatic Bundle.tN "UNASSIGNED_STACK" Bundle.steD) && decide (w ≠ .laysStatic Bundle.tN "SUPPRESSED_SENTINEL" Bundle.listD)
def vx_at0 (own : String) (ic : Nat) (X : String) (names : List String) : List Cond := (Bundle.ownAtoms0 own ic X names).filter vx_no
def vx_atS (own : String) (ic : Nat) (X : String) (names : List String) : List Cond := (Bundle.ownAtoms own ic X names).filter vx_no
/-- a word that the tables alone decide, or a good one -/
def vx_ot (w : Cond) : Bool := w.onTables || goodWord w
theorem vx_ot_at {args a' : Array Value} {s U : State} {w : Cond} (hW : s.WarmedH U.vm) (hvm : s.vm = U.vm) (hg : vx_ot w = true) (h : w.before args s = true) : w.before a' U = true := by
  simp only [vx_ot, Bool.or_eq_true] at hg
  rcases hg with hg | hg
  · exact va_tabs hg hvm h
  · exact word_at hW (good_of_word hg) h
/-- a list's words: the good ones out of the method's own list, the others by premises of their own -/
theorem vx_hat {args : Array Value} {s : State} {L B : List Cond} (h1 : ∀ w ∈ L.filter goodWord, w.before args s = true) (h2 : ∀ w ∈ L.filter (fun w => !goodWord w), w ∈ B) (h3 : ∀ w ∈ B, w.before args s = true) : ∀ w ∈ L, w.before args s = true := by
  intro w hw
  by_cases g : goodWord w = true
  · exact h1 w (List.mem_filter.mpr ⟨hw, g⟩)
  · refine h3 w (h2 w (List.mem_filter.mpr ⟨hw, ?_⟩))
    show (!goodWord w) = true
    cases hgw : goodWord w
    · rfl
    · exact absurd hgw g
theorem vx_c {args : Array Value} {s : State} {w : Cond} {B : List Cond} (h : w.before args s = true) (t : ∀ w ∈ B, w.before args s = true) : ∀ w' ∈ w :: B, w'.before args s = true := fun w' h' => (List.mem_cons.mp h').elim (fun e => by rw [e]; exact h) (t w')
theorem vx_n {args : Array Value} {s : State} : ∀ w ∈ ([] : List Cond), w.before args s = true := fun _ h => nomatch h
theorem vx_own {args : Array Value} {s : State} {L : List Cond} (h1 : ∀ w ∈ L.filter vx_no, w.before args s = true)
    (hU : (Cond.isRef (.static Bundle.tN "UNASSIGNED_STACK" Bundle.steD)).before args s = true) (hN : (Cond.isRef (.static Bundle.tN "SUPPRESSED_SENTINEL" Bundle.listD)).before args s = true)
    (lU : (Cond.laysStatic Bundle.tN "UNASSIGNED_STACK" Bundle.steD).before args s = true) (lN : (Cond.laysStatic Bundle.tN "SUPPRESSED_SENTINEL" Bundle.listD).before args s = true) : ∀ w ∈ L, w.before args s = true := by
  intro w hw
  by_cases e1 : w = .isRef (.static Bundle.tN "UNASSIGNED_STACK" Bundle.steD)
  · rw [e1]; exact hU
  · by_cases e2 : w = .isRef (.static Bundle.tN "SUPPRESSED_SENTINEL" Bundle.listD)
    · rw [e2]; exact hN
    · by_cases e3 : w = .laysStatic Bundle.tN "UNASSIGNED_STACK" Bundle.steD
      · rw [e3]; exact lU
      · by_cases e4 : w = .laysStatic Bundle.tN "SUPPRESSED_SENTINEL" Bundle.listD
        · rw [e4]; exact lN
        · exact h1 w (List.mem_filter.mpr ⟨hw, by unfold vx_no; rw [decide_eq_true e1, decide_eq_true e2, decide_eq_true e3, decide_eq_true e4]; rfl⟩)
/-- where a static field lies, its class's statics cell in H -/
def vx_L (C n d : String) (A : Nat → Prop) (U : State) (H : Heap) : Prop := ∃ (c : ClassId) (k : Class) (i : Nat) (f : Field) (a : Nat) (cell : Cell), U.vm.findClass C = some c ∧ U.fieldFound? C n d = some (c, k, i, f) ∧ f.isStatic = true ∧ k.statics = some a ∧ H[a]? = some cell ∧ cell.vm.isStatics = true ∧ cell.cls = c ∧ f.slot < cell.slots.size ∧ k.staticTypes[f.slot]? = some f.type ∧ ¬ A a
theorem vx_L.moved {C n d : String} {A : Nat → Prop} {u U : State} {H : Heap} (hvm : u.vm.Alike U.vm) (h : vx_L C n d A u H) : vx_L C n d A U H := by
  obtain ⟨c, k, i, f, a, cell, h1, h2, h3, h4, h5, h6, h7, h8, h9, h10⟩ := h
  obtain ⟨k', hi', he⟩ := State.fieldFound?_setVm hvm h2
  exact ⟨c, k', i, f, a, cell, by rw [hvm.findClass]; exact h1, hi', h3, by rw [he]; exact h4, h5, h6, h7, h8, by rw [he]; exact h9, h10⟩
theorem vx_L.kept {C n d : String} {A : Nat → Prop} {U : State} {H H1 : Heap} (h : vx_L C n d A U H) (hq : ∀ a : Nat, a < H.size → ¬ A a → H1[a]? = H[a]?) : vx_L C n d A U H1 := by
  obtain ⟨c, k, i, f, a, cell, h1, h2, h3, h4, h5, h6, h7, h8, h9, h10⟩ := h
  exact ⟨c, k, i, f, a, cell, h1, h2, h3, h4, by rw [hq a (Array.getElem?_eq_some_iff.mp h5).1 h10]; exact h5, h6, h7, h8, h9, h10⟩
theorem vx_L.narrow {C n d : String} {A B : Nat → Prop} {U : State} {H : Heap} (h : vx_L C n d A U H) (hAB : ∀ q, B q → A q) : vx_L C n d B U H := by
  obtain ⟨c, k, i, f, a, cell, h1, h2, h3, h4, h5, h6, h7, h8, h9, h10⟩ := h
  exact ⟨c, k, i, f, a, cell, h1, h2, h3, h4, h5, h6, h7, h8, h9, fun z => h10 (hAB _ z)⟩
theorem vx_L.word {C n d : String} {A : Nat → Prop} {s : State} {args : Array Value} (h : vx_L C n d A s s.heap) : (Cond.laysStatic C n d).before args s = true := by
  obtain ⟨c, k, i, f, a, cell, h1, h2, h3, h4, h5, h6, h7, h8, h9, -⟩ := h
  show (Cond.laysStatic C n d).holds args s none s [] = true
  exact Cond.laysStatic_of h1 h2 h3 h4 h5 h6 h7 h8 h9
/-- .. and what it holds: null or some reference -/
def vx_Zq (C n d : String) (A : Nat → Prop) (U : State) (H : Heap) : Prop := va_Zq C n d A U H ∧ vx_L C n d A U H
theorem vx_Zq.moved {C n d : String} {A : Nat → Prop} {u U : State} {H : Heap} (hvm : u.vm.Alike U.vm) (h : vx_Zq C n d A u H) : vx_Zq C n d A U H := ⟨va_Zq.moved hvm h.1, vx_L.moved hvm h.2⟩
theorem vx_Zq.kept {C n d : String} {A : Nat → Prop} {U : State} {H H1 : Heap} (h : vx_Zq C n d A U H) (hq : ∀ a : Nat, a < H.size → ¬ A a → H1[a]? = H[a]?) : vx_Zq C n d A U H1 := ⟨va_Zq.kept h.1 hq, vx_L.kept h.2 hq⟩
theorem vx_Zq.narrow {C n d : String} {A B : Nat → Prop} {U : State} {H : Heap} (h : vx_Zq C n d A U H) (hAB : ∀ q, B q → A q) : vx_Zq C n d B U H := ⟨va_Zq.narrow h.1 hAB, vx_L.narrow h.2 hAB⟩
theorem vx_Zqof {args : Array Value} {s : State} {C n d : String} {A : Nat → Prop} (hl : (Cond.laysStatic C n d).before args s = true) (hini : (Cond.initialized C).before args s = true) (h : (Cond.isRef (.static C n d)).before args s = true) (hA : ∀ a : Nat, a < s.heap.size → ¬ A a) : vx_Zq C n d A s s.heap := by
  refine ⟨va_Zqof hl hini h hA, ?_⟩
  obtain ⟨c, k, i, f, a, cell, h1, h2, h3, h4, h5, h6, h7, h8, h9⟩ := Cond.laysStatic_spec hl
  exact ⟨c, k, i, f, a, cell, h1, h2, h3, h4, h5, h6, h7, h8, h9, hA a (Array.getElem?_eq_some_iff.mp h5).1⟩
theorem vx_isRef {C n d : String} {v : Value} {A : Nat → Prop} {s : State} {args : Array Value} (h : va_Z C n d v A s s.heap) (hv : v.isRef = true) : (Cond.isRef (.static C n d)).before args s = true := by
  obtain ⟨cf, kf, fi, f, a, cell, h1, h2, h3, h4, h5, h6, h7, -⟩ := h
  have he : (Term.static C n d).eval args s none [] s = some v := by
    simp [Term.eval, State.fieldNamed?, h1, h2, h4, h5, h6, h7]
  simp only [Cond.before, Cond.holds, Cond.value, he]
  cases v <;> simp_all [Value.isRef]
theorem vx_isRefq {C n d : String} {A : Nat → Prop} {s : State} {args : Array Value} (h : va_Zq C n d A s s.heap) : (Cond.isRef (.static C n d)).before args s = true := by
  rcases h with h | ⟨t, h⟩
  · exact vx_isRef h rfl
  · exact vx_isRef h rfl
/-- the same frame, seen from here: as if the method were called anew in this heap -/
theorem vx_rebase {T : State} (X : Stand p l e R s m args below meth c T locs cells slots) {R' : Room} (hf : R'.frames ≤ R.frames) (hl : R'.locals ≤ R.locals) (hc : cells + R'.cells ≤ R.cells) (hs : slots + R'.slots ≤ R.slots) :
    Stand p l e R' ((T.setVm s.vm).setFrames (.invoking m args :: below)) m args below meth c T [] 0 0 := by
  have htop : (T.setVm s.vm).topJava?.isSome := X.here.top
  have hF : ((T.setVm s.vm).setFrames (.invoking m args :: below)).frames = .invoking m args :: below := State.frames_setFrames _ (State.cur_lt_of_top htop)
  obtain ⟨g₀, hg0⟩ := Option.isSome_iff_exists.mp htop
  obtain ⟨r, hr⟩ := State.topJava?_eq_some.mp hg0
  have hl9 : e.platform.stackLimits (T.setVm s.vm).me = e.platform.stackLimits s.me := X.limits
  have hb9 : (T.setVm s.vm).me.stackBytes = s.me.stackBytes := X.bytes
  refine ⟨X.admits, X.cas, X.clock, hF, ?_, X.hears, X.method, X.code, X.here, X.tail, X.warmed, ?_, ?_, ?_⟩
  · have h := X.room
    have hU : ((T.setVm s.vm).setFrames (.invoking m args :: below)).localsInUse = s.localsInUse := by
      rw [State.localsInUse_invoking hF (meth := meth) (c := c) X.method X.code, State.localsInUse_invoking X.frames X.method X.code]
    simp only [State.hasRoom, Bool.and_eq_true, decide_eq_true_eq] at h ⊢
    obtain ⟨⟨⟨⟨h1, h2, h3, h4, h5, h6⟩, h7⟩, h8⟩, h9⟩ := h
    rw [X.frames, List.length_cons] at h2 h3
    have q1 := X.heapSize
    have q2 := X.used
    simp only [hF, hU, List.length_cons, State.stackLimits_setFrames, State.stackBytes_setFrames, hl9, hb9]
    refine ⟨⟨⟨⟨by omega, by omega, by omega, by omega, by omega, h6⟩, ?_⟩, ?_⟩, X.book⟩
    · show T.heap.size + R'.cells ≤ e.platform.maxCells
      omega
    · show T.slotsUsed + R'.slots ≤ e.platform.maxSlots
      omega
  · rw [State.stackLimits_setFrames]; rfl
  · rw [State.stackBytes_setFrames]; rfl
  · refine ⟨?_, Nat.le_refl _, Nat.le_refl _, ?_, ?_, fun a c9 h9 => ⟨c9, h9, rfl, rfl, fun _ _ => rfl⟩⟩
    · obtain ⟨t, ht, -⟩ := State.frames_cons hr
      show T.setVm s.vm = { ((T.setVm s.vm).setFrames (.invoking m args :: below)).setFrames (T.setVm s.vm).frames with heap := T.heap, slotsUsed := T.slotsUsed }
      rw [State.setFrames_setFrames, State.setFrames_self ht]
      rfl
    · show T.slotsUsed = T.slotsUsed + ((T.heap.toList.drop T.heap.size).map (·.slots.size)).sum
      rw [List.drop_eq_nil_of_le (Nat.le_of_eq Array.length_toList)]
      rfl
    · show ((T.heap.toList.drop T.heap.size).map (·.slots.size)).sum ≤ 0
      rw [List.drop_eq_nil_of_le (Nat.le_of_eq Array.length_toList)]
      exact Nat.le_refl _
/-- 'throw new E()': new; dup; invokespecial; athrow -/
theorem vx_throw0 {cc : ByteArray} {pc : Nat} (hexec : p.tables.exec = Jvm.exec) (hb : c.code = cc) (hl : l.stackTraces = false) {own cls : String} {names : List String} {ik ic mc ms : Nat} {A : Nat → Prop}
    (hown : s.vm.findClass own = some m.cls) (hcls : Bundle.fit cls = true) (hnames : ∀ n ∈ names, Bundle.fit n = true)
    (hk : (Cond.classLink own ik cls).before args s = true) (hini : (Cond.initialized cls).before args s = true) (hat : ∀ w ∈ vx_at0 own ic cls names, w.before args s = true)
    (hgood : ∀ w ∈ Cond.classLink own ik cls :: Cond.initialized cls :: vx_at0 own ic cls names, vx_ot w = true)
    (hU : vx_Zq Bundle.tN "UNASSIGNED_STACK" Bundle.steD A s s.heap) (hN : vx_Zq Bundle.tN "SUPPRESSED_SENTINEL" Bundle.listD A s s.heap) (hS : va_S A s.heap H locs) (hsize : ls.size = c.maxLocals)
    (d0 : decode cc pc = .ok (.new ik, 3)) (d3 : decode cc (pc + 3) = .ok (.dup, 1)) (d4 : decode cc (pc + 4) = .ok (.invokespecial ic, 3)) (d7 : decode cc (pc + 7) = .ok (.athrow, 1))
    (hout : ∀ x ∈ c.exceptionTable.toList, covers x (pc + 7) = false)
    (hRframes : names.length + 3 < R.frames) (hRlocals : (rest.map fun v => v.category).sum + (13 * (names.length + 1) + 42) ≤ R.locals) (hRcells : cells + 1 ≤ R.cells) (hRslots : slots + 6 ≤ R.slots) (hlocks : meth.locks = false)
    (hx : ∀ t : State, s.vm.Alike t.vm → H.size ≤ t.heap.size → (∀ q : Nat, q < H.size → t.heap[q]? = H[q]?) → XC cls s t)
    (hf : ∀ z ∈ locs, free z.base) (hc : cells + 1 ≤ mc) (hs : slots + 6 ≤ ms) :
    W p l e R s m args below meth c H locs cells slots (vx_MQ below Qc XC args s mc ms free) (F0 m pc ls rest) := by
  intro T hT X
  have htr : e.platform.stackTraces = false := (show e.platform.stackTraces = l.stackTraces by rw [X.admits.platform]).trans hl
  have Y := vx_rebase X (R' := { frames := R.frames, locals := R.locals, cells := 1, slots := 6 }) (Nat.le_refl _) (Nat.le_refl _) hRcells hRslots
  obtain ⟨s', hA⟩ : ∃ z, z = (T.setVm s.vm).setFrames (.invoking m args :: below) := ⟨_, rfl⟩
  rw [← hA] at Y
  have hvm : s'.vm = s.vm := by rw [hA]; rfl
  have hhp : s'.heap = H := by rw [hA]; exact hT
  have hW0 : s.WarmedH s'.vm := by rw [hvm]; exact State.WarmedH.refl s
  have hat' : ∀ w ∈ vx_at0 own ic cls names, w.before args s' = true := fun w hw => vx_ot_at hW0 hvm.symm (hgood w (List.mem_cons_of_mem _ (List.mem_cons_of_mem _ hw))) (hat w hw)
  have hk' : (Cond.classLink own ik cls).before args s' = true := vx_ot_at hW0 hvm.symm (hgood _ List.mem_cons_self) hk
  have hini' : (Cond.initialized cls).before args s' = true := vx_ot_at hW0 hvm.symm (hgood _ (List.mem_cons_of_mem _ List.mem_cons_self)) hini
  have hU' : vx_Zq Bundle.tN "UNASSIGNED_STACK" Bundle.steD A s' s'.heap := by rw [hhp]; exact vx_Zq.moved hW0.alike (hU.kept hS.2.1)
  have hN' : vx_Zq Bundle.tN "SUPPRESSED_SENTINEL" Bundle.listD A s' s'.heap := by rw [hhp]; exact vx_Zq.moved hW0.alike (hN.kept hS.2.1)
  have h : ∀ w ∈ Bundle.ownAtoms0 own ic cls names, w.before args s' = true := vx_own hat' (vx_isRefq hU'.1) (vx_isRefq hN'.1) hU'.2.word hN'.2.word
  have hown' : s'.vm.findClass own = some m.cls := by rw [hvm]; exact hown
  have hins : (Cond.instantiable cls 6).before args s' = true := h _ (by simp [Bundle.ownAtoms0])
  obtain ⟨vm₁, cX, kX, hfX, hkX, -, -, X₁, st1⟩ := Y.newCold hexec (own := own) (C := cls) (index := ik) (n := 6) hown' hk' hins hini'
    (g := F0 m pc ls rest) rfl (by rw [hb]; exact d0) (Nat.le_refl _) (Nat.le_refl _)
  generalize hT1 : (T.setVm vm₁).pushCell { cls := cX, slots := kX.instanceTypes.map defaultValue, vm := .none } = T1 at X₁ st1
  have hcat : (Value.ref T.heap.size).category = 1 := rfl
  have hcellA : T1.heap[T.heap.size]? = some (freshCell cX kX) := by rw [← hT1]; exact State.heap_pushCell_size _ _
  have d3' : decode c.code (pc + 3) = .ok (.dup, 1) := by rw [hb]; exact d3
  obtain ⟨U, hsteps, hrun, hend, hW, hsame, ce, hce, hO⟩ := X₁.ctorThrow0 hexec htr (own := own) (cls := cls) (names := names) (ic := ic) hown' hcls hnames h (fun x hx => nomatch hx) hfX hkX hcellA (by rw [hhp, hT]; exact Nat.le_refl _)
    (g := { method := m, pc := pc + 4, locals := ls, stack := .ref T.heap.size :: .ref T.heap.size :: rest, locked := none }) rfl hsize rfl rfl (rest := rest) rfl
    (by rw [hb]; exact d4) (by rw [hb]; exact d7) hout hRframes (by simp only [List.map_cons, List.sum_cons, hcat]; omega) hlocks
  obtain ⟨f1, f2⟩ := vx_frame hsame
  rw [hhp] at f1 f2
  have hWs : s.WarmedH U.vm := State.WarmedH.trans hW0 hW
  have hcl : s.vm.findClass cls = some ce.cls := by
    have h9 := hO.cls
    rw [hvm] at h9
    exact h9
  have hall : s.sameButNew ({ U with vm := s.vm } : State) locs mc ms := by
    subst hA
    obtain ⟨e1, e2⟩ := hsame
    rw [State.setFrames_setFrames] at e1
    have h2 : (T.setVm s.vm).sameButNew ({ U with vm := s.vm } : State) [] (0 + 1) (0 + 6) := ⟨e1, e2⟩
    have h3 := X.same.trans h2
    rw [List.append_nil] at h3
    exact h3.mono hc hs
  refine ⟨U, ?_, .threw T.heap.size, hrun, hend, Or.inr ⟨T.heap.size, rfl, cls, ce, locs, hx U hWs.alike f1 (fun q hq => f2 q hq (fun z hz => nomatch hz)), hce, hO.vm, hcl, hWs, hall, hf⟩⟩
  refine st1 _ ?_
  show Steps p.tables e below (T1.setTop { method := m, pc := pc + 3, locals := ls, stack := .ref T.heap.size :: rest, locked := none }) _
  jvm_step X₁.here [X₁.here.top, hexec, d3', Value.category]
  exact hsteps
/-- 'throw new E("text")': new; dup; ldc; invokespecial; athrow -/
theorem vx_throwS {cc : ByteArray} {pc : Nat} (hexec : p.tables.exec = Jvm.exec) (hb : c.code = cc) (hl : l.stackTraces = false) {own cls text : String} {names : List String} {ik is ic mc ms sa : Nat} {A : Nat → Prop}
    (hown : s.vm.findClass own = some m.cls) (hcls : Bundle.fit cls = true) (hnames : ∀ n ∈ names, Bundle.fit n = true)
    (hk : (Cond.classLink own ik cls).before args s = true) (hini : (Cond.initialized cls).before args s = true) (hstr : vk_R own is text sa s) (hat : ∀ w ∈ vx_atS own ic cls names, w.before args s = true)
    (hgood : ∀ w ∈ Cond.classLink own ik cls :: Cond.initialized cls :: vx_atS own ic cls names, vx_ot w = true)
    (hU : vx_Zq Bundle.tN "UNASSIGNED_STACK" Bundle.steD A s s.heap) (hN : vx_Zq Bundle.tN "SUPPRESSED_SENTINEL" Bundle.listD A s s.heap) (hS : va_S A s.heap H locs) (hsize : ls.size = c.maxLocals)
    (d0 : decode cc pc = .ok (.new ik, 3)) (d3 : decode cc (pc + 3) = .ok (.dup, 1)) (d4 : decode cc (pc + 4) = .ok (.ldc is, 2)) (d6 : decode cc (pc + 6) = .ok (.invokespecial ic, 3)) (d9 : decode cc (pc + 9) = .ok (.athrow, 1))
    (hout : ∀ x ∈ c.exceptionTable.toList, covers x (pc + 9) = false)
    (hRframes : names.length + 3 < R.frames) (hRlocals : (rest.map fun v => v.category).sum + (13 * (names.length + 1) + 43) ≤ R.locals) (hRcells : cells + 1 ≤ R.cells) (hRslots : slots + 6 ≤ R.slots) (hlocks : meth.locks = false)
    (hx : ∀ t : State, s.vm.Alike t.vm → H.size ≤ t.heap.size → (∀ q : Nat, q < H.size → t.heap[q]? = H[q]?) → XC cls s t)
    (hf : ∀ z ∈ locs, free z.base) (hc : cells + 1 ≤ mc) (hs : slots + 6 ≤ ms) :
    W p l e R s m args below meth c H locs cells slots (vx_MQ below Qc XC args s mc ms free) (F0 m pc ls rest) := by
  intro T hT X
  have htr : e.platform.stackTraces = false := (show e.platform.stackTraces = l.stackTraces by rw [X.admits.platform]).trans hl
  have Y := vx_rebase X (R' := { frames := R.frames, locals := R.locals, cells := 1, slots := 6 }) (Nat.le_refl _) (Nat.le_refl _) hRcells hRslots
  obtain ⟨s', hA⟩ : ∃ z, z = (T.setVm s.vm).setFrames (.invoking m args :: below) := ⟨_, rfl⟩
  rw [← hA] at Y
  have hvm : s'.vm = s.vm := by rw [hA]; rfl
  have hhp : s'.heap = H := by rw [hA]; exact hT
  have hW0 : s.WarmedH s'.vm := by rw [hvm]; exact State.WarmedH.refl s
  have hat' : ∀ w ∈ vx_atS own ic cls names, w.before args s' = true := fun w hw => vx_ot_at hW0 hvm.symm (hgood w (List.mem_cons_of_mem _ (List.mem_cons_of_mem _ hw))) (hat w hw)
  have hk' : (Cond.classLink own ik cls).before args s' = true := vx_ot_at hW0 hvm.symm (hgood _ List.mem_cons_self) hk
  have hini' : (Cond.initialized cls).before args s' = true := vx_ot_at hW0 hvm.symm (hgood _ (List.mem_cons_of_mem _ List.mem_cons_self)) hini
  have hU' : vx_Zq Bundle.tN "UNASSIGNED_STACK" Bundle.steD A s' s'.heap := by rw [hhp]; exact vx_Zq.moved hW0.alike (hU.kept hS.2.1)
  have hN' : vx_Zq Bundle.tN "SUPPRESSED_SENTINEL" Bundle.listD A s' s'.heap := by rw [hhp]; exact vx_Zq.moved hW0.alike (hN.kept hS.2.1)
  have h : ∀ w ∈ Bundle.ownAtoms own ic cls names, w.before args s' = true := vx_own hat' (vx_isRefq hU'.1) (vx_isRefq hN'.1) hU'.2.word hN'.2.word
  have hown' : s'.vm.findClass own = some m.cls := by rw [hvm]; exact hown
  have hins : (Cond.instantiable cls 6).before args s' = true := h _ (by simp [Bundle.ownAtoms])
  obtain ⟨vm₁, cX, kX, hfX, hkX, -, -, X₁, st1⟩ := Y.newCold hexec (own := own) (C := cls) (index := ik) (n := 6) hown' hk' hins hini'
    (g := F0 m pc ls rest) rfl (by rw [hb]; exact d0) (Nat.le_refl _) (Nat.le_refl _)
  generalize hT1 : (T.setVm vm₁).pushCell { cls := cX, slots := kX.instanceTypes.map defaultValue, vm := .none } = T1 at X₁ st1
  have hcat : (Value.ref T.heap.size).category = 1 := rfl
  have hcellA : T1.heap[T.heap.size]? = some (freshCell cX kX) := by rw [← hT1]; exact State.heap_pushCell_size _ _
  have d3' : decode c.code (pc + 3) = .ok (.dup, 1) := by rw [hb]; exact d3
  have d4' : decode c.code (pc + 4) = .ok (.ldc is, 2) := by rw [hb]; exact d4
  have hstr' : vk_R own is text sa s' := vk_R.warm hW0 hstr
  obtain ⟨U, hsteps, hrun, hend, hW, hsame, ce, hce, hO⟩ := X₁.ctorThrowS hexec htr (own := own) (cls := cls) (names := names) (ic := ic) hown' hcls hnames h (fun x hx => nomatch hx) hfX hkX hcellA (by rw [hhp, hT]; exact Nat.le_refl _) (msg := .ref sa) rfl
    (g := { method := m, pc := pc + 6, locals := ls, stack := .ref sa :: .ref T.heap.size :: .ref T.heap.size :: rest, locked := none }) rfl hsize rfl rfl (rest := rest) rfl
    (by rw [hb]; exact d6) (by rw [hb]; exact d9) hout hRframes (by simp only [List.map_cons, List.sum_cons, hcat]; omega) hlocks
  obtain ⟨f1, f2⟩ := vx_frame hsame
  rw [hhp] at f1 f2
  have hWs : s.WarmedH U.vm := State.WarmedH.trans hW0 hW
  have hcl : s.vm.findClass cls = some ce.cls := by
    have h9 := hO.cls
    rw [hvm] at h9
    exact h9
  have hall : s.sameButNew ({ U with vm := s.vm } : State) locs mc ms := by
    subst hA
    obtain ⟨e1, e2⟩ := hsame
    rw [State.setFrames_setFrames] at e1
    have h2 : (T.setVm s.vm).sameButNew ({ U with vm := s.vm } : State) [] (0 + 1) (0 + 6) := ⟨e1, e2⟩
    have h3 := X.same.trans h2
    rw [List.append_nil] at h3
    exact h3.mono hc hs
  refine ⟨U, ?_, .threw T.heap.size, hrun, hend, Or.inr ⟨T.heap.size, rfl, cls, ce, locs, hx U hWs.alike f1 (fun q hq => f2 q hq (fun z hz => nomatch hz)), hce, hO.vm, hcl, hWs, hall, hf⟩⟩
  refine st1 _ ?_
  show Steps p.tables e below (T1.setTop { method := m, pc := pc + 3, locals := ls, stack := .ref T.heap.size :: rest, locked := none }) _
  jvm_step X₁.here [X₁.here.top, hexec, d3', Value.category]
  exact X₁.ldcString hexec (own := own) (text := text) (index := is) (a := sa) hown' hstr'.1 hstr'.2
    (g := { method := m, pc := pc + 4, locals := ls, stack := .ref T.heap.size :: .ref T.heap.size :: rest, locked := none }) rfl d4' _ hsteps
/-- 'throw new E("text")', the text by a wide index -/
theorem vx_throwSW {cc : ByteArray} {pc : Nat} (hexec : p.tables.exec = Jvm.exec) (hb : c.code = cc) (hl : l.stackTraces = false) {own cls text : String} {names : List String} {ik is ic mc ms sa : Nat} {A : Nat → Prop}
    (hown : s.vm.findClass own = some m.cls) (hcls : Bundle.fit cls = true) (hnames : ∀ n ∈ names, Bundle.fit n = true)
    (hk : (Cond.classLink own ik cls).before args s = true) (hini : (Cond.initialized cls).before args s = true) (hstr : vk_R own is text sa s) (hat : ∀ w ∈ vx_atS own ic cls names, w.before args s = true)
    (hgood : ∀ w ∈ Cond.classLink own ik cls :: Cond.initialized cls :: vx_atS own ic cls names, vx_ot w = true)
    (hU : vx_Zq Bundle.tN "UNASSIGNED_STACK" Bundle.steD A s s.heap) (hN : vx_Zq Bundle.tN "SUPPRESSED_SENTINEL" Bundle.listD A s s.heap) (hS : va_S A s.heap H locs) (hsize : ls.size = c.maxLocals)
    (d0 : decode cc pc = .ok (.new ik, 3)) (d3 : decode cc (pc + 3) = .ok (.dup, 1)) (d4 : decode cc (pc + 4) = .ok (.ldc_w is, 3)) (d7 : decode cc (pc + 7) = .ok (.invokespecial ic, 3)) (d10 : decode cc (pc + 10) = .ok (.athrow, 1))
    (hout : ∀ x ∈ c.exceptionTable.toList, covers x (pc + 10) = false)
    (hRframes : names.length + 3 < R.frames) (hRlocals : (rest.map fun v => v.category).sum + (13 * (names.length + 1) + 43) ≤ R.locals) (hRcells : cells + 1 ≤ R.cells) (hRslots : slots + 6 ≤ R.slots) (hlocks : meth.locks = false)
    (hx : ∀ t : State, s.vm.Alike t.vm → H.size ≤ t.heap.size → (∀ q : Nat, q < H.size → t.heap[q]? = H[q]?) → XC cls s t)
    (hf : ∀ z ∈ locs, free z.base) (hc : cells + 1 ≤ mc) (hs : slots + 6 ≤ ms) :
    W p l e R s m args below meth c H locs cells slots (vx_MQ below Qc XC args s mc ms free) (F0 m pc ls rest) := by
  intro T hT X
  have htr : e.platform.stackTraces = false := (show e.platform.stackTraces = l.stackTraces by rw [X.admits.platform]).trans hl
  have Y := vx_rebase X (R' := { frames := R.frames, locals := R.locals, cells := 1, slots := 6 }) (Nat.le_refl _) (Nat.le_refl _) hRcells hRslots
  obtain ⟨s', hA⟩ : ∃ z, z = (T.setVm s.vm).setFrames (.invoking m args :: below) := ⟨_, rfl⟩
  rw [← hA] at Y
  have hvm : s'.vm = s.vm := by rw [hA]; rfl
  have hhp : s'.heap = H := by rw [hA]; exact hT
  have hW0 : s.WarmedH s'.vm := by rw [hvm]; exact State.WarmedH.refl s
  have hat' : ∀ w ∈ vx_atS own ic cls names, w.before args s' = true := fun w hw => vx_ot_at hW0 hvm.symm (hgood w (List.mem_cons_of_mem _ (List.mem_cons_of_mem _ hw))) (hat w hw)
  have hk' : (Cond.classLink own ik cls).before args s' = true := vx_ot_at hW0 hvm.symm (hgood _ List.mem_cons_self) hk
  have hini' : (Cond.initialized cls).before args s' = true := vx_ot_at hW0 hvm.symm (hgood _ (List.mem_cons_of_mem _ List.mem_cons_self)) hini
  have hU' : vx_Zq Bundle.tN "UNASSIGNED_STACK" Bundle.steD A s' s'.heap := by rw [hhp]; exact vx_Zq.moved hW0.alike (hU.kept hS.2.1)
  have hN' : vx_Zq Bundle.tN "SUPPRESSED_SENTINEL" Bundle.listD A s' s'.heap := by rw [hhp]; exact vx_Zq.moved hW0.alike (hN.kept hS.2.1)
  have h : ∀ w ∈ Bundle.ownAtoms own ic cls names, w.before args s' = true := vx_own hat' (vx_isRefq hU'.1) (vx_isRefq hN'.1) hU'.2.word hN'.2.word
  have hown' : s'.vm.findClass own = some m.cls := by rw [hvm]; exact hown
  have hins : (Cond.instantiable cls 6).before args s' = true := h _ (by simp [Bundle.ownAtoms])
  obtain ⟨vm₁, cX, kX, hfX, hkX, -, -, X₁, st1⟩ := Y.newCold hexec (own := own) (C := cls) (index := ik) (n := 6) hown' hk' hins hini'
    (g := F0 m pc ls rest) rfl (by rw [hb]; exact d0) (Nat.le_refl _) (Nat.le_refl _)
  generalize hT1 : (T.setVm vm₁).pushCell { cls := cX, slots := kX.instanceTypes.map defaultValue, vm := .none } = T1 at X₁ st1
  have hcat : (Value.ref T.heap.size).category = 1 := rfl
  have hcellA : T1.heap[T.heap.size]? = some (freshCell cX kX) := by rw [← hT1]; exact State.heap_pushCell_size _ _
  have d3' : decode c.code (pc + 3) = .ok (.dup, 1) := by rw [hb]; exact d3
  have d4' : decode c.code (pc + 4) = .ok (.ldc_w is, 3) := by rw [hb]; exact d4
  have hstr' : vk_R own is text sa s' := vk_R.warm hW0 hstr
  obtain ⟨U, hsteps, hrun, hend, hW, hsame, ce, hce, hO⟩ := X₁.ctorThrowS hexec htr (own := own) (cls := cls) (names := names) (ic := ic) hown' hcls hnames h (fun x hx => nomatch hx) hfX hkX hcellA (by rw [hhp, hT]; exact Nat.le_refl _) (msg := .ref sa) rfl
    (g := { method := m, pc := pc + 7, locals := ls, stack := .ref sa :: .ref T.heap.size :: .ref T.heap.size :: rest, locked := none }) rfl hsize rfl rfl (rest := rest) rfl
    (by rw [hb]; exact d7) (by rw [hb]; exact d10) hout hRframes (by simp only [List.map_cons, List.sum_cons, hcat]; omega) hlocks
  obtain ⟨f1, f2⟩ := vx_frame hsame
  rw [hhp] at f1 f2
  have hWs : s.WarmedH U.vm := State.WarmedH.trans hW0 hW
  have hcl : s.vm.findClass cls = some ce.cls := by
    have h9 := hO.cls
    rw [hvm] at h9
    exact h9
  have hall : s.sameButNew ({ U with vm := s.vm } : State) locs mc ms := by
    subst hA
    obtain ⟨e1, e2⟩ := hsame
    rw [State.setFrames_setFrames] at e1
    have h2 : (T.setVm s.vm).sameButNew ({ U with vm := s.vm } : State) [] (0 + 1) (0 + 6) := ⟨e1, e2⟩
    have h3 := X.same.trans h2
    rw [List.append_nil] at h3
    exact h3.mono hc hs
  refine ⟨U, ?_, .threw T.heap.size, hrun, hend, Or.inr ⟨T.heap.size, rfl, cls, ce, locs, hx U hWs.alike f1 (fun q hq => f2 q hq (fun z hz => nomatch hz)), hce, hO.vm, hcl, hWs, hall, hf⟩⟩
  refine st1 _ ?_
  show Steps p.tables e below (T1.setTop { method := m, pc := pc + 3, locals := ls, stack := .ref T.heap.size :: rest, locked := none }) _
  jvm_step X₁.here [X₁.here.top, hexec, d3', Value.category]
  exact X₁.ldcStringW hexec (own := own) (text := text) (index := is) (a := sa) hown' hstr'.1 hstr'.2
    (g := { method := m, pc := pc + 4, locals := ls, stack := .ref T.heap.size :: .ref T.heap.size :: rest, locked := none }) rfl d4' _ hsteps
end Ends
section Bodies
variable {l : Launch}
theorem vx_ofW {y : MethodName} {ws ws' : List Cond} {rm : Room} {Pc : Array Value → State → Prop} {Qc : Array Value → State → Outcome → State → Prop} {XC : String → State → State → Prop} {mc ms : Nat} {free : Addr → Prop} {cc : ByteArray} {maxL : Nat} {ret : Option FieldType}
    (hy : plainName y.cls = true) (hw : ws = Cond.code y cc maxL ret :: ws')
    (body : ∀ p e s m args below meth c s₁, BodyLoose p l y (headSpec ws rm) cc maxL ret e s m args below meth c s₁ → c.maxLocals = maxL → (∀ x ∈ c.exceptionTable.toList, False) → Pc args s →
      W p l e (headSpec ws rm).room s m args below meth c s.heap [] 0 0 (vx_MQ below Qc XC args s mc ms free) (entryFrame m args maxL)) : vx_Met l y ws rm Pc Qc XC mc ms free := by
  refine MetFree.of_bodyS (code := cc) (maxLocals := maxL) (ret := ret) hy ?_ ?_
  · intro args s m h hn
    obtain ⟨meth, c, h1, h2, h3, h4, h5, h6, -, -⟩ := Cond.code_spec hn (atoms_spec (ws := ws) h _ (by rw [hw]; exact List.mem_cons_self))
    exact ⟨meth, c, h1, h2, h3, h4, h5, h6⟩
  · intro p e s m args below meth c s₁ B hml hP _
    have hh0 : s₁.heap = s.heap := by rw [B.state]; rfl
    have ht : ∀ x ∈ c.exceptionTable.toList, False := by
      obtain ⟨meth9, c9, h1, h2, -, -, -, -, h7, -⟩ := Cond.code_spec B.named (atoms_spec (ws := ws) B.pre _ (by rw [hw]; exact List.mem_cons_self))
      cases Option.some.inj (h1.symm.trans B.method)
      cases Option.some.inj (h2.symm.trans (Stand.of_body B).code)
      intro x hx
      rw [Array.isEmpty_iff.mp h7] at hx
      cases hx
    obtain ⟨t, a1, o, b1, b2, b3⟩ := body p e s m args below meth c s₁ B hml ht hP s₁ hh0 (Stand.of_body B)
    exact ⟨t, o, a1, b1, b2, b3⟩
/-- the table of a body with handlers -/
theorem vx_table {p : Program} {x y : MethodName} {S : Spec} {cc bytes : ByteArray} {maxL maxL' : Nat} {ret ret' : Option FieldType} {e : Env} {s s₁ : State} {m : MethodId} {args : Array Value} {below : List Frame} {meth : Method} {c : Code} {hh : List (Nat × Nat × Nat × Nat)}
    (B : BodyLoose p l y S cc maxL ret e s m args below meth c s₁) (h : (Cond.codeWith y bytes maxL' ret' hh).before args s = true) : c.exceptionTable.toList = tableOf hh := by
  obtain ⟨m9, meth9, c9, hn9, h1, h2, -, -, h6, -⟩ := Cond.codeWith_spec h
  cases Option.some.inj (hn9.symm.trans B.named)
  cases Option.some.inj (h1.symm.trans B.method)
  cases Option.some.inj (h2.symm.trans (Stand.of_body B).code)
  rw [← h6, table_eq]
end Bodies
end VXA
/-! ===== END ===== -/
/-! ===== BEGIN a static call of a method with an exception table ===== -/
section VXS
variable {p : Program} {l : Launch} {e : Env} {R : Room} {s : State} {m : MethodId} {args : Array Value} {below : List Frame} {meth : Method} {c : Code} {T : State} {H : Heap} {locs : List Loc} {cells slots : Nat}
abbrev vx_CSW (R : Room) (s : State) (args : Array Value) (own : String) (index : Nat) (y : MethodName) (bytes : ByteArray) (maxL : Nat) (ret : Option FieldType) (hh : List (Nat × Nat × Nat × Nat)) (ws : List Cond) (rm : Room) (mc ms n : Nat) : Prop :=
  (rm.cells = mc ∧ rm.slots = ms ∧ rm.frames + 1 ≤ R.frames ∧ 8 + (maxL + 11) + rm.locals ≤ R.locals ∧ (∀ w ∈ ws, ∀ (a' : Array Value) (U : State), s.WarmedH U.vm → w.before a' U = true) ∧ Cond.codeWith y bytes maxL ret hh ∈ ws) ∧
  (Cond.codeWith y bytes maxL ret hh).before args s = true ∧ (Cond.initialized y.cls).before args s = true ∧ (y.cls ≠ "java/lang/invoke/MethodHandle" ∧ y.cls ≠ "java/lang/invoke/VarHandle") ∧
  (∀ sig, parseMethodDescriptor y.desc = some sig → n = sig.parameters.length) ∧ (Cond.methodLink own index y).before args s = true ∧ (Cond.static y).before args s = true
theorem vx_cwSW {own : String} {index maxL mc ms : Nat} {y : MethodName} {bytes : ByteArray} {ret : Option FieldType} {hh : List (Nat × Nat × Nat × Nat)} {Ts ws ws' : List Cond} {rm : Room} (n : Nat) (ht : ∀ w ∈ Ts, w.before args s = true) (hT : GoodIn Ts (va_wsS own index y ws)) (hw : ws = Cond.codeWith y bytes maxL ret hh :: ws') (hrc : rm.cells = mc) (hrs : rm.slots = ms)
    (hd : y.cls ≠ "java/lang/invoke/MethodHandle" ∧ y.cls ≠ "java/lang/invoke/VarHandle" ∧ (parseMethodDescriptor y.desc).map (fun d => d.parameters.length) = some n) (hR : rm.frames + 1 ≤ R.frames ∧ 8 + (maxL + 11) + rm.locals ≤ R.locals) :
    vx_CSW R s args own index y bytes maxL ret hh ws rm mc ms n := by
  have ok : ∀ w ∈ va_wsS own index y ws, w.before args s = true := fun w h => ht w (hT w h).1
  have hG : GoodIn Ts ws := fun w h => hT w (by unfold va_wsS; exact List.mem_append_right _ h)
  have hc : Cond.codeWith y bytes maxL ret hh ∈ ws := by rw [hw]; exact List.mem_cons_self
  refine ⟨⟨hrc, hrs, hR.1, hR.2, pay_in ht hG, hc⟩, ht _ (hG _ hc).1, ok _ (by simp [va_wsS]), ⟨hd.1, hd.2.1⟩, fun sig h => ?_, ok _ (by simp [va_wsS]), ok _ (by simp [va_wsS])⟩
  have h2 := hd.2.2
  rw [h] at h2
  exact (Option.some.inj h2).symm
theorem vx_callSW (X : Stand p l e R s m args below meth c T locs cells slots) (hexec : p.tables.exec = Jvm.exec) {own : String} {index : Nat} {y : MethodName} {bytes : ByteArray} {maxL : Nat} {ret : Option FieldType} {hh : List (Nat × Nat × Nat × Nat)}
    (hown : s.vm.findClass own = some m.cls) (hlink : (Cond.methodLink own index y).before args s = true) (hstat : (Cond.static y).before args s = true) (hinit : (Cond.initialized y.cls).before args s = true)
    (hcode : (Cond.codeWith y bytes maxL ret hh).before args s = true) (hy : y.cls ≠ "java/lang/invoke/MethodHandle" ∧ y.cls ≠ "java/lang/invoke/VarHandle")
    {W9 : Nat} {Pre : Pt → Array Value → Prop} {Post : Pt → Array Value → Option Value → Pt → Prop} (hK : Back l R p e below s args y 3 W9 Pre Post)
    {g : JFrame} (hg : g.method = m) (hsize : g.locals.size = c.maxLocals) {argsL rest : List Value} (hlen : ∀ sig, parseMethodDescriptor y.desc = some sig → argsL.length = sig.parameters.length)
    (hstack : g.stack = argsL.reverse ++ rest) (hW : 2 * g.monitorRoom + (rest.map fun v => v.category).sum ≤ W9) (hdg : decode c.code g.pc = .ok (.invokestatic index, 3))
    (hpre : ∀ vm₁, s.WarmedH vm₁ → Pre ⟨T.setVm vm₁, locs, cells, slots⟩ argsL.toArray) :
    ∃ (v : Option Value) (vm₁ : Vm) (B : Pt), s.WarmedH vm₁ ∧ Stand p l e R s m args below meth c B.U B.locs B.cells B.slots ∧ Post ⟨T.setVm vm₁, locs, cells, slots⟩ argsL.toArray v B ∧
      ∀ target, Steps p.tables e below (B.U.setTop { g with pc := g.pc + 3, stack := v.toList ++ rest }) target → Steps p.tables e below (T.setTop g) target := by
  obtain ⟨mk, methM, cM, hnamed, hmethM, -, -, -, -, -, -, hsigM⟩ := Cond.codeWith_spec hcode
  have hstatic : methM.isStatic = true := Cond.static_spec hnamed hmethM hstat
  obtain ⟨kP, hkP, -⟩ := className_of_methodNamed hnamed
  have hinitP : kP.init = .initialized := Cond.initialized_spec (findClass_of_methodNamed hnamed) hkP hinit
  obtain ⟨vm₁, X₁, hstep₁⟩ := X.invokestatic hexec hown hlink hnamed hmethM hstatic hkP hinitP hy (g := g) hg (argsL := argsL) (rest := rest) (hlen _ hsigM) hstack hdg
  obtain ⟨v, B, X', hpost, hsteps⟩ := hK m meth c ⟨T.setVm vm₁, locs, cells, slots⟩ { g with stack := rest } (.invokestatic index) mk argsL.toArray X₁ hg hsize hdg hW (X₁.named hnamed) (hpre vm₁ X₁.warmed)
  exact ⟨v, vm₁, B, X₁.warmed, X', hpost, fun target h => hstep₁ _ fun acts => by rw [doInvoke_state]; exact hsteps.trans h⟩
theorem vx_runSW {y : MethodName} {bytes cc : ByteArray} {maxL nL mc ms n index : Nat} {ret : Option FieldType} {hh : List (Nat × Nat × Nat × Nat)} {ws : List Cond} {rm : Room} {Pc : Array Value → State → Prop} {Qc : Array Value → State → Outcome → State → Prop} {free : Addr → Prop} {Ts : List Cond} {own : String} {As rest : List Value} {g : JFrame}
    (S : CallFix p m c cc nL s args Ts own) (hM : Met l y ws rm Pc Qc mc ms free) (cw : vx_CSW R s args own index y bytes maxL ret hh ws rm mc ms n) (hp : PreS s H Pc As)
    (hg : g.method = m) (hn : As.length = n) (hsize : g.locals.size = nL) (hstack : g.stack = As.reverse ++ rest) (hW : 2 * g.monitorRoom + (rest.map fun v => v.category).sum ≤ 8) (hdg : decode cc g.pc = .ok (.invokestatic index, 3)) (hf : cells + mc ≤ R.cells ∧ slots + ms ≤ R.slots) :
    va_Run p l e R s m args below meth c H locs cells slots mc ms g rest (Qc As.toArray) (free) := by
  obtain ⟨⟨hrc, hrs, hfr, hlo, hws, hcw⟩, hcode, hini, hy, hlen, hl, hstt⟩ := cw
  have hK : Back l R p e below s args y 3 8 (PreOf R mc ms Pc) (PostOf Qc mc ms free) := va_backW (hh := hh) (bytes := bytes) (maxL := maxL) (ret := ret) hM hp.1 hrc hrs hfr hlo hws hcw (fun a' U hW => word_at hW (Or.inl (by first | rfl | simp [Cond.onTables, Cond.keeps, Cond.steady])) hini)
  obtain ⟨hx, hb, hml, ho, -⟩ := S
  intro T hT X
  obtain ⟨v, vm₁, ⟨U', l2, c2, s2⟩, hW₁, X', ⟨g', mk, t, L, e1, e2, hq, h1, hL, h2, h3⟩, st⟩ := vx_callSW X hx (hh := hh) (bytes := bytes) (maxL := maxL) (ret := ret) ho hl hstt hini hcode hy hK hg (hsize.trans hml.symm) (argsL := As) (rest := rest) (fun sig h => hn.trans (hlen sig h)) hstack hW (by rw [hb]; exact hdg)
    (fun vm₁ hW₁ => ⟨hf.1, hf.2, hp.2 (T.setVm vm₁) hT hW₁⟩)
  dsimp only [Pt.U, Pt.locs, Pt.cells, Pt.slots] at X' e1 e2 h1 h2 h3 st
  subst h1; subst h2; subst h3
  exact ⟨v, (T.setVm vm₁).calling g' mk As.toArray, t, U', L, hT, X', hL, e1, e2, hq, st⟩
/-- not caught here, past rows that name other classes: it goes on to the caller -/
theorem vx_outP {p : Program} {l : Launch} {e : Env} {R : Room} {s : State} {m : MethodId} {args : Array Value} {below : List Frame} {meth : Method} {c : Code} {H : Heap} {locs : List Loc} {cells slots : Nat} {free : Addr → Prop} {ls : Array Slot} {rest : List Value} {Qc : Array Value → State → Outcome → State → Prop} {XC : String → State → State → Prop}
    {pc : Nat} {own E : String} {ce : Cell} {q : Addr} {mc ms : Nat} (hown : s.vm.findClass own = some m.cls) (hlocks : meth.locks = false)
    (hpass : ∀ z ∈ c.exceptionTable.toList, covers z pc = false ∨ (z.catchType ≠ 0 ∧ ∃ nm : String, (Cond.classLink own z.catchType nm).before args s = true ∧ va_Nc E nm s)) (hcell : H[q]? = some ce) (hv : ce.vm = .none) (hcl : s.vm.findClass E = some ce.cls)
    (hx : ∀ t : State, t.heap = H → s.vm.Alike t.vm → XC E s t) (hf : ∀ z ∈ locs, free z.base) (hc : cells ≤ mc) (hs : slots ≤ ms) :
    vx_W p l e R s m args below meth c H locs cells slots (vx_MQ below Qc XC args s mc ms free) (F0 m pc ls rest) q := by
  intro T hT X
  have hpl : e.platform.magicAccessors = ({} : Platform).magicAccessors := by rw [X.admits.platform]
  obtain ⟨vm', hW', X', st⟩ := X.outThrough hlocks q (g := F0 m pc ls rest) rfl rfl rfl (cell := ce) (by rw [hT]; exact hcell) (by rw [hv]; rfl)
    (by obtain ⟨k9, h9, -⟩ := Vm.findClass_spec hcl; exact ⟨k9, h9⟩) (fun z hz => by
      rcases hpass z hz with h | ⟨hz0, nm, hl1, hn1⟩
      · exact Or.inl h
      · obtain ⟨c6, hc6, hcl6⟩ := Cond.classLink_spec hown hl1 e.platform hpl
        obtain ⟨a8, b8, h1, h2, h3⟩ := hn1
        cases Option.some.inj (h1.symm.trans hcl)
        cases Option.some.inj (h2.symm.trans hc6)
        exact Or.inr ⟨hz0, _, hcl6, h3⟩)
  obtain ⟨g₀, hfr⟩ := X'.frames_eq
  have hcell9 : ((T.setVm vm').setFrames (.throwing q :: below)).heap[q]? = some ce := by
    show T.heap[q]? = some ce
    rw [hT]; exact hcell
  have hend : Ended ((T.setVm vm').setFrames (.throwing q :: below)) below (.threw q) := State.frames_setFrames _ (State.cur_lt_of_frames hfr)
  refine ⟨(T.setVm vm').setFrames (.throwing q :: below), ?_, .threw q, X'.here.running, hend, Or.inr ⟨q, rfl, E, ce, locs, hx _ hT (X'.ends _).1.alike, hcell9, hv, hcl, (X'.ends _).1, (X'.ends _).2.mono hc hs, hf⟩⟩
  rw [X.pushThrowing_eq]
  exact st
/-- a thing of a world lies in the heap -/
theorem vx_lt {D : va_G} {cl : List vw_C} {ws : va_W} {H1 : Heap} (h : va_P D cl ws H1) {k : Nat} {q : Nat × va_E} (hk : ws[k]? = some q) : q.1 < H1.size := (h k q hk).lt
end VXS
/-! ===== END ===== -/
/-! ===== BEGIN methods with a table of their own: called by a name, returning or throwing ===== -/
section VXH
/-! vx_backW, vx_callVX, vx_callSX, vx_callVW, vx_runVW, vx_runVX, vx_runSX, vx_ofWH follow the same proofs as their sisters above (Free/Laws.lean, Shelf42/LK1.lean); vx_outP calls Shelf42/NT130.lean (outThrough). -/
section
variable {l : Launch} {R : Room} {p : Program} {e : Env} {below : List Frame} {s : State} {sargs : Array Value} {y : MethodName} {len W9 : Nat}
theorem vx_backW {ws : List Cond} {rm : Room} {Pc : Array Value → State → Prop} {Qc : Array Value → State → Outcome → State → Prop} {XC : String → State → State → Prop} {mc ms : Nat} {free : Addr → Prop} {bytes : ByteArray} {maxL : Nat} {ret : Option FieldType} {hh : List (Nat × Nat × Nat × Nat)}
    (hM : vx_Met l y ws rm Pc Qc XC mc ms free) (hblind : FrameBlind Pc) (hrc : rm.cells = mc) (hrs : rm.slots = ms)
    (hframes : rm.frames + 1 ≤ R.frames) (hlocals : W9 + (maxL + 11) + rm.locals ≤ R.locals)
    (hws : ∀ w ∈ ws, ∀ a' U, s.WarmedH U.vm → w.before a' U = true) (hcode : Cond.codeWith y bytes maxL ret hh ∈ ws) (hinit : ∀ a' U, s.WarmedH U.vm → (Cond.initialized y.cls).before a' U = true) :
    vx_Back l R p e below s sargs y len W9 (PreOf R mc ms Pc) (PostOf Qc mc ms free) (vx_Post XC mc ms free) := by
  intro m meth c A g ig mk a X hg hsize hdg hW hn hp
  have h1 : (headSpec ws rm).pre.before a A.U = true := atoms_intro fun w hw => hws w hw _ _ X.warmed
  have h2 : (Cond.codeWith y bytes maxL ret hh).before a A.U = true := hws _ hcode _ _ X.warmed
  have h3 : (Cond.initialized y.cls).before a A.U = true := hinit _ _ X.warmed
  have h4 : A.cells + (headSpec ws rm).room.cells ≤ R.cells := by rw [show (headSpec ws rm).room.cells = mc from hrc]; exact hp.1
  have h5 : A.slots + (headSpec ws rm).room.slots ≤ R.slots := by rw [show (headSpec ws rm).room.slots = ms from hrs]; exact hp.2.1
  have hPc : Pc a (A.U.calling g mk a) := hblind _ _ _ _ hp.2.2
  obtain ⟨U, Ls, c0, s0⟩ := A
  dsimp only [Pt.U, Pt.locs, Pt.cells, Pt.slots] at h1 h2 h3 h4 h5 X hn hPc ⊢
  obtain ⟨m9, methY, cY, hn9, hmY, hcY, -, hlY, -⟩ := Cond.codeWith_spec h2
  cases Option.some.inj (hn9.symm.trans hn)
  obtain ⟨kY, hkY, -⟩ := className_of_methodNamed hn
  have hinitY : kY.init = .initialized := Cond.initialized_spec (findClass_of_methodNamed hn) hkY h3
  have h : At U g.method c below := by rw [hg]; exact X.here
  have hlocals9 : W9 + (maxL + 11) + (headSpec ws rm).room.locals ≤ R.locals := hlocals
  have happ : (headSpec ws rm).appliesLoose y e.platform (U.calling g mk a) = true :=
    Spec.appliesLoose_calling (g := g) h hdg hn hkY hinitY
      (X.room_calling (g := g) (R' := (headSpec ws rm).room) hsize hmY hcY hframes (by rw [hlY]; omega) h4 h5) h1
  obtain ⟨mid, hmid⟩ := h.above
  have hfr : (U.setTop g).frames = (.java g :: mid) ++ below := by rw [State.frames_setTop' g h.top, hmid]; rfl
  obtain ⟨o, s₂, hsteps, -, hend, hq⟩ := Steps.callFree hM p X.admits X.cas X.clock (acts := []) hfr happ hPc trivial
  have hq' : vx_Q Qc XC mc ms free a (U.calling g mk a) o s₂ := hq
  rw [State.frames_setTop' g h.top] at hend
  obtain ⟨g₀, hg0⟩ := Option.isSome_iff_exists.mp h.top
  obtain ⟨r, hr⟩ := State.topJava?_eq_some.mp hg0
  have hr' : (({ U with heap := s₂.heap, slotsUsed := s₂.slotsUsed } : State).setVm s₂.vm).frames = .java g₀ :: r := hr
  rcases hq' with ⟨hqc, L, hfe, hL⟩ | ⟨q, rfl, E, ce, L, hx, hce, hcv, hcl, hW₂, hsm, hL⟩
  · obtain ⟨⟨v, rfl⟩, hW₂, e2, q2, q3, q4, q5, q6⟩ := id hfe
    have e3 : s₂ = ({ (U.calling g mk a).setFrames s₂.frames with heap := s₂.heap, slotsUsed := s₂.slotsUsed } : State).setVm s₂.vm := by
      have : s₂ = ({ s₂ with vm := (U.calling g mk a).vm } : State).setVm s₂.vm := rfl
      rw [e2] at this
      exact this
    obtain ⟨c₂, i₂, len₂, hc₂, hd₂, hf₂⟩ := hend
    have hW' : U.WarmedH s₂.vm := hW₂
    have hcc : c₂ = c := by
      have h1 : s₂.code? g.method = U.code? g.method := by
        rw [State.code?_eq, State.code?_eq, hW'.alike.method?]
      exact Option.some.inj (hc₂.symm.trans (h1.trans h.code))
    subst hcc
    have hlen : len₂ = len := by rw [hdg] at hd₂; cases hd₂; rfl
    subst hlen
    have hs₂ : s₂ = (({ U with heap := s₂.heap, slotsUsed := s₂.slotsUsed } : State).setVm s₂.vm).setTop { g with pc := g.pc + len₂, stack := v.toList ++ g.stack } := by
      refine e3.trans ?_
      rw [hf₂, State.calling_eq h.top, State.setFrames_setFrames, State.setTop_of_frames _ hr', hr]
      rfl
    have hsame : U.sameButNew ({ U with heap := s₂.heap, slotsUsed := s₂.slotsUsed } : State) L mc ms := by
      refine ⟨?_, q2, q3, q4, q5, q6⟩
      obtain ⟨t, ht, -⟩ := State.frames_cons hr
      show ({ U with heap := s₂.heap, slotsUsed := s₂.slotsUsed } : State) = { U.setFrames U.frames with heap := s₂.heap, slotsUsed := s₂.slotsUsed }
      rw [State.setFrames_self ht]
    subst hg
    refine Or.inl ⟨v, ⟨(({ U with heap := s₂.heap, slotsUsed := s₂.slotsUsed } : State).setVm s₂.vm), Ls ++ L, c0 + mc, s0 + ms⟩,
      ⟨X.admits, X.cas, X.clock, X.frames, X.room, X.hears, X.method, X.code, (X.here.setHeapUsed s₂.heap s₂.slotsUsed).setVm hW'.alike, X.tail, State.WarmedH.trans X.warmed hW', X.limits, X.bytes, X.same.trans (hsame.setVm s.vm)⟩,
      ⟨g, mk, s₂, L, rfl, rfl, hqc, rfl, hL, rfl, rfl⟩, ?_⟩
    show Steps p.tables e below _ ((({ U with heap := s₂.heap, slotsUsed := s₂.slotsUsed } : State).setVm s₂.vm).setTop { g with pc := g.pc + len₂, stack := v.toList ++ g.stack })
    rw [← hs₂]
    exact hsteps
  · obtain ⟨e2, q2, q3, q4, q5, q6⟩ := id hsm
    have e3 : s₂ = ({ (U.calling g mk a).setFrames s₂.frames with heap := s₂.heap, slotsUsed := s₂.slotsUsed } : State).setVm s₂.vm := by
      have : s₂ = ({ s₂ with vm := (U.calling g mk a).vm } : State).setVm s₂.vm := rfl
      rw [e2] at this
      exact this
    have hf₂ : s₂.frames = .throwing q :: .java g :: U.frames.tail := hend
    have hW' : U.WarmedH s₂.vm := hW₂
    have hs₂ : s₂ = ((({ U with heap := s₂.heap, slotsUsed := s₂.slotsUsed } : State).setVm s₂.vm).setTop g).pushFrame (.throwing q) := by
      refine e3.trans ?_
      rw [hf₂, State.calling_eq h.top, State.setFrames_setFrames, State.pushFrame, State.frames_setTop _ hr', State.setTop_of_frames _ hr', State.setFrames_setFrames, hr]
      rfl
    have hsame : U.sameButNew ({ U with heap := s₂.heap, slotsUsed := s₂.slotsUsed } : State) L mc ms := by
      refine ⟨?_, q2, q3, q4, q5, q6⟩
      obtain ⟨t, ht, -⟩ := State.frames_cons hr
      show ({ U with heap := s₂.heap, slotsUsed := s₂.slotsUsed } : State) = { U.setFrames U.frames with heap := s₂.heap, slotsUsed := s₂.slotsUsed }
      rw [State.setFrames_self ht]
    subst hg
    refine Or.inr ⟨q, ⟨(({ U with heap := s₂.heap, slotsUsed := s₂.slotsUsed } : State).setVm s₂.vm), Ls ++ L, c0 + mc, s0 + ms⟩,
      ⟨X.admits, X.cas, X.clock, X.frames, X.room, X.hears, X.method, X.code, (X.here.setHeapUsed s₂.heap s₂.slotsUsed).setVm hW'.alike, X.tail, State.WarmedH.trans X.warmed hW', X.limits, X.bytes, X.same.trans (hsame.setVm s.vm)⟩,
      ⟨g, mk, s₂, L, E, ce, rfl, rfl, hx, hce, hcv, hcl, rfl, hL, rfl, rfl⟩, ?_⟩
    show Steps p.tables e below _ (((({ U with heap := s₂.heap, slotsUsed := s₂.slotsUsed } : State).setVm s₂.vm).setTop g).pushFrame (.throwing q))
    rw [← hs₂]
    exact hsteps
end
variable {p : Program} {l : Launch} {e : Env} {R : Room} {s : State} {m : MethodId} {args : Array Value} {below : List Frame} {meth : Method} {c : Code} {T : State} {H : Heap} {locs : List Loc} {cells slots : Nat}
theorem vx_callVX (X : Stand p l e R s m args below meth c T locs cells slots) (hexec : p.tables.exec = Jvm.exec) {own C : String} {index : Nat} {y : MethodName} {bytes : ByteArray} {maxL : Nat} {ret : Option FieldType} {hh : List (Nat × Nat × Nat × Nat)}
    (hown : s.vm.findClass own = some m.cls) (hlink : (Cond.methodLink own index y).before args s = true) (hinst : (Cond.instanceMethod y).before args s = true) (hsel : (Cond.selects C y y).before args s = true)
    (hcode : (Cond.codeWith y bytes maxL ret hh).before args s = true) (hy : y.cls ≠ "java/lang/invoke/MethodHandle" ∧ y.cls ≠ "java/lang/invoke/VarHandle")
    {W9 : Nat} {Pre : Pt → Array Value → Prop} {Post : Pt → Array Value → Option Value → Pt → Prop} {PostX : Pt → Array Value → Addr → Pt → Prop} (hK : vx_Back l R p e below s args y 3 W9 Pre Post PostX)
    {b : Addr} {cellB : Cell} (hcell : T.heap[b]? = some cellB) (hobj : cellB.vm.isStatics = false) (hcls : s.vm.findClass C = some cellB.cls)
    {g : JFrame} (hg : g.method = m) (hsize : g.locals.size = c.maxLocals) {argsL rest : List Value} (hlen : ∀ sig, parseMethodDescriptor y.desc = some sig → argsL.length = sig.parameters.length)
    (hstack : g.stack = argsL.reverse ++ .ref b :: rest) (hW : 2 * g.monitorRoom + (rest.map fun v => v.category).sum ≤ W9) (hdg : decode c.code g.pc = .ok (.invokevirtual index, 3))
    (hpre : ∀ vm₁, s.WarmedH vm₁ → Pre ⟨T.setVm vm₁, locs, cells, slots⟩ (Value.ref b :: argsL).toArray) :
    (∃ (v : Option Value) (vm₁ : Vm) (B : Pt), s.WarmedH vm₁ ∧ Stand p l e R s m args below meth c B.U B.locs B.cells B.slots ∧ Post ⟨T.setVm vm₁, locs, cells, slots⟩ (Value.ref b :: argsL).toArray v B ∧
      ∀ target, Steps p.tables e below (B.U.setTop { g with pc := g.pc + 3, stack := v.toList ++ rest }) target → Steps p.tables e below (T.setTop g) target) ∨
    (∃ (q : Addr) (vm₁ : Vm) (B : Pt), s.WarmedH vm₁ ∧ Stand p l e R s m args below meth c B.U B.locs B.cells B.slots ∧ PostX ⟨T.setVm vm₁, locs, cells, slots⟩ (Value.ref b :: argsL).toArray q B ∧
      Steps p.tables e below (T.setTop g) ((B.U.setTop { g with stack := rest }).pushFrame (.throwing q))) := by
  obtain ⟨mk, methM, hnamed, hmethM, hstM, habM⟩ := Cond.instanceMethod_spec hinst
  obtain ⟨m8, methM', cM, hn8, hmethM', -, -, -, -, -, -, hsigM⟩ := Cond.codeWith_spec hcode
  cases Option.some.inj (hn8.symm.trans hnamed)
  cases hmethM.symm.trans hmethM'
  obtain ⟨c2, r2, m2, q1, q2, q3, q4, kP, hkP, hkPi⟩ := Cond.selects_spec hsel
  cases hcls.symm.trans q1
  cases (State.methodFound?_of_named hnamed hy).symm.trans q2
  cases hnamed.symm.trans q3
  have hselP : selectMethod e.platform s.vm cellB.cls mk = .method mk := by rw [Launch.admits_selectMethod X.admits]; exact q4
  obtain ⟨vm₁, X₁, hstep₁⟩ := X.invokevirtual hexec hown hlink hnamed hmethM hstM hkP hkPi hy (a := b) (cell := cellB) hcell
    (fun z h => by rw [h] at hobj; cases hobj) hselP hmethM habM hkP hkPi (g := g) hg (argsL := argsL) (rest := rest) (hlen _ hsigM) hstack hdg
  rcases hK m meth c ⟨T.setVm vm₁, locs, cells, slots⟩ { g with stack := rest } (.invokevirtual index) mk (Value.ref b :: argsL).toArray X₁ hg hsize hdg hW (X₁.named hnamed) (hpre vm₁ X₁.warmed) with ⟨v, B, X', hpost, hsteps⟩ | ⟨q, B, X', hpost, hsteps⟩
  · exact Or.inl ⟨v, vm₁, B, X₁.warmed, X', hpost, fun target h => hstep₁ _ fun acts => by rw [doInvoke_state]; exact hsteps.trans h⟩
  · exact Or.inr ⟨q, vm₁, B, X₁.warmed, X', hpost, hstep₁ _ fun acts => by rw [doInvoke_state]; exact hsteps⟩
theorem vx_callSX (X : Stand p l e R s m args below meth c T locs cells slots) (hexec : p.tables.exec = Jvm.exec) {own : String} {index : Nat} {y : MethodName} {bytes : ByteArray} {maxL : Nat} {ret : Option FieldType} {hh : List (Nat × Nat × Nat × Nat)}
    (hown : s.vm.findClass own = some m.cls) (hlink : (Cond.methodLink own index y).before args s = true) (hstat : (Cond.static y).before args s = true) (hinit : (Cond.initialized y.cls).before args s = true)
    (hcode : (Cond.codeWith y bytes maxL ret hh).before args s = true) (hy : y.cls ≠ "java/lang/invoke/MethodHandle" ∧ y.cls ≠ "java/lang/invoke/VarHandle")
    {W9 : Nat} {Pre : Pt → Array Value → Prop} {Post : Pt → Array Value → Option Value → Pt → Prop} {PostX : Pt → Array Value → Addr → Pt → Prop} (hK : vx_Back l R p e below s args y 3 W9 Pre Post PostX)
    {g : JFrame} (hg : g.method = m) (hsize : g.locals.size = c.maxLocals) {argsL rest : List Value} (hlen : ∀ sig, parseMethodDescriptor y.desc = some sig → argsL.length = sig.parameters.length)
    (hstack : g.stack = argsL.reverse ++ rest) (hW : 2 * g.monitorRoom + (rest.map fun v => v.category).sum ≤ W9) (hdg : decode c.code g.pc = .ok (.invokestatic index, 3))
    (hpre : ∀ vm₁, s.WarmedH vm₁ → Pre ⟨T.setVm vm₁, locs, cells, slots⟩ argsL.toArray) :
    (∃ (v : Option Value) (vm₁ : Vm) (B : Pt), s.WarmedH vm₁ ∧ Stand p l e R s m args below meth c B.U B.locs B.cells B.slots ∧ Post ⟨T.setVm vm₁, locs, cells, slots⟩ argsL.toArray v B ∧
      ∀ target, Steps p.tables e below (B.U.setTop { g with pc := g.pc + 3, stack := v.toList ++ rest }) target → Steps p.tables e below (T.setTop g) target) ∨
    (∃ (q : Addr) (vm₁ : Vm) (B : Pt), s.WarmedH vm₁ ∧ Stand p l e R s m args below meth c B.U B.locs B.cells B.slots ∧ PostX ⟨T.setVm vm₁, locs, cells, slots⟩ argsL.toArray q B ∧
      Steps p.tables e below (T.setTop g) ((B.U.setTop { g with stack := rest }).pushFrame (.throwing q))) := by
  obtain ⟨mk, methM, cM, hnamed, hmethM, -, -, -, -, -, -, hsigM⟩ := Cond.codeWith_spec hcode
  have hstatic : methM.isStatic = true := Cond.static_spec hnamed hmethM hstat
  obtain ⟨kP, hkP, -⟩ := className_of_methodNamed hnamed
  have hinitP : kP.init = .initialized := Cond.initialized_spec (findClass_of_methodNamed hnamed) hkP hinit
  obtain ⟨vm₁, X₁, hstep₁⟩ := X.invokestatic hexec hown hlink hnamed hmethM hstatic hkP hinitP hy (g := g) hg (argsL := argsL) (rest := rest) (hlen _ hsigM) hstack hdg
  rcases hK m meth c ⟨T.setVm vm₁, locs, cells, slots⟩ { g with stack := rest } (.invokestatic index) mk argsL.toArray X₁ hg hsize hdg hW (X₁.named hnamed) (hpre vm₁ X₁.warmed) with ⟨v, B, X', hpost, hsteps⟩ | ⟨q, B, X', hpost, hsteps⟩
  · exact Or.inl ⟨v, vm₁, B, X₁.warmed, X', hpost, fun target h => hstep₁ _ fun acts => by rw [doInvoke_state]; exact hsteps.trans h⟩
  · exact Or.inr ⟨q, vm₁, B, X₁.warmed, X', hpost, hstep₁ _ fun acts => by rw [doInvoke_state]; exact hsteps⟩
theorem vx_callVW (X : Stand p l e R s m args below meth c T locs cells slots) (hexec : p.tables.exec = Jvm.exec) {own C : String} {index : Nat} {y : MethodName} {bytes : ByteArray} {maxL : Nat} {ret : Option FieldType} {hh : List (Nat × Nat × Nat × Nat)}
    (hown : s.vm.findClass own = some m.cls) (hlink : (Cond.methodLink own index y).before args s = true) (hinst : (Cond.instanceMethod y).before args s = true) (hsel : (Cond.selects C y y).before args s = true)
    (hcode : (Cond.codeWith y bytes maxL ret hh).before args s = true) (hy : y.cls ≠ "java/lang/invoke/MethodHandle" ∧ y.cls ≠ "java/lang/invoke/VarHandle")
    {W9 : Nat} {Pre : Pt → Array Value → Prop} {Post : Pt → Array Value → Option Value → Pt → Prop} (hK : Back l R p e below s args y 3 W9 Pre Post)
    {b : Addr} {cellB : Cell} (hcell : T.heap[b]? = some cellB) (hobj : cellB.vm.isStatics = false) (hcls : s.vm.findClass C = some cellB.cls)
    {g : JFrame} (hg : g.method = m) (hsize : g.locals.size = c.maxLocals) {argsL rest : List Value} (hlen : ∀ sig, parseMethodDescriptor y.desc = some sig → argsL.length = sig.parameters.length)
    (hstack : g.stack = argsL.reverse ++ .ref b :: rest) (hW : 2 * g.monitorRoom + (rest.map fun v => v.category).sum ≤ W9) (hdg : decode c.code g.pc = .ok (.invokevirtual index, 3))
    (hpre : ∀ vm₁, s.WarmedH vm₁ → Pre ⟨T.setVm vm₁, locs, cells, slots⟩ (Value.ref b :: argsL).toArray) :
    ∃ (v : Option Value) (vm₁ : Vm) (B : Pt), s.WarmedH vm₁ ∧ Stand p l e R s m args below meth c B.U B.locs B.cells B.slots ∧ Post ⟨T.setVm vm₁, locs, cells, slots⟩ (Value.ref b :: argsL).toArray v B ∧
      ∀ target, Steps p.tables e below (B.U.setTop { g with pc := g.pc + 3, stack := v.toList ++ rest }) target → Steps p.tables e below (T.setTop g) target := by
  obtain ⟨mk, methM, hnamed, hmethM, hstM, habM⟩ := Cond.instanceMethod_spec hinst
  obtain ⟨m8, methM', cM, hn8, hmethM', -, -, -, -, -, -, hsigM⟩ := Cond.codeWith_spec hcode
  cases Option.some.inj (hn8.symm.trans hnamed)
  cases hmethM.symm.trans hmethM'
  obtain ⟨c2, r2, m2, q1, q2, q3, q4, kP, hkP, hkPi⟩ := Cond.selects_spec hsel
  cases hcls.symm.trans q1
  cases (State.methodFound?_of_named hnamed hy).symm.trans q2
  cases hnamed.symm.trans q3
  have hselP : selectMethod e.platform s.vm cellB.cls mk = .method mk := by rw [Launch.admits_selectMethod X.admits]; exact q4
  obtain ⟨vm₁, X₁, hstep₁⟩ := X.invokevirtual hexec hown hlink hnamed hmethM hstM hkP hkPi hy (a := b) (cell := cellB) hcell
    (fun z h => by rw [h] at hobj; cases hobj) hselP hmethM habM hkP hkPi (g := g) hg (argsL := argsL) (rest := rest) (hlen _ hsigM) hstack hdg
  obtain ⟨v, B, X', hpost, hsteps⟩ := hK m meth c ⟨T.setVm vm₁, locs, cells, slots⟩ { g with stack := rest } (.invokevirtual index) mk (Value.ref b :: argsL).toArray X₁ hg hsize hdg hW (X₁.named hnamed) (hpre vm₁ X₁.warmed)
  exact ⟨v, vm₁, B, X₁.warmed, X', hpost, fun target h => hstep₁ _ fun acts => by rw [doInvoke_state]; exact hsteps.trans h⟩
abbrev vx_CVW (R : Room) (s : State) (args : Array Value) (own C : String) (index : Nat) (y : MethodName) (bytes : ByteArray) (maxL : Nat) (ret : Option FieldType) (hh : List (Nat × Nat × Nat × Nat)) (ws : List Cond) (rm : Room) (mc ms n : Nat) : Prop :=
  (rm.cells = mc ∧ rm.slots = ms ∧ rm.frames + 1 ≤ R.frames ∧ 8 + (maxL + 11) + rm.locals ≤ R.locals ∧ (∀ w ∈ ws, ∀ (a' : Array Value) (U : State), s.WarmedH U.vm → w.before a' U = true) ∧ Cond.codeWith y bytes maxL ret hh ∈ ws) ∧
  (Cond.codeWith y bytes maxL ret hh).before args s = true ∧ (Cond.initialized y.cls).before args s = true ∧ (y.cls ≠ "java/lang/invoke/MethodHandle" ∧ y.cls ≠ "java/lang/invoke/VarHandle") ∧
  (∀ sig, parseMethodDescriptor y.desc = some sig → n = sig.parameters.length) ∧ (Cond.methodLink own index y).before args s = true ∧ (Cond.instanceMethod y).before args s = true ∧ (Cond.selects C y y).before args s = true
theorem vx_cwVW {own C : String} {index maxL mc ms : Nat} {y : MethodName} {bytes : ByteArray} {ret : Option FieldType} {hh : List (Nat × Nat × Nat × Nat)} {Ts ws ws' : List Cond} {rm : Room} (n : Nat) (ht : ∀ w ∈ Ts, w.before args s = true) (hT : GoodIn Ts (wsV own index C y ws)) (hw : ws = Cond.codeWith y bytes maxL ret hh :: ws') (hrc : rm.cells = mc) (hrs : rm.slots = ms)
    (hd : y.cls = C ∧ y.cls ≠ "java/lang/invoke/MethodHandle" ∧ y.cls ≠ "java/lang/invoke/VarHandle" ∧ (parseMethodDescriptor y.desc).map (fun d => d.parameters.length) = some n) (hR : rm.frames + 1 ≤ R.frames ∧ 8 + (maxL + 11) + rm.locals ≤ R.locals) :
    vx_CVW R s args own C index y bytes maxL ret hh ws rm mc ms n := by
  obtain ⟨hC, hd⟩ := hd
  subst hC
  have ok : ∀ w ∈ wsV own index y.cls y ws, w.before args s = true := fun w h => ht w (hT w h).1
  have hG : GoodIn Ts ws := fun w h => hT w (by unfold wsV; exact List.mem_append_right _ h)
  have hc : Cond.codeWith y bytes maxL ret hh ∈ ws := by rw [hw]; exact List.mem_cons_self
  refine ⟨⟨hrc, hrs, hR.1, hR.2, pay_in ht hG, hc⟩, ht _ (hG _ hc).1, ok _ (by simp [wsV]), ⟨hd.1, hd.2.1⟩, fun sig h => ?_, ok _ (by simp [wsV]), ok _ (by simp [wsV]), ok _ (by simp [wsV])⟩
  have h2 := hd.2.2
  rw [h] at h2
  exact (Option.some.inj h2).symm
theorem vx_runVW {y : MethodName} {bytes cc : ByteArray} {maxL nL mc ms n index : Nat} {ret : Option FieldType} {hh : List (Nat × Nat × Nat × Nat)} {ws : List Cond} {rm : Room} {Pc : Array Value → State → Prop} {Qc : Array Value → State → Outcome → State → Prop} {free : Addr → Prop} {Ts : List Cond} {own C : String} {b : Addr} {As rest : List Value} {g : JFrame}
    (S : CallFix p m c cc nL s args Ts own) (hM : Met l y ws rm Pc Qc mc ms free) (cw : vx_CVW R s args own C index y bytes maxL ret hh ws rm mc ms n) (hp : PreV s H C b Pc As)
    (hg : g.method = m) (hn : As.length = n) (hsize : g.locals.size = nL) (hstack : g.stack = As.reverse ++ .ref b :: rest) (hW : 2 * g.monitorRoom + (rest.map fun v => v.category).sum ≤ 8) (hdg : decode cc g.pc = .ok (.invokevirtual index, 3)) (hf : cells + mc ≤ R.cells ∧ slots + ms ≤ R.slots) :
    va_Run p l e R s m args below meth c H locs cells slots mc ms g rest (Qc (Value.ref b :: As).toArray) free := by
  obtain ⟨⟨hrc, hrs, hfr, hlo, hws, hcw⟩, hcode, hini, hy, hlen, hl, hin, hse⟩ := cw
  have hK : Back l R p e below s args y 3 8 (PreOf R mc ms Pc) (PostOf Qc mc ms free) := va_backW (hh := hh) (bytes := bytes) (maxL := maxL) (ret := ret) hM hp.1 hrc hrs hfr hlo hws hcw (fun a' U hW => word_at hW (Or.inl (by first | rfl | simp [Cond.onTables, Cond.keeps, Cond.steady])) hini)
  obtain ⟨hx, hb, hml, ho, -⟩ := S
  obtain ⟨-, ⟨cellB, hcB, hoB, hclB⟩, hPc⟩ := hp
  intro T hT X
  obtain ⟨v, vm₁, ⟨U', l2, c2, s2⟩, hW₁, X', ⟨g', mk, t, L, e1, e2, hq, h1, hL, h2, h3⟩, st⟩ := vx_callVW X hx (C := C) (hh := hh) (bytes := bytes) (maxL := maxL) (ret := ret) ho hl hin hse hcode hy hK (by rw [hT]; exact hcB) hoB hclB hg (hsize.trans hml.symm) (argsL := As) (rest := rest) (fun sig h => hn.trans (hlen sig h)) hstack hW (by rw [hb]; exact hdg)
    (fun vm₁ hW₁ => ⟨hf.1, hf.2, hPc (T.setVm vm₁) hT hW₁⟩)
  dsimp only [Pt.U, Pt.locs, Pt.cells, Pt.slots] at X' e1 e2 h1 h2 h3 st
  subst h1; subst h2; subst h3
  exact ⟨v, (T.setVm vm₁).calling g' mk (Value.ref b :: As).toArray, t, U', L, hT, X', hL, e1, e2, hq, st⟩
section
variable {y : MethodName} {bytes cc : ByteArray} {maxL nL mc ms n index : Nat} {ret : Option FieldType} {ws : List Cond} {rm : Room} {Pc : Array Value → State → Prop} {Qc : Array Value → State → Outcome → State → Prop} {XC : String → State → State → Prop} {free : Addr → Prop} {Ts : List Cond} {own C : String} {b : Addr} {As rest : List Value} {g : JFrame}
theorem vx_runVX {hh : List (Nat × Nat × Nat × Nat)} (S : CallFix p m c cc nL s args Ts own) (hM : vx_Met l y ws rm Pc Qc XC mc ms free) (cw : vx_CVW R s args own C index y bytes maxL ret hh ws rm mc ms n) (hp : PreV s H C b Pc As)
    (hg : g.method = m) (hn : As.length = n) (hsize : g.locals.size = nL) (hstack : g.stack = As.reverse ++ .ref b :: rest) (hW : 2 * g.monitorRoom + (rest.map fun v => v.category).sum ≤ 8) (hdg : decode cc g.pc = .ok (.invokevirtual index, 3)) (hf : cells + mc ≤ R.cells ∧ slots + ms ≤ R.slots) :
    vx_Run p l e R s m args below meth c H locs cells slots mc ms g rest (Qc (Value.ref b :: As).toArray) XC free := by
  obtain ⟨⟨hrc, hrs, hfr, hlo, hws, hcw⟩, hcode, hini, hy, hlen, hl, hin, hse⟩ := cw
  have hK : vx_Back l R p e below s args y 3 8 (PreOf R mc ms Pc) (PostOf Qc mc ms free) (vx_Post XC mc ms free) := vx_backW (hh := hh) (bytes := bytes) (maxL := maxL) (ret := ret) hM hp.1 hrc hrs hfr hlo hws hcw (fun a' U hW => word_at hW (Or.inl (by first | rfl | simp [Cond.onTables, Cond.keeps, Cond.steady])) hini)
  obtain ⟨hx, hb, hml, ho, -⟩ := S
  obtain ⟨-, ⟨cellB, hcB, hoB, hclB⟩, hPc⟩ := hp
  intro T hT X
  rcases vx_callVX X hx (C := C) (hh := hh) (bytes := bytes) (maxL := maxL) (ret := ret) ho hl hin hse hcode hy hK (by rw [hT]; exact hcB) hoB hclB hg (hsize.trans hml.symm) (argsL := As) (rest := rest) (fun sig h => hn.trans (hlen sig h)) hstack hW (by rw [hb]; exact hdg)
    (fun vm₁ hW₁ => ⟨hf.1, hf.2, hPc (T.setVm vm₁) hT hW₁⟩) with ⟨v, vm₁, ⟨U', l2, c2, s2⟩, hW₁, X', ⟨g', mk, t, L, e1, e2, hq, h1, hL, h2, h3⟩, st⟩ | ⟨q, vm₁, ⟨U', l2, c2, s2⟩, hW₁, X', ⟨g', mk, t, L, E, ce, e1, e2, hq, hce, hcv, hcl, h1, hL, h2, h3⟩, st⟩
  · dsimp only [Pt.U, Pt.locs, Pt.cells, Pt.slots] at X' e1 e2 h1 h2 h3 st
    subst h1; subst h2; subst h3
    exact Or.inl ⟨v, (T.setVm vm₁).calling g' mk (Value.ref b :: As).toArray, t, U', L, hT, X', hL, e1, e2, hq, st⟩
  · dsimp only [Pt.U, Pt.locs, Pt.cells, Pt.slots] at X' e1 e2 h1 h2 h3 st hcl
    subst h1; subst h2; subst h3
    exact Or.inr ⟨q, (T.setVm vm₁).calling g' mk (Value.ref b :: As).toArray, t, U', L, E, ce, hT, X', hL, e1, e2, hq, hce, hcv, vx_cls hW₁ hcl, st⟩
theorem vx_runSX {hh : List (Nat × Nat × Nat × Nat)} (S : CallFix p m c cc nL s args Ts own) (hM : vx_Met l y ws rm Pc Qc XC mc ms free) (cw : vx_CSW R s args own index y bytes maxL ret hh ws rm mc ms n) (hp : PreS s H Pc As)
    (hg : g.method = m) (hn : As.length = n) (hsize : g.locals.size = nL) (hstack : g.stack = As.reverse ++ rest) (hW : 2 * g.monitorRoom + (rest.map fun v => v.category).sum ≤ 8) (hdg : decode cc g.pc = .ok (.invokestatic index, 3)) (hf : cells + mc ≤ R.cells ∧ slots + ms ≤ R.slots) :
    vx_Run p l e R s m args below meth c H locs cells slots mc ms g rest (Qc As.toArray) XC free := by
  obtain ⟨⟨hrc, hrs, hfr, hlo, hws, hcw⟩, hcode, hini, hy, hlen, hl, hstt⟩ := cw
  have hK : vx_Back l R p e below s args y 3 8 (PreOf R mc ms Pc) (PostOf Qc mc ms free) (vx_Post XC mc ms free) := vx_backW (hh := hh) (bytes := bytes) (maxL := maxL) (ret := ret) hM hp.1 hrc hrs hfr hlo hws hcw (fun a' U hW => word_at hW (Or.inl (by first | rfl | simp [Cond.onTables, Cond.keeps, Cond.steady])) hini)
  obtain ⟨hx, hb, hml, ho, -⟩ := S
  intro T hT X
  rcases vx_callSX X hx (hh := hh) (bytes := bytes) (maxL := maxL) (ret := ret) ho hl hstt hini hcode hy hK hg (hsize.trans hml.symm) (argsL := As) (rest := rest) (fun sig h => hn.trans (hlen sig h)) hstack hW (by rw [hb]; exact hdg)
    (fun vm₁ hW₁ => ⟨hf.1, hf.2, hp.2 (T.setVm vm₁) hT hW₁⟩) with ⟨v, vm₁, ⟨U', l2, c2, s2⟩, hW₁, X', ⟨g', mk, t, L, e1, e2, hq, h1, hL, h2, h3⟩, st⟩ | ⟨q, vm₁, ⟨U', l2, c2, s2⟩, hW₁, X', ⟨g', mk, t, L, E, ce, e1, e2, hq, hce, hcv, hcl, h1, hL, h2, h3⟩, st⟩
  · dsimp only [Pt.U, Pt.locs, Pt.cells, Pt.slots] at X' e1 e2 h1 h2 h3 st
    subst h1; subst h2; subst h3
    exact Or.inl ⟨v, (T.setVm vm₁).calling g' mk As.toArray, t, U', L, hT, X', hL, e1, e2, hq, st⟩
  · dsimp only [Pt.U, Pt.locs, Pt.cells, Pt.slots] at X' e1 e2 h1 h2 h3 st hcl
    subst h1; subst h2; subst h3
    exact Or.inr ⟨q, (T.setVm vm₁).calling g' mk As.toArray, t, U', L, E, ce, hT, X', hL, e1, e2, hq, hce, hcv, vx_cls hW₁ hcl, st⟩
end
end VXH
theorem vx_ofWH {l : Launch} {y : MethodName} {ws ws' : List Cond} {rm : Room} {Pc : Array Value → State → Prop} {Qc : Array Value → State → Outcome → State → Prop} {XC : String → State → State → Prop} {mc ms : Nat} {free : Addr → Prop} {cc : ByteArray} {maxL : Nat} {ret : Option FieldType} {hh : List (Nat × Nat × Nat × Nat)}
    (hy : plainName y.cls = true) (hw : ws = Cond.codeWith y cc maxL ret hh :: ws')
    (body : ∀ p e s m args below meth c s₁, BodyLoose p l y (headSpec ws rm) cc maxL ret e s m args below meth c s₁ → c.maxLocals = maxL → Pc args s →
      W p l e (headSpec ws rm).room s m args below meth c s.heap [] 0 0 (vx_MQ below Qc XC args s mc ms free) (entryFrame m args maxL)) : vx_Met l y ws rm Pc Qc XC mc ms free := by
  refine MetFree.of_bodyS (code := cc) (maxLocals := maxL) (ret := ret) hy ?_ ?_
  · intro args s m h hn
    obtain ⟨m9, meth, c, hn9, h1, h2, h3, h4, -, h5, h6, -⟩ := Cond.codeWith_spec (atoms_spec (ws := ws) h _ (by rw [hw]; exact List.mem_cons_self))
    cases hn.symm.trans hn9
    exact ⟨meth, c, h1, h2, h3, h4, h5, h6⟩
  · intro p e s m args below meth c s₁ B hml hP _
    have hh0 : s₁.heap = s.heap := by rw [B.state]; rfl
    obtain ⟨t, a1, o, b1, b2, b3⟩ := body p e s m args below meth c s₁ B hml hP s₁ hh0 (Stand.of_body B)
    exact ⟨t, o, a1, b1, b2, b3⟩
/-! ===== END ===== -/
/-! ===== BEGIN what the machine throws by itself, no traces kept ===== -/
section VXM
set_option maxHeartbeats 1000000 in
/-- the machine throws cls with the message text, no traces kept: from its note over the frame g to 'throwing' over the same frame (follows the proofs of Stand.vmThrowsMessage, Shelf/KitTracedVmS.lean, and Stand.throwsMessageColdBareV, StandMessageColdV.lean, without the step out of the frame) -/
theorem vx_vmAt {p : Program} {l : Launch} {e : Env} {R : Room} {s : State} {m₀ : MethodId} {args : Array Value} {below : List Frame} {meth : Method} {c : Code} {W : State} {locs : List Loc} {cells slots : Nat}
    (X : Stand p l e R s m₀ args below meth c W locs cells slots) (hexec : p.tables.exec = Jvm.exec) (htr : e.platform.stackTraces = false) {cls : String} {names : List String} {text : String}
    (hcls : Bundle.fit cls = true) (hnames : ∀ n ∈ names, Bundle.fit n = true) (hsoe : (cls == "java/lang/StackOverflowError") = false) (hoom : (cls == "java/lang/OutOfMemoryError") = false)
    (h : ∀ a ∈ Bundle.messageArmAtoms cls names, a.before args s = true)
    (hlocs : ∀ x ∈ locs, ∀ cell, s.heap[x.base]? = some cell → cell.vm.isStatics = false)
    (htext : (text == notModelled) = false) (hlimit : ¬ (stringBytes (stringToUtf16 text)).size > e.platform.arrayLengthLimit) (hheap : ¬ (stringBytes (stringToUtf16 text)).size * componentBytes .byte > e.platform.maxHeapBytes)
    {g : JFrame} (hg : g.method = m₀) (hsize : g.locals.size = c.maxLocals)
    (hRframes : names.length + 4 < R.frames) (hRlocals : 2 * g.monitorRoom + (g.stack.map fun v => v.category).sum + 10240 ≤ R.locals) (hshort : 13 * names.length + 55 ≤ 10240)
    (hRcells : cells + 3 ≤ R.cells) (hRslots : slots + ((stringBytes (stringToUtf16 text)).size + 4 + 6) ≤ R.slots) (hlocks : meth.locks = false) :
    ∃ (S : State) (q : Addr) (ce : Cell), (∀ target, Steps p.tables e below ((S.setTop g).pushFrame (.throwing q)) target → Steps p.tables e below ((W.setTop g).pushFrame (.throwNew cls (some text) none)) target) ∧
      Stand p l e R s m₀ args below meth c S locs (cells + 3) (slots + ((stringBytes (stringToUtf16 text)).size + 4 + 6)) ∧ S.heap[q]? = some ce ∧ s.vm.findClass cls = some ce.cls ∧ ce.vm = .none := by
  have howns : e.platform.frameOwnsMonitors = true := by rw [X.admits.platform]
  have hfin : e.platform.finalization = false := by rw [X.admits.platform]
  have hpl : e.platform.magicAccessors = ({} : Platform).magicAccessors := by rw [X.admits.platform]
  have a : ∀ x, x ∈ Bundle.messageArmAtoms cls names → x.holds args s none s [] = true := fun x hx => h x hx
  obtain ⟨T, Z0, L, -, Y⟩ := ThrowableC.of_atoms (args := args) howns hfin hpl (fun x hx => h x (by simp [Bundle.messageArmAtoms, hx]))
  obtain ⟨Z, M, LZ, LM, hnZ⟩ := Init0T.ofS_atoms (args := args) hpl L Y (fun x hx => h x (by simp [Bundle.messageArmAtoms, hx]))
  obtain ⟨P1, Ps, hlen, L1, hL, hP1m, hlink1, hlink⟩ := Bundle.chainS (args := args) hpl hnZ names cls hcls hnames (fun x hx => h x (by simp [Bundle.messageArmAtoms, hx]))
  obtain ⟨Zs, LZs, hn4, hfitv, hfitc⟩ := StringT.of_atoms (args := args) (fun x hx => h x (by simp [Bundle.messageArmAtoms, hx]))
  have hfound : s.vm.findClass cls = some P1.m.cls := findClass_of_methodNamed hP1m
  obtain ⟨c1, kX, hc1, hk, hord, -, -, hn6⟩ := Cond.instantiable_spec (a (.instantiable cls 6) (by simp [Bundle.messageArmAtoms]))
  cases Option.some.inj (hc1.symm.trans hfound)
  have hinit := Cond.initialized_spec hfound hk (a (.initialized cls) (by simp [Bundle.messageArmAtoms]))
  have hctor : kX.findMethod "<init>" "(Ljava/lang/String;)V" = some P1.m.idx := findMethod_of_methodNamed hP1m hk
  have hsel0 : selectMethod e.platform s.vm P1.m.cls T.fill0 = .method T.fill0 := by
    obtain ⟨c2, r2, m2, q1, q2, q3, q4, -⟩ := Cond.selects_spec (a (.selects cls Bundle.tFill0 Bundle.tFill0) (by simp [Bundle.messageArmAtoms]))
    cases Option.some.inj (q1.symm.trans hfound)
    cases Option.some.inj (q2.symm.trans (State.methodFound?_of_named Y.fill0 (by decide)))
    cases Option.some.inj (q3.symm.trans Y.fill0)
    rw [Launch.admits_selectMethod X.admits]; exact q4
  have hselF : selectMethod e.platform s.vm P1.m.cls T.fill = .method T.fill := by
    obtain ⟨c2, r2, m2, q1, q2, q3, q4, -⟩ := Cond.selects_spec (a (.selects cls Bundle.tFill Bundle.tFill) (by simp [Bundle.messageArmAtoms]))
    cases Option.some.inj (q1.symm.trans hfound)
    cases Option.some.inj (q2.symm.trans (State.methodFound?_of_named Y.fill (by decide)))
    cases Option.some.inj (q3.symm.trans Y.fill)
    rw [Launch.admits_selectMethod X.admits]; exact q4
  obtain ⟨cellS0, hcS0, hiss⟩ := Y.statics
  obtain ⟨u0, hu0⟩ := Cond.staticRefV Y.unassigned L.unassignedStatic L.statics hcS0 hiss (a (.isRef (.static Bundle.tN "UNASSIGNED_STACK" Bundle.steD)) (by simp [Bundle.messageArmAtoms]))
  obtain ⟨sen, hsen⟩ := Cond.staticRefV Y.sentinel L.sentinelStatic L.statics hcS0 hiss (a (.isRef (.static Bundle.tN "SUPPRESSED_SENTINEL" Bundle.listD)) (by simp [Bundle.messageArmAtoms]))
  obtain ⟨ci198, i198, fB, hk198, hg198, ha198, hsB, -, hnB, htB, hffB⟩ := Cond.ownField (t := .object "java/lang/Object") Y.found L.cls (by decide +kernel) (a (.fieldLink Bundle.tN 198 Bundle.tN "backtrace" "Ljava/lang/Object;") (by simp [Bundle.messageArmAtoms])) (a (.lays Bundle.tN Bundle.tN "backtrace" "Ljava/lang/Object;") (by simp [Bundle.messageArmAtoms])) e.platform hpl
  obtain ⟨cellS, hcS', heS, -, hkeep⟩ := X.same.2.2.2.2.2 T.aS cellS0 hcS0
  have hcellS : W.heap[T.aS]? = some cellS := hcS'
  have hout' : ∀ i, (⟨T.aS, i⟩ : Loc) ∉ locs := fun i hmem => by
    have := hlocs _ hmem cellS0 hcS0
    rw [hiss] at this; cases this
  have hknownS : cellS.vm ≠ .unknown := by
    rw [heS]; intro hu
    rw [show cellS0.vm = .unknown from hu] at hiss
    cases hiss
  have hvU : cellS.slots[T.fUnassigned.slot]? = some u0.v := by rw [hkeep _ (hout' _)]; exact hu0
  have hvSen : cellS.slots[T.fSentinel.slot]? = some sen.v := by rw [hkeep _ (hout' _)]; exact hsen
  obtain ⟨iM, hffM⟩ := Y.msg
  obtain ⟨tyC, dC, hdC, hdnC⟩ := Cond.laysAt hfound hk Y.cause (a (.lays cls Bundle.tN "cause" "Ljava/lang/Throwable;") (by simp [Bundle.messageArmAtoms]))
  obtain ⟨tyS, dS, hdS, hdnS⟩ := Cond.laysAt hfound hk Y.stack (a (.lays cls Bundle.tN "stackTrace" Bundle.steD) (by simp [Bundle.messageArmAtoms]))
  obtain ⟨tyP, dP, hdP, hdnP⟩ := Cond.laysAt hfound hk Y.supp (a (.lays cls Bundle.tN "suppressedExceptions" Bundle.listD) (by simp [Bundle.messageArmAtoms]))
  obtain ⟨tyM, dM, hdM, hdnM⟩ := Cond.laysAt hfound hk hffM (a (.lays cls Bundle.tN "detailMessage" "Ljava/lang/String;") (by simp [Bundle.messageArmAtoms]))
  obtain ⟨tyB, dB, hdB, hdnB⟩ := Cond.laysAt hfound hk hffB (a (.lays cls Bundle.tN "backtrace" "Ljava/lang/Object;") (by simp [Bundle.messageArmAtoms]))
  have bC := Cond.laysApart hdB hdC hdnB hdnC (by rw [hnB, Y.causeName]; decide)
  have bS := Cond.laysApart hdB hdS hdnB hdnS (by rw [hnB, Y.stackName]; decide)
  have bP := Cond.laysApart hdB hdP hdnB hdnP (by rw [hnB, Y.suppName]; decide)
  have hbk : ((preparedCellV T.toThrowableT (freshCell P1.m.cls kX) (W.heap.size + 2) u0 sen).withEntry W.cur).slots[fB.slot]? = some .null := by
    have := fresh_default (c := P1.m.cls) tyB
    rw [htB] at this
    simpa [preparedCellV, Cell.setSlot, Cell.withEntry, Array.getElem?_setIfInBounds, bC, bS, bP, bC.symm, bS.symm, bP.symm, defaultValue] using this
  have tkC := Takes.of_laid (v := .ref (W.heap.size + 2)) hk hord tyC (by rw [Y.causeType]; rfl)
  have tkS := Takes.of_laid (v := u0.v) hk hord tyS (by rw [Y.stackType]; exact fits_refV_array _ u0)
  have tkP := Takes.of_laid (v := sen.v) hk hord tyP (by rw [Y.suppType]; exact fits_refV_object _ sen)
  have tkM := Takes.of_laid (v := .ref (W.heap.size + 1)) hk hord tyM (by rw [Y.msgType]; rfl)
  have hskip : SkipFacts T e.platform s (fun u => u) u0 ((preparedCellV T.toThrowableT (freshCell P1.m.cls kX) (W.heap.size + 2) u0 sen).withEntry W.cur) := ⟨{ ci198 := ci198, i198 := i198, fBack := fB }, ⟨hk198, hg198, ha198, hsB⟩, hbk, fun _ _ => rfl⟩
  have h0 : At W g.method c below := by rw [hg]; exact X.here
  obtain ⟨hbeyond, hfreeW⟩ := X.vmMayThrow hsize (.throwNew cls (some text) none) (fun f hf => by cases hf) rfl hRlocals
  have hfr' : W.frames.length + Ps.length + 4 < (e.platform.stackLimits W.me).1 := by have := X.framesAbove hRframes; omega
  have hwd' : (stackUse (.java g :: W.frames.tail)).2 + 13 * Ps.length + 55 ≤ (e.platform.stackLimits W.me).2 := by have := X.stackAbove hsize (K := 13 * Ps.length + 55) (by omega); omega
  have hslots : W.slotsUsed + (stringBytes (stringToUtf16 text)).size + Zs.kS.instanceTypes.size + kX.instanceTypes.size ≤ e.platform.maxSlots := by
    have := X.slotsAbove hRslots
    rw [hn4, hn6]
    omega
  obtain ⟨vm', hW', st⟩ := Steps.vmThrowsMessageColdByV p (s₀ := s) (S := W) (g := g) h0 hexec T L Z LZ M LM X.warmed (t := W.cur) rfl Zs LZs P1 L1 Ps hL hlink1 hlink hsoe hoom hfound hk hinit hord hctor
    (Launch.admits_hotImplicitExceptions X.admits) hbeyond hfreeW htext hlimit hheap (X.cellsAbove hRcells) hslots (hfitv _) (hfitc _)
    (Nn := fun u => u) heapOnly_id (fun _ _ => rfl) (fun _ => rfl) (fun u x y => setCell_twice _ _ _ _) (fun _ => Nat.le_refl _) (cN := ((preparedCellV T.toThrowableT (freshCell P1.m.cls kX) (W.heap.size + 2) u0 sen).withEntry W.cur))
    hsel0 hcellS hknownS hvU tkS (fun _ hu => hu) (fun _ hu => hu) rfl rfl rfl (by simp [preparedCellV, Cell.setSlot, Cell.withEntry]) hskip (fun _ _ hA hW _ hroom _ hrest => L.nativeOff p htr hA hW hroom hrest) hselF hvSen tkC tkP tkM Y.objLocals rfl hfr' hwd'
  rw [plainBareV_eq T.toThrowableT (W.heap.size + 2) u0 sen (.ref (W.heap.size + 1)) W.cur rfl rfl] at st
  obtain ⟨-, -, w3, w4, -, -, -⟩ := withThrown_facts e.platform W Zs text P1.m.cls kX
  have X3 := ((X.pushed (bytesOf Zs.cB (stringToUtf16 text))).pushed (stringAt Zs.cS Zs.kS Zs.fv Zs.fc (stringToUtf16 text) W.heap.size)).pushed (freshCell P1.m.cls kX)
  rw [← withString_eq] at X3
  have X4 := X3.noted hW'
  have ha : (W.heap.size + 2) < ((withThrown W Zs text P1.m.cls kX).setVm vm').heap.size := by show _ < (withThrown W Zs text P1.m.cls kX).heap.size; rw [w3]; omega
  have hcell : ((withThrown W Zs text P1.m.cls kX).setVm vm').heap[(W.heap.size + 2)]? = some (freshCell P1.m.cls kX) := w4
  have X5 := ((((X4.stored hcell T.fCause.slot (.ref (W.heap.size + 2))).storedAgain ha T.fStack.slot u0.v).storedAgain ha T.fSupp.slot sen.v).storedAgain ha T.fStack.slot u0.v).storedAgain ha T.fMsg.slot (.ref (W.heap.size + 1))
  obtain ⟨g₁, hfrM⟩ := X5.frames_eq
  have hU : ((((withThrown W Zs text P1.m.cls kX).setVm vm').setCell (W.heap.size + 2) (plainBareV T.toThrowableT (freshCell P1.m.cls kX) (W.heap.size + 2) u0 sen (.ref (W.heap.size + 1)))).setTop g).pushFrame (.throwing (W.heap.size + 2)) = (((withThrown W Zs text P1.m.cls kX).setVm vm').setCell (W.heap.size + 2) (plainBareV T.toThrowableT (freshCell P1.m.cls kX) (W.heap.size + 2) u0 sen (.ref (W.heap.size + 1)))).setFrames (.throwing (W.heap.size + 2) :: .java g :: below) := by
    rw [State.pushFrame, State.frames_setTop _ hfrM, State.setTop_of_frames _ hfrM, State.setFrames_setFrames]
  have b1 : (bytesOf Zs.cB (stringToUtf16 text)).slots.size = (stringBytes (stringToUtf16 text)).size := by
    rw [(Cell.writeAll_facts _ _).2.2]; simp [bytes0]
  have b2 : (stringAt Zs.cS Zs.kS Zs.fv Zs.fc (stringToUtf16 text) W.heap.size).slots.size = 4 := by simp [string0, Cell.setSlot, hn4]
  have b3 : (freshCell P1.m.cls kX).slots.size = 6 := by simp [hn6]
  rw [b1, b2, b3] at X5
  have e9 : slots + (stringBytes (stringToUtf16 text)).size + 4 + 6 = slots + ((stringBytes (stringToUtf16 text)).size + 4 + 6) := by omega
  rw [e9] at X5
  simp only [List.append_assoc, List.cons_append, List.nil_append] at X5
  refine ⟨((withThrown W Zs text P1.m.cls kX).setVm vm').setCell (W.heap.size + 2) (plainBareV T.toThrowableT (freshCell P1.m.cls kX) (W.heap.size + 2) u0 sen (.ref (W.heap.size + 1))), W.heap.size + 2, _, fun target ht => st _ (by rw [X.tail, ← hU]; exact ht),
    X5.forget (fun y hy => ?_), heapAt_setCell_self _ ha, hfound, rfl⟩
  simp only [List.mem_cons, List.not_mem_nil, or_false] at hy
  have hge : s.heap.size ≤ W.heap.size := X.same.2.1
  rcases hy with rfl | rfl | rfl | rfl | rfl <;> exact Nat.le_trans hge (Nat.le_add_right _ 2)
set_option maxHeartbeats 1000000 in
/-- the machine throws NullPointerException, no traces kept: from its note over the frame g to 'throwing' over the same frame (follows the proof of Stand.vmThrowsNpe, Shelf42/KT2.lean; throwsNpeColdBareVAt, Shelf42/NT91.lean, called) -/
theorem vx_npeAt {p : Program} {l : Launch} {e : Env} {R : Room} {s : State} {m₀ : MethodId} {args : Array Value} {below : List Frame} {meth : Method} {c : Code} {W : State} {locs : List Loc} {cells slots : Nat}
    (X : Stand p l e R s m₀ args below meth c W locs cells slots) (hexec : p.tables.exec = Jvm.exec) (htr : e.platform.stackTraces = false) {n : Nat}
    (h : ∀ a ∈ Bundle.npeArmAtoms n, a.before args s = true)
    (hlocs : ∀ x ∈ locs, ∀ cell, s.heap[x.base]? = some cell → cell.vm.isStatics = false)
    {g : JFrame} (hg : g.method = m₀) (hsize : g.locals.size = c.maxLocals)
    (hRframes : 7 < R.frames) (hRlocals : 2 * g.monitorRoom + (g.stack.map fun v => v.category).sum + 10240 ≤ R.locals)
    (hRcells : cells + 1 ≤ R.cells) (hRslots : slots + n ≤ R.slots) (hlocks : meth.locks = false) :
    ∃ (S : State) (q : Addr) (ce : Cell), (∀ target, Steps p.tables e below ((S.setTop g).pushFrame (.throwing q)) target → Steps p.tables e below ((W.setTop g).pushFrame (.throwNew "java/lang/NullPointerException" none none)) target) ∧
      Stand p l e R s m₀ args below meth c S locs (cells + 1) (slots + n) ∧ S.heap[q]? = some ce ∧ s.vm.findClass "java/lang/NullPointerException" = some ce.cls ∧ ce.vm = .none := by
  have howns : e.platform.frameOwnsMonitors = true := by rw [X.admits.platform]
  have hfin : e.platform.finalization = false := by rw [X.admits.platform]
  have hpl : e.platform.magicAccessors = ({} : Platform).magicAccessors := by rw [X.admits.platform]
  have hpl2 : e.platform.arrayCloneIsPublic = true := by rw [X.admits.platform]
  have a' : ∀ x, x ∈ Bundle.npeArmAtoms n → x.holds args s none s [] = true := fun x hx => h x hx
  obtain ⟨T, Z, L, LZ, Y⟩ := ThrowableC.of_atoms (args := args) howns hfin hpl (fun x hx => h x (by simp [Bundle.npeArmAtoms, hx]))
  obtain ⟨N, LN, hcN, hnNF, hordN, hffS⟩ := NpeC.of_atoms (args := args) hpl hpl2 L Y (fun x hx => h x (by simp [Bundle.npeArmAtoms, hx]))
  obtain ⟨P1, L1, hP1m, hP1s⟩ := PassC.of_atoms (args := args) (s := s) hpl (X := Bundle.nN) (Y := Bundle.rN) (by decide) (by decide) LibCode.NullPointerException.Init0.at_0 LibCode.NullPointerException.Init0.at_1 LibCode.NullPointerException.Init0.at_4 (fun x hx => h x (by simp [Bundle.npeArmAtoms, hx]))
  obtain ⟨PR, LR, hPRm, hPRs⟩ := PassC.of_atoms (args := args) (s := s) hpl (X := Bundle.rN) (Y := Bundle.eN) (by decide) (by decide) LibCode.RuntimeException.Init0.at_0 LibCode.RuntimeException.Init0.at_1 LibCode.RuntimeException.Init0.at_4 (fun x hx => h x (by simp [Bundle.npeArmAtoms, hx]))
  obtain ⟨PE, LEx, hPEm, hPEs⟩ := PassC.of_atoms (args := args) (s := s) hpl (X := Bundle.eN) (Y := Bundle.tN) (by decide) (by decide) LibCode.Exception.Init0.at_0 LibCode.Exception.Init0.at_1 LibCode.Exception.Init0.at_4 (fun x hx => h x (by simp [Bundle.npeArmAtoms, hx]))
  have hfound : s.vm.findClass Bundle.nN = some P1.m.cls := findClass_of_methodNamed hP1m
  have ecls : N.cN = P1.m.cls := Option.some.inj (hcN.symm.trans hfound)
  have hk : s.vm.classes[P1.m.cls]? = some N.kN := by rw [← ecls]; exact LN.cls
  have hinit := Cond.initialized_spec hfound hk (a' (.initialized Bundle.nN) (by simp [Bundle.npeArmAtoms]))
  have hctor : N.kN.findMethod "<init>" "()V" = some P1.m.idx := findMethod_of_methodNamed hP1m hk
  obtain ⟨c1, k1, hc1, hk1, -, -, -, hn⟩ := Cond.instantiable_spec (a' (.instantiable Bundle.nN n) (by simp [Bundle.npeArmAtoms]))
  cases Option.some.inj (hc1.symm.trans hfound)
  cases Option.some.inj (hk1.symm.trans hk)
  have hfsz : (freshCell P1.m.cls N.kN).slots.size = n := by simp [hn]
  have hlink1 : P1.sup = PR.m := Option.some.inj (hP1s.symm.trans hPRm)
  have hlinkR : PR.sup = PE.m := Option.some.inj (hPRs.symm.trans hPEm)
  have hlinkE : PE.sup = Z.m T.toThrowableT := Option.some.inj (hPEs.symm.trans Y.init0)
  have hLs : ∀ P, P ∈ [PR, PE] → P.Links0 e.platform s := fun P hP => by
    simp only [List.mem_cons, List.not_mem_nil, or_false] at hP
    rcases hP with rfl | rfl
    · exact LR
    · exact LEx
  have hsel0 : selectMethod e.platform s.vm P1.m.cls T.fill0 = .method T.fill0 := by
    obtain ⟨c2, r2, m2, q1, q2, q3, q4, -⟩ := Cond.selects_spec (a' (.selects Bundle.nN Bundle.tFill0 Bundle.tFill0) (by simp [Bundle.npeArmAtoms]))
    cases Option.some.inj (q1.symm.trans hfound)
    cases Option.some.inj (q2.symm.trans (State.methodFound?_of_named Y.fill0 (by decide)))
    cases Option.some.inj (q3.symm.trans Y.fill0)
    rw [Launch.admits_selectMethod X.admits]; exact q4
  have hselF : selectMethod e.platform s.vm P1.m.cls T.fill = .method N.fill := by
    obtain ⟨c2, r2, m2, q1, q2, q3, q4, -⟩ := Cond.selects_spec (a' (.selects Bundle.nN Bundle.tFill Bundle.nFill) (by simp [Bundle.npeArmAtoms]))
    cases Option.some.inj (q1.symm.trans hfound)
    cases Option.some.inj (q2.symm.trans (State.methodFound?_of_named Y.fill (by decide)))
    cases Option.some.inj (q3.symm.trans hnNF)
    rw [Launch.admits_selectMethod X.admits]; exact q4
  obtain ⟨cellS0, hcS0, hiss⟩ := Y.statics
  obtain ⟨u0, hu0⟩ := Cond.staticRefV Y.unassigned L.unassignedStatic L.statics hcS0 hiss (a' (.isRef (.static Bundle.tN "UNASSIGNED_STACK" Bundle.steD)) (by simp [Bundle.npeArmAtoms]))
  obtain ⟨sen, hsen⟩ := Cond.staticRefV Y.sentinel L.sentinelStatic L.statics hcS0 hiss (a' (.isRef (.static Bundle.tN "SUPPRESSED_SENTINEL" Bundle.listD)) (by simp [Bundle.npeArmAtoms]))
  obtain ⟨ci198, i198, fB, hk198, hg198, ha198, hsB, -, hnB, htB, hffB⟩ := Cond.ownField (t := .object "java/lang/Object") Y.found L.cls (by decide +kernel) (a' (.fieldLink Bundle.tN 198 Bundle.tN "backtrace" Bundle.objD) (by simp [Bundle.npeArmAtoms])) (a' (.lays Bundle.tN Bundle.tN "backtrace" Bundle.objD) (by simp [Bundle.npeArmAtoms])) e.platform hpl
  obtain ⟨cellS, hcS', heS, -, hkeep⟩ := X.same.2.2.2.2.2 T.aS cellS0 hcS0
  have hcellS : W.heap[T.aS]? = some cellS := hcS'
  have hout' : ∀ i, (⟨T.aS, i⟩ : Loc) ∉ locs := fun i hmem => by
    have := hlocs _ hmem cellS0 hcS0
    rw [hiss] at this; cases this
  have hknownS : cellS.vm ≠ .unknown := by
    rw [heS]; intro hu
    rw [show cellS0.vm = .unknown from hu] at hiss
    cases hiss
  have hvU : cellS.slots[T.fUnassigned.slot]? = some u0.v := by rw [hkeep _ (hout' _)]; exact hu0
  have hvSen : cellS.slots[T.fSentinel.slot]? = some sen.v := by rw [hkeep _ (hout' _)]; exact hsen
  obtain ⟨tyC, dC, hdC, hdnC⟩ := Cond.laysAt hfound hk Y.cause (a' (.lays Bundle.nN Bundle.tN "cause" "Ljava/lang/Throwable;") (by simp [Bundle.npeArmAtoms]))
  obtain ⟨tyS, dS, hdS, hdnS⟩ := Cond.laysAt hfound hk Y.stack (a' (.lays Bundle.nN Bundle.tN "stackTrace" Bundle.steD) (by simp [Bundle.npeArmAtoms]))
  obtain ⟨tyP, dP, hdP, hdnP⟩ := Cond.laysAt hfound hk Y.supp (a' (.lays Bundle.nN Bundle.tN "suppressedExceptions" Bundle.listD) (by simp [Bundle.npeArmAtoms]))
  obtain ⟨tyX, dX, hdX, hdnX⟩ := Cond.laysAt hfound hk hffS (a' (.lays Bundle.nN Bundle.nN "extendedMessageState" "I") (by simp [Bundle.npeArmAtoms, Bundle.npeAtoms]))
  obtain ⟨hnX, htX⟩ := State.fieldFound?_type hffS (t := .int) (by decide +kernel)
  have xC := Cond.laysApart hdC hdX hdnC hdnX (by rw [hnX, Y.causeName]; decide)
  have xS := Cond.laysApart hdS hdX hdnS hdnX (by rw [hnX, Y.stackName]; decide)
  have xP := Cond.laysApart hdP hdX hdnP hdnX (by rw [hnX, Y.suppName]; decide)
  have hv0 : (freshCell P1.m.cls N.kN).slots[N.fState.slot]? = some (.int 0) := by
    have := fresh_default (c := P1.m.cls) tyX
    rw [htX] at this; exact this
  obtain ⟨tyB, dB, hdB, hdnB⟩ := Cond.laysAt hfound hk hffB (a' (.lays Bundle.nN Bundle.tN "backtrace" Bundle.objD) (by simp [Bundle.npeArmAtoms]))
  have bC := Cond.laysApart hdB hdC hdnB hdnC (by rw [hnB, Y.causeName]; decide)
  have bS := Cond.laysApart hdB hdS hdnB hdnS (by rw [hnB, Y.stackName]; decide)
  have bP := Cond.laysApart hdB hdP hdnB hdnP (by rw [hnB, Y.suppName]; decide)
  have bX := Cond.laysApart hdB hdX hdnB hdnX (by rw [hnB, hnX]; decide)
  have hbk : ((npeCell N.toNpeT (preparedCellV T.toThrowableT (freshCell P1.m.cls N.kN) W.heap.size u0 sen) W.cur).withEntry W.cur).slots[fB.slot]? = some .null := by
    have := fresh_default (c := P1.m.cls) tyB
    rw [htB] at this
    simpa [npeCell, preparedCellV, Cell.setSlot, Cell.withEntry, Array.getElem?_setIfInBounds, bC, bS, bP, bX, bC.symm, bS.symm, bP.symm, bX.symm, defaultValue] using this
  have tkC := Takes.of_laid (v := .ref W.heap.size) hk hordN tyC (by rw [Y.causeType]; rfl)
  have tkS := Takes.of_laid (v := u0.v) hk hordN tyS (by rw [Y.stackType]; exact fits_refV_array _ u0)
  have tkP := Takes.of_laid (v := sen.v) hk hordN tyP (by rw [Y.suppType]; exact fits_refV_object _ sen)
  have tkX := Takes.of_laid (v := .int 1) hk hordN tyX (by rw [htX]; rfl)
  have hskip : SkipFacts T e.platform s (fun u => u) u0 ((npeCell N.toNpeT (preparedCellV T.toThrowableT (freshCell P1.m.cls N.kN) W.heap.size u0 sen) W.cur).withEntry W.cur) := ⟨{ ci198 := ci198, i198 := i198, fBack := fB }, ⟨hk198, hg198, ha198, hsB⟩, hbk, fun _ _ => rfl⟩
  obtain ⟨vm', X3, st, -⟩ := X.throwsNpeColdBareVAt hexec hg hsize T L Z LZ N LN P1 L1 [PR, PE] hLs hlink1 ⟨hlinkR, hlinkE, trivial⟩ hfound hk hinit hordN hctor hsel0 hselF hcellS hknownS hvU hvSen
    hv0 xC xS xP tkC tkS tkP tkX Y.objLocals hskip (fun _ _ hA hW _ hroom _ hrest => L.nativeOff p htr hA hW hroom hrest) (by simpa using hRframes) hRlocals (by simp) hRcells (by rw [hn]; exact hRslots)
  have hlt : W.heap.size < ((W.pushCell (freshCell P1.m.cls N.kN)).setVm vm').heap.size := by
    show W.heap.size < (W.pushCell (freshCell P1.m.cls N.kN)).heap.size
    rw [State.heap_size_pushCell]; omega
  rw [hfsz] at X3
  obtain ⟨g₁, hfrM⟩ := X3.frames_eq
  have hU : ((((W.pushCell (freshCell P1.m.cls N.kN)).setVm vm').setCell W.heap.size (npeBareV T.toThrowableT N.toNpeT (freshCell P1.m.cls N.kN) W.heap.size u0 sen)).setTop g).pushFrame (.throwing W.heap.size) = (((W.pushCell (freshCell P1.m.cls N.kN)).setVm vm').setCell W.heap.size (npeBareV T.toThrowableT N.toNpeT (freshCell P1.m.cls N.kN) W.heap.size u0 sen)).setFrames (.throwing W.heap.size :: .java g :: below) := by
    rw [State.pushFrame, State.frames_setTop _ hfrM, State.setTop_of_frames _ hfrM, State.setFrames_setFrames]
  refine ⟨_, W.heap.size, _, fun target ht => st.trans (by rw [← hU]; exact ht), X3.forget (fun y hy => ?_), heapAt_setCell_self _ hlt, hfound, rfl⟩
  simp only [List.mem_cons, List.not_mem_nil, or_false] at hy
  have hge : s.heap.size ≤ W.heap.size := X.same.2.1
  rcases hy with rfl | rfl | rfl | rfl | rfl <;> exact hge
/-- the words of a machine's NullPointerException, but the four that speak of the heap -/
def vx_atN (n : Nat) : List Cond := (Bundle.npeArmAtoms n).filter vx_no
/-- the words of a machine's throw with a message, but the four that speak of the heap -/
def vx_atM (X : String) (names : List String) : List Cond := (Bundle.messageArmAtoms X names).filter vx_no
section
variable {p : Program} {l : Launch} {e : Env} {R : Room} {s : State} {m : MethodId} {args : Array Value} {below : List Frame} {meth : Method} {c : Code} {H : Heap} {locs : List Loc} {cells slots : Nat}
/-- a frame seen from a rebased start, seen from the first start again -/
theorem vx_back9 {T S : State} {R' : Room} {k n : Nat} (X : Stand p l e R s m args below meth c T locs cells slots) (Y : Stand p l e R' ((T.setVm s.vm).setFrames (.invoking m args :: below)) m args below meth c T [] 0 0) (Z : Stand p l e R' ((T.setVm s.vm).setFrames (.invoking m args :: below)) m args below meth c S [] k n) :
    Stand p l e R s m args below meth c S locs (cells + k) (slots + n) := by
  have hW0 : s.WarmedH ((T.setVm s.vm).setFrames (.invoking m args :: below)).vm := State.WarmedH.refl s
  refine { admits := X.admits, cas := X.cas, clock := X.clock, frames := X.frames, room := X.room, hears := X.hears, method := X.method, code := X.code, here := Z.here, tail := Z.tail, warmed := State.WarmedH.trans hW0 Z.warmed, limits := Z.limits.trans (Y.limits.symm.trans X.limits), bytes := Z.bytes.trans (Y.bytes.symm.trans X.bytes), same := ?_ }
  obtain ⟨e1, e2⟩ := Z.same
  rw [State.setFrames_setFrames] at e1
  have h2 : (T.setVm s.vm).sameButNew (S.setVm s.vm) [] k n := ⟨e1, e2⟩
  have h3 := X.same.trans h2
  rw [List.append_nil] at h3
  exact h3
/-- from the machine's note that E is thrown here with this text -/
def vx_Note (p : Program) (l : Launch) (e : Env) (R : Room) (s : State) (m : MethodId) (args : Array Value) (below : List Frame) (meth : Method) (c : Code) (H : Heap) (locs : List Loc) (cells slots : Nat) (Q : State → Prop) (g : JFrame) (E text : String) : Prop :=
  ∀ T : State, T.heap = H → Stand p l e R s m args below meth c T locs cells slots → ∃ t, Steps p.tables e below ((T.setTop g).pushFrame (.throwNew E (some text) none)) t ∧ Q t
theorem vx_vm {pc : Nat} {ls : Array Slot} {rest : List Value} {Q : State → Prop} (hexec : p.tables.exec = Jvm.exec) (hl : l.stackTraces = false) {cls text : String} {names : List String} {nb : Nat} {A : Nat → Prop}
    (hcls : Bundle.fit cls = true) (hnames : ∀ n ∈ names, Bundle.fit n = true) (hsoe : (cls == "java/lang/StackOverflowError") = false) (hoom : (cls == "java/lang/OutOfMemoryError") = false)
    (hat : ∀ w ∈ vx_atM cls names, w.before args s = true) (hgood : ∀ w ∈ vx_atM cls names, vx_ot w = true)
    (hU : vx_Zq Bundle.tN "UNASSIGNED_STACK" Bundle.steD A s s.heap) (hN : vx_Zq Bundle.tN "SUPPRESSED_SENTINEL" Bundle.listD A s s.heap) (hS : va_S A s.heap H locs) (hsize : ls.size = c.maxLocals)
    (htext : (text == notModelled) = false) (hnb : (stringBytes (stringToUtf16 text)).size ≤ nb) (hnb1 : nb ≤ 1000)
    (hRframes : names.length + 4 < R.frames) (hRlocals : (rest.map fun v => v.category).sum + 10240 ≤ R.locals) (hshort : 13 * names.length + 55 ≤ 10240) (hRcells : cells + 3 ≤ R.cells) (hRslots : slots + (nb + 10) ≤ R.slots) (hlocks : meth.locks = false)
    (k : ∀ (H1 : Heap) (q9 : Addr) (ce : Cell), H.size ≤ H1.size → (∀ q : Nat, q < H.size → H1[q]? = H[q]?) → va_S A s.heap H1 locs → H1[q9]? = some ce → ce.vm = .none → s.vm.findClass cls = some ce.cls → vx_W p l e R s m args below meth c H1 locs (cells + 3) (slots + (nb + 10)) Q (F0 m pc ls rest) q9) :
    vx_Note p l e R s m args below meth c H locs cells slots Q (F0 m pc ls rest) cls text := by
  intro T hT X
  have htr : e.platform.stackTraces = false := (show e.platform.stackTraces = l.stackTraces by rw [X.admits.platform]).trans hl
  have Y := vx_rebase X (R' := { frames := R.frames, locals := R.locals, cells := 3, slots := nb + 10 }) (Nat.le_refl _) (Nat.le_refl _) hRcells hRslots
  have hhp : ((T.setVm s.vm).setFrames (.invoking m args :: below)).heap = H := hT
  have hW0 : s.WarmedH ((T.setVm s.vm).setFrames (.invoking m args :: below)).vm := State.WarmedH.refl s
  have hat' : ∀ w ∈ vx_atM cls names, w.before args ((T.setVm s.vm).setFrames (.invoking m args :: below)) = true := fun w hw => vx_ot_at hW0 rfl (hgood w hw) (hat w hw)
  have hU' : vx_Zq Bundle.tN "UNASSIGNED_STACK" Bundle.steD A ((T.setVm s.vm).setFrames (.invoking m args :: below)) ((T.setVm s.vm).setFrames (.invoking m args :: below)).heap := by rw [hhp]; exact vx_Zq.moved hW0.alike (hU.kept hS.2.1)
  have hN' : vx_Zq Bundle.tN "SUPPRESSED_SENTINEL" Bundle.listD A ((T.setVm s.vm).setFrames (.invoking m args :: below)) ((T.setVm s.vm).setFrames (.invoking m args :: below)).heap := by rw [hhp]; exact vx_Zq.moved hW0.alike (hN.kept hS.2.1)
  obtain ⟨S, q, ce, st, Z, hce, hcl', hv⟩ := vx_vmAt Y hexec htr (cls := cls) (names := names) (text := text) hcls hnames hsoe hoom (vx_own hat' (vx_isRefq hU'.1) (vx_isRefq hN'.1) hU'.2.word hN'.2.word) (fun x hx => nomatch hx) htext
    (by rw [Launch.admits_arrayLengthLimit X.admits]; omega) (by rw [Launch.admits_maxHeapBytes X.admits]; simp only [componentBytes]; omega)
    (g := F0 m pc ls rest) rfl hsize hRframes (by show 2 * 0 + (rest.map fun v => v.category).sum + 10240 ≤ R.locals; omega) hshort (by show 0 + 3 ≤ 3; omega) (by show 0 + (_ + 4 + 6) ≤ nb + 10; omega) hlocks
  obtain ⟨f1, f2⟩ := vx_frame Z.same
  have f1' : H.size ≤ S.heap.size := by rw [← hT]; exact f1
  have f2' : ∀ q : Nat, q < H.size → S.heap[q]? = H[q]? := fun q hq => by
    rw [← hT]
    exact f2 q (by rw [← hT] at hq; exact hq) (fun z hz => nomatch hz)
  have X5 := vx_back9 X Y Z
  have X6 : Stand p l e R s m args below meth c S locs (cells + 3) (slots + (nb + 10)) := { X5 with same := X5.same.mono (by omega) (by omega) }
  obtain ⟨t, a1, b1⟩ := k S.heap q ce f1' f2' ⟨Nat.le_trans hS.1 f1', fun q h1 h2 => (f2' q (Nat.lt_of_lt_of_le h1 hS.1)).trans (hS.2.1 q h1 h2), hS.2.2⟩ hce hv hcl' S rfl X6
  exact ⟨t, st t a1, b1⟩
/-- from the machine's note that NullPointerException is thrown here -/
def vx_NoteN (p : Program) (l : Launch) (e : Env) (R : Room) (s : State) (m : MethodId) (args : Array Value) (below : List Frame) (meth : Method) (c : Code) (H : Heap) (locs : List Loc) (cells slots : Nat) (Q : State → Prop) (g : JFrame) : Prop :=
  ∀ T : State, T.heap = H → Stand p l e R s m args below meth c T locs cells slots → ∃ t, Steps p.tables e below ((T.setTop g).pushFrame (.throwNew "java/lang/NullPointerException" none none)) t ∧ Q t
theorem vx_npe {pc : Nat} {ls : Array Slot} {rest : List Value} {Q : State → Prop} (hexec : p.tables.exec = Jvm.exec) (hl : l.stackTraces = false) {nb : Nat} {A : Nat → Prop}
    (hat : ∀ w ∈ vx_atN nb, w.before args s = true) (hgood : ∀ w ∈ vx_atN nb, vx_ot w = true)
    (hU : vx_Zq Bundle.tN "UNASSIGNED_STACK" Bundle.steD A s s.heap) (hN : vx_Zq Bundle.tN "SUPPRESSED_SENTINEL" Bundle.listD A s s.heap) (hS : va_S A s.heap H locs) (hsize : ls.size = c.maxLocals)
    (hRframes : 7 < R.frames) (hRlocals : (rest.map fun v => v.category).sum + 10240 ≤ R.locals) (hRcells : cells + 1 ≤ R.cells) (hRslots : slots + nb ≤ R.slots) (hlocks : meth.locks = false)
    (k : ∀ (H1 : Heap) (q9 : Addr) (ce : Cell), H.size ≤ H1.size → (∀ q : Nat, q < H.size → H1[q]? = H[q]?) → va_S A s.heap H1 locs → H1[q9]? = some ce → ce.vm = .none → s.vm.findClass "java/lang/NullPointerException" = some ce.cls → vx_W p l e R s m args below meth c H1 locs (cells + 1) (slots + nb) Q (F0 m pc ls rest) q9) :
    vx_NoteN p l e R s m args below meth c H locs cells slots Q (F0 m pc ls rest) := by
  intro T hT X
  have htr : e.platform.stackTraces = false := (show e.platform.stackTraces = l.stackTraces by rw [X.admits.platform]).trans hl
  have Y := vx_rebase X (R' := { frames := R.frames, locals := R.locals, cells := 1, slots := nb }) (Nat.le_refl _) (Nat.le_refl _) hRcells hRslots
  have hhp : ((T.setVm s.vm).setFrames (.invoking m args :: below)).heap = H := hT
  have hW0 : s.WarmedH ((T.setVm s.vm).setFrames (.invoking m args :: below)).vm := State.WarmedH.refl s
  have hat' : ∀ w ∈ vx_atN nb, w.before args ((T.setVm s.vm).setFrames (.invoking m args :: below)) = true := fun w hw => vx_ot_at hW0 rfl (hgood w hw) (hat w hw)
  have hU' : vx_Zq Bundle.tN "UNASSIGNED_STACK" Bundle.steD A ((T.setVm s.vm).setFrames (.invoking m args :: below)) ((T.setVm s.vm).setFrames (.invoking m args :: below)).heap := by rw [hhp]; exact vx_Zq.moved hW0.alike (hU.kept hS.2.1)
  have hN' : vx_Zq Bundle.tN "SUPPRESSED_SENTINEL" Bundle.listD A ((T.setVm s.vm).setFrames (.invoking m args :: below)) ((T.setVm s.vm).setFrames (.invoking m args :: below)).heap := by rw [hhp]; exact vx_Zq.moved hW0.alike (hN.kept hS.2.1)
  obtain ⟨S, q, ce, st, Z, hce, hcl', hv⟩ := vx_npeAt Y hexec htr (n := nb) (vx_own hat' (vx_isRefq hU'.1) (vx_isRefq hN'.1) hU'.2.word hN'.2.word) (fun x hx => nomatch hx)
    (g := F0 m pc ls rest) rfl hsize hRframes (by show 2 * 0 + (rest.map fun v => v.category).sum + 10240 ≤ R.locals; omega) (by show 0 + 1 ≤ 1; omega) (by show 0 + nb ≤ nb; omega) hlocks
  obtain ⟨f1, f2⟩ := vx_frame Z.same
  have f1' : H.size ≤ S.heap.size := by rw [← hT]; exact f1
  have f2' : ∀ q : Nat, q < H.size → S.heap[q]? = H[q]? := fun q hq => by
    rw [← hT]
    exact f2 q (by rw [← hT] at hq; exact hq) (fun z hz => nomatch hz)
  have X5 := vx_back9 X Y Z
  have X6 : Stand p l e R s m args below meth c S locs (cells + 1) (slots + nb) := { X5 with same := X5.same.mono (by omega) (by omega) }
  obtain ⟨t, a1, b1⟩ := k S.heap q ce f1' f2' ⟨Nat.le_trans hS.1 f1', fun q h1 h2 => (f2' q (Nat.lt_of_lt_of_le h1 hS.1)).trans (hS.2.1 q h1 h2), hS.2.2⟩ hce hv hcl' S rfl X6
  exact ⟨t, st t a1, b1⟩
variable {Q : State → Prop} {cc : ByteArray} {pc : Nat} {ls : Array Slot} {rest : List Value}
theorem vx_idivZ (hexec : p.tables.exec = Jvm.exec) (hb : c.code = cc) {a b : Int32} (h0 : b = 0) (d : decode cc pc = .ok (.idiv, 1)) (k : vx_Note p l e R s m args below meth c H locs cells slots Q (F0 m pc ls rest) "java/lang/ArithmeticException" "/ by zero") :
    W p l e R s m args below meth c H locs cells slots Q (F0 m pc ls (.int b :: .int a :: rest)) := by
  intro T hT X
  obtain ⟨t, st, q⟩ := k T hT X
  exact ⟨t, X.idivZero hexec (g := F0 m pc ls (.int b :: .int a :: rest)) rfl (a := a) (rest := rest) (by rw [h0]) (by rw [hb]; exact d) t st, q⟩
theorem vx_iremZ (hexec : p.tables.exec = Jvm.exec) (hb : c.code = cc) {a b : Int32} (h0 : b = 0) (d : decode cc pc = .ok (.irem, 1)) (k : vx_Note p l e R s m args below meth c H locs cells slots Q (F0 m pc ls rest) "java/lang/ArithmeticException" "/ by zero") :
    W p l e R s m args below meth c H locs cells slots Q (F0 m pc ls (.int b :: .int a :: rest)) := by
  intro T hT X
  obtain ⟨t, st, q⟩ := k T hT X
  exact ⟨t, X.iremZero hexec (g := F0 m pc ls (.int b :: .int a :: rest)) rfl (a := a) (rest := rest) (by rw [h0]) (by rw [hb]; exact d) t st, q⟩
theorem vx_ldivZ (hexec : p.tables.exec = Jvm.exec) (hb : c.code = cc) {a b : Int64} (h0 : b = 0) (d : decode cc pc = .ok (.ldiv, 1)) (k : vx_Note p l e R s m args below meth c H locs cells slots Q (F0 m pc ls rest) "java/lang/ArithmeticException" "/ by zero") :
    W p l e R s m args below meth c H locs cells slots Q (F0 m pc ls (.long b :: .long a :: rest)) := by
  intro T hT X
  obtain ⟨t, st, q⟩ := k T hT X
  exact ⟨t, X.ldivZero hexec (g := F0 m pc ls (.long b :: .long a :: rest)) rfl (a := a) (rest := rest) (by rw [h0]) (by rw [hb]; exact d) t st, q⟩
theorem vx_lremZ (hexec : p.tables.exec = Jvm.exec) (hb : c.code = cc) {a b : Int64} (h0 : b = 0) (d : decode cc pc = .ok (.lrem, 1)) (k : vx_Note p l e R s m args below meth c H locs cells slots Q (F0 m pc ls rest) "java/lang/ArithmeticException" "/ by zero") :
    W p l e R s m args below meth c H locs cells slots Q (F0 m pc ls (.long b :: .long a :: rest)) := by
  intro T hT X
  obtain ⟨t, st, q⟩ := k T hT X
  exact ⟨t, X.lremZero hexec (g := F0 m pc ls (.long b :: .long a :: rest)) rfl (a := a) (rest := rest) (by rw [h0]) (by rw [hb]; exact d) t st, q⟩
theorem vx_ialdZ {D : va_G} {cl : List vw_C} {ws : va_W} {tys : List (ClassId × FieldType)} {a : Nat} (hexec : p.tables.exec = Jvm.exec) (hb : c.code = cc) (hK : va_K D cl tys s) (hP : va_P D cl ws H) (q0 t0 : Nat) {cA : ClassId} {n : Nat} {f : Nat → Int32} (ha : ws[q0]? = some (a, .inl (cA, n, .inl f))) (ht : tys[t0]? = some (cA, .int)) {i : Int32} (hout : ¬ vp_in i n) (hdg : decode cc pc = .ok (.iaload, 1))
    (k : ∀ tx : String, tx = (toString "Index " ++ toString i ++ toString " out of bounds for length " ++ toString n : String) → vx_Note p l e R s m args below meth c H locs cells slots Q (F0 m pc ls rest) "java/lang/ArrayIndexOutOfBoundsException" tx) : W p l e R s m args below meth c H locs cells slots Q (F0 m pc ls (.int i :: .ref a :: rest)) := by
  intro T hT X
  obtain ⟨t, st, q⟩ := k _ rfl T hT X
  refine ⟨t, ?_, q⟩
  have h1 := X.ialoadOut hexec (by rw [hT]; exact hP q0 _ ha) ((hK.2 t0 _ ht).1 n (fun j => .int (f j))) (j := i) (by show (i < 0 ∨ (arrV _ _ _).slots.size ≤ _); rw [arrV_size]; exact Classical.byContradiction hout) (g := F0 m pc ls (.int i :: .ref a :: rest)) rfl (rest := rest) rfl (by rw [hb]; exact hdg) t
  simp only [arrV_size] at h1
  exact h1 st
theorem vx_iastZ {D : va_G} {cl : List vw_C} {ws : va_W} {tys : List (ClassId × FieldType)} {a : Nat} (hexec : p.tables.exec = Jvm.exec) (hb : c.code = cc) (hK : va_K D cl tys s) (hP : va_P D cl ws H) (q0 t0 : Nat) {cA : ClassId} {n : Nat} {f : Nat → Int32} (ha : ws[q0]? = some (a, .inl (cA, n, .inl f))) (ht : tys[t0]? = some (cA, .int)) {i : Int32} {x : Int32} (hout : ¬ vp_in i n) (hdg : decode cc pc = .ok (.iastore, 1))
    (k : ∀ tx : String, tx = (toString "Index " ++ toString i ++ toString " out of bounds for length " ++ toString n : String) → vx_Note p l e R s m args below meth c H locs cells slots Q (F0 m pc ls rest) "java/lang/ArrayIndexOutOfBoundsException" tx) : W p l e R s m args below meth c H locs cells slots Q (F0 m pc ls (.int x :: .int i :: .ref a :: rest)) := by
  intro T hT X
  obtain ⟨t, st, q⟩ := k _ rfl T hT X
  refine ⟨t, ?_, q⟩
  have h1 := X.iastoreOut hexec (by rw [hT]; exact hP q0 _ ha) ((hK.2 t0 _ ht).1 n (fun j => .int (f j))) (j := i) (by show (i < 0 ∨ (arrV _ _ _).slots.size ≤ _); rw [arrV_size]; exact Classical.byContradiction hout) (g := F0 m pc ls (.int x :: .int i :: .ref a :: rest)) rfl (rest := rest) rfl (by rw [hb]; exact hdg) t
  simp only [arrV_size] at h1
  exact h1 st
theorem vx_baldZ {D : va_G} {cl : List vw_C} {ws : va_W} {tys : List (ClassId × FieldType)} {a : Nat} (hexec : p.tables.exec = Jvm.exec) (hb : c.code = cc) (hK : va_K D cl tys s) (hP : va_P D cl ws H) (q0 t0 : Nat) {cA : ClassId} {n : Nat} {f : Nat → Int32} (ha : ws[q0]? = some (a, .inl (cA, n, .inl f))) (ht : tys[t0]? = some (cA, .byte)) {i : Int32} (hout : ¬ vp_in i n) (hdg : decode cc pc = .ok (.baload, 1))
    (k : ∀ tx : String, tx = (toString "Index " ++ toString i ++ toString " out of bounds for length " ++ toString n : String) → vx_Note p l e R s m args below meth c H locs cells slots Q (F0 m pc ls rest) "java/lang/ArrayIndexOutOfBoundsException" tx) : W p l e R s m args below meth c H locs cells slots Q (F0 m pc ls (.int i :: .ref a :: rest)) := by
  intro T hT X
  obtain ⟨t, st, q⟩ := k _ rfl T hT X
  refine ⟨t, ?_, q⟩
  have h1 := X.baloadOut hexec (by rw [hT]; exact hP q0 _ ha) ((hK.2 t0 _ ht).1 n (fun j => .int (f j))) (j := i) (by show (i < 0 ∨ (arrV _ _ _).slots.size ≤ _); rw [arrV_size]; exact Classical.byContradiction hout) (g := F0 m pc ls (.int i :: .ref a :: rest)) rfl (rest := rest) rfl (by rw [hb]; exact hdg) t
  simp only [arrV_size] at h1
  exact h1 st
theorem vx_bastZ {D : va_G} {cl : List vw_C} {ws : va_W} {tys : List (ClassId × FieldType)} {a : Nat} (hexec : p.tables.exec = Jvm.exec) (hb : c.code = cc) (hK : va_K D cl tys s) (hP : va_P D cl ws H) (q0 t0 : Nat) {cA : ClassId} {n : Nat} {f : Nat → Int32} (ha : ws[q0]? = some (a, .inl (cA, n, .inl f))) (ht : tys[t0]? = some (cA, .byte)) {i : Int32} {x : Int32} (hout : ¬ vp_in i n) (hdg : decode cc pc = .ok (.bastore, 1))
    (k : ∀ tx : String, tx = (toString "Index " ++ toString i ++ toString " out of bounds for length " ++ toString n : String) → vx_Note p l e R s m args below meth c H locs cells slots Q (F0 m pc ls rest) "java/lang/ArrayIndexOutOfBoundsException" tx) : W p l e R s m args below meth c H locs cells slots Q (F0 m pc ls (.int x :: .int i :: .ref a :: rest)) := by
  intro T hT X
  obtain ⟨t, st, q⟩ := k _ rfl T hT X
  refine ⟨t, ?_, q⟩
  have h1 := X.bastoreOut hexec (by rw [hT]; exact hP q0 _ ha) ((hK.2 t0 _ ht).1 n (fun j => .int (f j))) (j := i) (by show (i < 0 ∨ (arrV _ _ _).slots.size ≤ _); rw [arrV_size]; exact Classical.byContradiction hout) (g := F0 m pc ls (.int x :: .int i :: .ref a :: rest)) rfl (rest := rest) rfl (by rw [hb]; exact hdg) t
  simp only [arrV_size] at h1
  exact h1 st
theorem vx_zaldZ {D : va_G} {cl : List vw_C} {ws : va_W} {tys : List (ClassId × FieldType)} {a : Nat} (hexec : p.tables.exec = Jvm.exec) (hb : c.code = cc) (hK : va_K D cl tys s) (hP : va_P D cl ws H) (q0 t0 : Nat) {cA : ClassId} {n : Nat} {f : Nat → Int32} (ha : ws[q0]? = some (a, .inl (cA, n, .inl f))) (ht : tys[t0]? = some (cA, .boolean)) {i : Int32} (hout : ¬ vp_in i n) (hdg : decode cc pc = .ok (.baload, 1))
    (k : ∀ tx : String, tx = (toString "Index " ++ toString i ++ toString " out of bounds for length " ++ toString n : String) → vx_Note p l e R s m args below meth c H locs cells slots Q (F0 m pc ls rest) "java/lang/ArrayIndexOutOfBoundsException" tx) : W p l e R s m args below meth c H locs cells slots Q (F0 m pc ls (.int i :: .ref a :: rest)) := by
  intro T hT X
  obtain ⟨t, st, q⟩ := k _ rfl T hT X
  refine ⟨t, ?_, q⟩
  have h1 := X.baloadOut hexec (by rw [hT]; exact hP q0 _ ha) ((hK.2 t0 _ ht).1 n (fun j => .int (f j))) (j := i) (by show (i < 0 ∨ (arrV _ _ _).slots.size ≤ _); rw [arrV_size]; exact Classical.byContradiction hout) (g := F0 m pc ls (.int i :: .ref a :: rest)) rfl (rest := rest) rfl (by rw [hb]; exact hdg) t
  simp only [arrV_size] at h1
  exact h1 st
theorem vx_zastZ {D : va_G} {cl : List vw_C} {ws : va_W} {tys : List (ClassId × FieldType)} {a : Nat} (hexec : p.tables.exec = Jvm.exec) (hb : c.code = cc) (hK : va_K D cl tys s) (hP : va_P D cl ws H) (q0 t0 : Nat) {cA : ClassId} {n : Nat} {f : Nat → Int32} (ha : ws[q0]? = some (a, .inl (cA, n, .inl f))) (ht : tys[t0]? = some (cA, .boolean)) {i : Int32} {x : Int32} (hout : ¬ vp_in i n) (hdg : decode cc pc = .ok (.bastore, 1))
    (k : ∀ tx : String, tx = (toString "Index " ++ toString i ++ toString " out of bounds for length " ++ toString n : String) → vx_Note p l e R s m args below meth c H locs cells slots Q (F0 m pc ls rest) "java/lang/ArrayIndexOutOfBoundsException" tx) : W p l e R s m args below meth c H locs cells slots Q (F0 m pc ls (.int x :: .int i :: .ref a :: rest)) := by
  intro T hT X
  obtain ⟨t, st, q⟩ := k _ rfl T hT X
  refine ⟨t, ?_, q⟩
  have h1 := X.bastoreOut hexec (by rw [hT]; exact hP q0 _ ha) ((hK.2 t0 _ ht).1 n (fun j => .int (f j))) (j := i) (by show (i < 0 ∨ (arrV _ _ _).slots.size ≤ _); rw [arrV_size]; exact Classical.byContradiction hout) (g := F0 m pc ls (.int x :: .int i :: .ref a :: rest)) rfl (rest := rest) rfl (by rw [hb]; exact hdg) t
  simp only [arrV_size] at h1
  exact h1 st
theorem vx_caldZ {D : va_G} {cl : List vw_C} {ws : va_W} {tys : List (ClassId × FieldType)} {a : Nat} (hexec : p.tables.exec = Jvm.exec) (hb : c.code = cc) (hK : va_K D cl tys s) (hP : va_P D cl ws H) (q0 t0 : Nat) {cA : ClassId} {n : Nat} {f : Nat → Int32} (ha : ws[q0]? = some (a, .inl (cA, n, .inl f))) (ht : tys[t0]? = some (cA, .char)) {i : Int32} (hout : ¬ vp_in i n) (hdg : decode cc pc = .ok (.caload, 1))
    (k : ∀ tx : String, tx = (toString "Index " ++ toString i ++ toString " out of bounds for length " ++ toString n : String) → vx_Note p l e R s m args below meth c H locs cells slots Q (F0 m pc ls rest) "java/lang/ArrayIndexOutOfBoundsException" tx) : W p l e R s m args below meth c H locs cells slots Q (F0 m pc ls (.int i :: .ref a :: rest)) := by
  intro T hT X
  obtain ⟨t, st, q⟩ := k _ rfl T hT X
  refine ⟨t, ?_, q⟩
  have h1 := X.caloadOut hexec (by rw [hT]; exact hP q0 _ ha) ((hK.2 t0 _ ht).1 n (fun j => .int (f j))) (j := i) (by show (i < 0 ∨ (arrV _ _ _).slots.size ≤ _); rw [arrV_size]; exact Classical.byContradiction hout) (g := F0 m pc ls (.int i :: .ref a :: rest)) rfl (rest := rest) rfl (by rw [hb]; exact hdg) t
  simp only [arrV_size] at h1
  exact h1 st
theorem vx_castZ {D : va_G} {cl : List vw_C} {ws : va_W} {tys : List (ClassId × FieldType)} {a : Nat} (hexec : p.tables.exec = Jvm.exec) (hb : c.code = cc) (hK : va_K D cl tys s) (hP : va_P D cl ws H) (q0 t0 : Nat) {cA : ClassId} {n : Nat} {f : Nat → Int32} (ha : ws[q0]? = some (a, .inl (cA, n, .inl f))) (ht : tys[t0]? = some (cA, .char)) {i : Int32} {x : Int32} (hout : ¬ vp_in i n) (hdg : decode cc pc = .ok (.castore, 1))
    (k : ∀ tx : String, tx = (toString "Index " ++ toString i ++ toString " out of bounds for length " ++ toString n : String) → vx_Note p l e R s m args below meth c H locs cells slots Q (F0 m pc ls rest) "java/lang/ArrayIndexOutOfBoundsException" tx) : W p l e R s m args below meth c H locs cells slots Q (F0 m pc ls (.int x :: .int i :: .ref a :: rest)) := by
  intro T hT X
  obtain ⟨t, st, q⟩ := k _ rfl T hT X
  refine ⟨t, ?_, q⟩
  have h1 := X.castoreOut hexec (by rw [hT]; exact hP q0 _ ha) ((hK.2 t0 _ ht).1 n (fun j => .int (f j))) (j := i) (by show (i < 0 ∨ (arrV _ _ _).slots.size ≤ _); rw [arrV_size]; exact Classical.byContradiction hout) (g := F0 m pc ls (.int x :: .int i :: .ref a :: rest)) rfl (rest := rest) rfl (by rw [hb]; exact hdg) t
  simp only [arrV_size] at h1
  exact h1 st
theorem vx_saldZ {D : va_G} {cl : List vw_C} {ws : va_W} {tys : List (ClassId × FieldType)} {a : Nat} (hexec : p.tables.exec = Jvm.exec) (hb : c.code = cc) (hK : va_K D cl tys s) (hP : va_P D cl ws H) (q0 t0 : Nat) {cA : ClassId} {n : Nat} {f : Nat → Int32} (ha : ws[q0]? = some (a, .inl (cA, n, .inl f))) (ht : tys[t0]? = some (cA, .short)) {i : Int32} (hout : ¬ vp_in i n) (hdg : decode cc pc = .ok (.saload, 1))
    (k : ∀ tx : String, tx = (toString "Index " ++ toString i ++ toString " out of bounds for length " ++ toString n : String) → vx_Note p l e R s m args below meth c H locs cells slots Q (F0 m pc ls rest) "java/lang/ArrayIndexOutOfBoundsException" tx) : W p l e R s m args below meth c H locs cells slots Q (F0 m pc ls (.int i :: .ref a :: rest)) := by
  intro T hT X
  obtain ⟨t, st, q⟩ := k _ rfl T hT X
  refine ⟨t, ?_, q⟩
  have h1 := X.saloadOut hexec (by rw [hT]; exact hP q0 _ ha) ((hK.2 t0 _ ht).1 n (fun j => .int (f j))) (j := i) (by show (i < 0 ∨ (arrV _ _ _).slots.size ≤ _); rw [arrV_size]; exact Classical.byContradiction hout) (g := F0 m pc ls (.int i :: .ref a :: rest)) rfl (rest := rest) rfl (by rw [hb]; exact hdg) t
  simp only [arrV_size] at h1
  exact h1 st
theorem vx_sastZ {D : va_G} {cl : List vw_C} {ws : va_W} {tys : List (ClassId × FieldType)} {a : Nat} (hexec : p.tables.exec = Jvm.exec) (hb : c.code = cc) (hK : va_K D cl tys s) (hP : va_P D cl ws H) (q0 t0 : Nat) {cA : ClassId} {n : Nat} {f : Nat → Int32} (ha : ws[q0]? = some (a, .inl (cA, n, .inl f))) (ht : tys[t0]? = some (cA, .short)) {i : Int32} {x : Int32} (hout : ¬ vp_in i n) (hdg : decode cc pc = .ok (.sastore, 1))
    (k : ∀ tx : String, tx = (toString "Index " ++ toString i ++ toString " out of bounds for length " ++ toString n : String) → vx_Note p l e R s m args below meth c H locs cells slots Q (F0 m pc ls rest) "java/lang/ArrayIndexOutOfBoundsException" tx) : W p l e R s m args below meth c H locs cells slots Q (F0 m pc ls (.int x :: .int i :: .ref a :: rest)) := by
  intro T hT X
  obtain ⟨t, st, q⟩ := k _ rfl T hT X
  refine ⟨t, ?_, q⟩
  have h1 := X.sastoreOut hexec (by rw [hT]; exact hP q0 _ ha) ((hK.2 t0 _ ht).1 n (fun j => .int (f j))) (j := i) (by show (i < 0 ∨ (arrV _ _ _).slots.size ≤ _); rw [arrV_size]; exact Classical.byContradiction hout) (g := F0 m pc ls (.int x :: .int i :: .ref a :: rest)) rfl (rest := rest) rfl (by rw [hb]; exact hdg) t
  simp only [arrV_size] at h1
  exact h1 st
theorem vx_laldZ {D : va_G} {cl : List vw_C} {ws : va_W} {tys : List (ClassId × FieldType)} {a : Nat} (hexec : p.tables.exec = Jvm.exec) (hb : c.code = cc) (hK : va_K D cl tys s) (hP : va_P D cl ws H) (q0 t0 : Nat) {cA : ClassId} {n : Nat} {f : Nat → Int64} (ha : ws[q0]? = some (a, .inl (cA, n, .inr (.inl f)))) (ht : tys[t0]? = some (cA, .long)) {i : Int32} (hout : ¬ vp_in i n) (hdg : decode cc pc = .ok (.laload, 1))
    (k : ∀ tx : String, tx = (toString "Index " ++ toString i ++ toString " out of bounds for length " ++ toString n : String) → vx_Note p l e R s m args below meth c H locs cells slots Q (F0 m pc ls rest) "java/lang/ArrayIndexOutOfBoundsException" tx) : W p l e R s m args below meth c H locs cells slots Q (F0 m pc ls (.int i :: .ref a :: rest)) := by
  intro T hT X
  obtain ⟨t, st, q⟩ := k _ rfl T hT X
  refine ⟨t, ?_, q⟩
  have h1 := X.laloadOut hexec (by rw [hT]; exact hP q0 _ ha) ((hK.2 t0 _ ht).1 n (fun j => .long (f j))) (j := i) (by show (i < 0 ∨ (arrV _ _ _).slots.size ≤ _); rw [arrV_size]; exact Classical.byContradiction hout) (g := F0 m pc ls (.int i :: .ref a :: rest)) rfl (rest := rest) rfl (by rw [hb]; exact hdg) t
  simp only [arrV_size] at h1
  exact h1 st
theorem vx_lastZ {D : va_G} {cl : List vw_C} {ws : va_W} {tys : List (ClassId × FieldType)} {a : Nat} (hexec : p.tables.exec = Jvm.exec) (hb : c.code = cc) (hK : va_K D cl tys s) (hP : va_P D cl ws H) (q0 t0 : Nat) {cA : ClassId} {n : Nat} {f : Nat → Int64} (ha : ws[q0]? = some (a, .inl (cA, n, .inr (.inl f)))) (ht : tys[t0]? = some (cA, .long)) {i : Int32} {x : Int64} (hout : ¬ vp_in i n) (hdg : decode cc pc = .ok (.lastore, 1))
    (k : ∀ tx : String, tx = (toString "Index " ++ toString i ++ toString " out of bounds for length " ++ toString n : String) → vx_Note p l e R s m args below meth c H locs cells slots Q (F0 m pc ls rest) "java/lang/ArrayIndexOutOfBoundsException" tx) : W p l e R s m args below meth c H locs cells slots Q (F0 m pc ls (.long x :: .int i :: .ref a :: rest)) := by
  intro T hT X
  obtain ⟨t, st, q⟩ := k _ rfl T hT X
  refine ⟨t, ?_, q⟩
  have h1 := X.lastoreOut hexec (by rw [hT]; exact hP q0 _ ha) ((hK.2 t0 _ ht).1 n (fun j => .long (f j))) (j := i) (by show (i < 0 ∨ (arrV _ _ _).slots.size ≤ _); rw [arrV_size]; exact Classical.byContradiction hout) (g := F0 m pc ls (.long x :: .int i :: .ref a :: rest)) rfl (rest := rest) rfl (by rw [hb]; exact hdg) t
  simp only [arrV_size] at h1
  exact h1 st
theorem vx_faldZ {D : va_G} {cl : List vw_C} {ws : va_W} {tys : List (ClassId × FieldType)} {a : Nat} (hexec : p.tables.exec = Jvm.exec) (hb : c.code = cc) (hK : va_K D cl tys s) (hP : va_P D cl ws H) (q0 t0 : Nat) {cA : ClassId} {n : Nat} {f : Nat → UInt32} (ha : ws[q0]? = some (a, .inl (cA, n, .inr (.inr (.inl f))))) (ht : tys[t0]? = some (cA, .float)) {i : Int32} (hout : ¬ vp_in i n) (hdg : decode cc pc = .ok (.faload, 1))
    (k : ∀ tx : String, tx = (toString "Index " ++ toString i ++ toString " out of bounds for length " ++ toString n : String) → vx_Note p l e R s m args below meth c H locs cells slots Q (F0 m pc ls rest) "java/lang/ArrayIndexOutOfBoundsException" tx) : W p l e R s m args below meth c H locs cells slots Q (F0 m pc ls (.int i :: .ref a :: rest)) := by
  intro T hT X
  obtain ⟨t, st, q⟩ := k _ rfl T hT X
  refine ⟨t, ?_, q⟩
  have h1 := X.faloadOut hexec (by rw [hT]; exact hP q0 _ ha) ((hK.2 t0 _ ht).1 n (fun j => .float (f j))) (j := i) (by show (i < 0 ∨ (arrV _ _ _).slots.size ≤ _); rw [arrV_size]; exact Classical.byContradiction hout) (g := F0 m pc ls (.int i :: .ref a :: rest)) rfl (rest := rest) rfl (by rw [hb]; exact hdg) t
  simp only [arrV_size] at h1
  exact h1 st
theorem vx_fastZ {D : va_G} {cl : List vw_C} {ws : va_W} {tys : List (ClassId × FieldType)} {a : Nat} (hexec : p.tables.exec = Jvm.exec) (hb : c.code = cc) (hK : va_K D cl tys s) (hP : va_P D cl ws H) (q0 t0 : Nat) {cA : ClassId} {n : Nat} {f : Nat → UInt32} (ha : ws[q0]? = some (a, .inl (cA, n, .inr (.inr (.inl f))))) (ht : tys[t0]? = some (cA, .float)) {i : Int32} {x : UInt32} (hout : ¬ vp_in i n) (hdg : decode cc pc = .ok (.fastore, 1))
    (k : ∀ tx : String, tx = (toString "Index " ++ toString i ++ toString " out of bounds for length " ++ toString n : String) → vx_Note p l e R s m args below meth c H locs cells slots Q (F0 m pc ls rest) "java/lang/ArrayIndexOutOfBoundsException" tx) : W p l e R s m args below meth c H locs cells slots Q (F0 m pc ls (.float x :: .int i :: .ref a :: rest)) := by
  intro T hT X
  obtain ⟨t, st, q⟩ := k _ rfl T hT X
  refine ⟨t, ?_, q⟩
  have h1 := X.fastoreOut hexec (by rw [hT]; exact hP q0 _ ha) ((hK.2 t0 _ ht).1 n (fun j => .float (f j))) (j := i) (by show (i < 0 ∨ (arrV _ _ _).slots.size ≤ _); rw [arrV_size]; exact Classical.byContradiction hout) (g := F0 m pc ls (.float x :: .int i :: .ref a :: rest)) rfl (rest := rest) rfl (by rw [hb]; exact hdg) t
  simp only [arrV_size] at h1
  exact h1 st
theorem vx_daldZ {D : va_G} {cl : List vw_C} {ws : va_W} {tys : List (ClassId × FieldType)} {a : Nat} (hexec : p.tables.exec = Jvm.exec) (hb : c.code = cc) (hK : va_K D cl tys s) (hP : va_P D cl ws H) (q0 t0 : Nat) {cA : ClassId} {n : Nat} {f : Nat → UInt64} (ha : ws[q0]? = some (a, .inl (cA, n, .inr (.inr (.inr (.inl f)))))) (ht : tys[t0]? = some (cA, .double)) {i : Int32} (hout : ¬ vp_in i n) (hdg : decode cc pc = .ok (.daload, 1))
    (k : ∀ tx : String, tx = (toString "Index " ++ toString i ++ toString " out of bounds for length " ++ toString n : String) → vx_Note p l e R s m args below meth c H locs cells slots Q (F0 m pc ls rest) "java/lang/ArrayIndexOutOfBoundsException" tx) : W p l e R s m args below meth c H locs cells slots Q (F0 m pc ls (.int i :: .ref a :: rest)) := by
  intro T hT X
  obtain ⟨t, st, q⟩ := k _ rfl T hT X
  refine ⟨t, ?_, q⟩
  have h1 := X.daloadOut hexec (by rw [hT]; exact hP q0 _ ha) ((hK.2 t0 _ ht).1 n (fun j => .double (f j))) (j := i) (by show (i < 0 ∨ (arrV _ _ _).slots.size ≤ _); rw [arrV_size]; exact Classical.byContradiction hout) (g := F0 m pc ls (.int i :: .ref a :: rest)) rfl (rest := rest) rfl (by rw [hb]; exact hdg) t
  simp only [arrV_size] at h1
  exact h1 st
theorem vx_dastZ {D : va_G} {cl : List vw_C} {ws : va_W} {tys : List (ClassId × FieldType)} {a : Nat} (hexec : p.tables.exec = Jvm.exec) (hb : c.code = cc) (hK : va_K D cl tys s) (hP : va_P D cl ws H) (q0 t0 : Nat) {cA : ClassId} {n : Nat} {f : Nat → UInt64} (ha : ws[q0]? = some (a, .inl (cA, n, .inr (.inr (.inr (.inl f)))))) (ht : tys[t0]? = some (cA, .double)) {i : Int32} {x : UInt64} (hout : ¬ vp_in i n) (hdg : decode cc pc = .ok (.dastore, 1))
    (k : ∀ tx : String, tx = (toString "Index " ++ toString i ++ toString " out of bounds for length " ++ toString n : String) → vx_Note p l e R s m args below meth c H locs cells slots Q (F0 m pc ls rest) "java/lang/ArrayIndexOutOfBoundsException" tx) : W p l e R s m args below meth c H locs cells slots Q (F0 m pc ls (.double x :: .int i :: .ref a :: rest)) := by
  intro T hT X
  obtain ⟨t, st, q⟩ := k _ rfl T hT X
  refine ⟨t, ?_, q⟩
  have h1 := X.dastoreOut hexec (by rw [hT]; exact hP q0 _ ha) ((hK.2 t0 _ ht).1 n (fun j => .double (f j))) (j := i) (by show (i < 0 ∨ (arrV _ _ _).slots.size ≤ _); rw [arrV_size]; exact Classical.byContradiction hout) (g := F0 m pc ls (.double x :: .int i :: .ref a :: rest)) rfl (rest := rest) rfl (by rw [hb]; exact hdg) t
  simp only [arrV_size] at h1
  exact h1 st
theorem vx_arraylengthN (hexec : p.tables.exec = Jvm.exec) (hb : c.code = cc) (hdg : decode cc pc = .ok (.arraylength, 1)) (k : vx_NoteN p l e R s m args below meth c H locs cells slots Q (F0 m pc ls rest)) : W p l e R s m args below meth c H locs cells slots Q (F0 m pc ls (.null :: rest)) := by
  intro T hT X
  obtain ⟨t, st, q⟩ := k T hT X
  exact ⟨t, X.arraylengthNull hexec (g := F0 m pc ls (.null :: rest)) rfl (rest := rest) rfl (by rw [hb]; exact hdg) t st, q⟩
theorem vx_ialoadN (hexec : p.tables.exec = Jvm.exec) (hb : c.code = cc) {i : Int32} (hdg : decode cc pc = .ok (.iaload, 1)) (k : vx_NoteN p l e R s m args below meth c H locs cells slots Q (F0 m pc ls rest)) : W p l e R s m args below meth c H locs cells slots Q (F0 m pc ls (.int i :: .null :: rest)) := by
  intro T hT X
  obtain ⟨t, st, q⟩ := k T hT X
  exact ⟨t, X.ialoadNull hexec (g := F0 m pc ls (.int i :: .null :: rest)) rfl (rest := rest) rfl (by rw [hb]; exact hdg) t st, q⟩
theorem vx_laloadN (hexec : p.tables.exec = Jvm.exec) (hb : c.code = cc) {i : Int32} (hdg : decode cc pc = .ok (.laload, 1)) (k : vx_NoteN p l e R s m args below meth c H locs cells slots Q (F0 m pc ls rest)) : W p l e R s m args below meth c H locs cells slots Q (F0 m pc ls (.int i :: .null :: rest)) := by
  intro T hT X
  obtain ⟨t, st, q⟩ := k T hT X
  exact ⟨t, X.laloadNull hexec (g := F0 m pc ls (.int i :: .null :: rest)) rfl (rest := rest) rfl (by rw [hb]; exact hdg) t st, q⟩
theorem vx_faloadN (hexec : p.tables.exec = Jvm.exec) (hb : c.code = cc) {i : Int32} (hdg : decode cc pc = .ok (.faload, 1)) (k : vx_NoteN p l e R s m args below meth c H locs cells slots Q (F0 m pc ls rest)) : W p l e R s m args below meth c H locs cells slots Q (F0 m pc ls (.int i :: .null :: rest)) := by
  intro T hT X
  obtain ⟨t, st, q⟩ := k T hT X
  exact ⟨t, X.faloadNull hexec (g := F0 m pc ls (.int i :: .null :: rest)) rfl (rest := rest) rfl (by rw [hb]; exact hdg) t st, q⟩
theorem vx_daloadN (hexec : p.tables.exec = Jvm.exec) (hb : c.code = cc) {i : Int32} (hdg : decode cc pc = .ok (.daload, 1)) (k : vx_NoteN p l e R s m args below meth c H locs cells slots Q (F0 m pc ls rest)) : W p l e R s m args below meth c H locs cells slots Q (F0 m pc ls (.int i :: .null :: rest)) := by
  intro T hT X
  obtain ⟨t, st, q⟩ := k T hT X
  exact ⟨t, X.daloadNull hexec (g := F0 m pc ls (.int i :: .null :: rest)) rfl (rest := rest) rfl (by rw [hb]; exact hdg) t st, q⟩
theorem vx_aaloadN (hexec : p.tables.exec = Jvm.exec) (hb : c.code = cc) {i : Int32} (hdg : decode cc pc = .ok (.aaload, 1)) (k : vx_NoteN p l e R s m args below meth c H locs cells slots Q (F0 m pc ls rest)) : W p l e R s m args below meth c H locs cells slots Q (F0 m pc ls (.int i :: .null :: rest)) := by
  intro T hT X
  obtain ⟨t, st, q⟩ := k T hT X
  exact ⟨t, X.aaloadNull hexec (g := F0 m pc ls (.int i :: .null :: rest)) rfl (rest := rest) rfl (by rw [hb]; exact hdg) t st, q⟩
theorem vx_baloadN (hexec : p.tables.exec = Jvm.exec) (hb : c.code = cc) {i : Int32} (hdg : decode cc pc = .ok (.baload, 1)) (k : vx_NoteN p l e R s m args below meth c H locs cells slots Q (F0 m pc ls rest)) : W p l e R s m args below meth c H locs cells slots Q (F0 m pc ls (.int i :: .null :: rest)) := by
  intro T hT X
  obtain ⟨t, st, q⟩ := k T hT X
  exact ⟨t, X.baloadNull hexec (g := F0 m pc ls (.int i :: .null :: rest)) rfl (rest := rest) rfl (by rw [hb]; exact hdg) t st, q⟩
theorem vx_caloadN (hexec : p.tables.exec = Jvm.exec) (hb : c.code = cc) {i : Int32} (hdg : decode cc pc = .ok (.caload, 1)) (k : vx_NoteN p l e R s m args below meth c H locs cells slots Q (F0 m pc ls rest)) : W p l e R s m args below meth c H locs cells slots Q (F0 m pc ls (.int i :: .null :: rest)) := by
  intro T hT X
  obtain ⟨t, st, q⟩ := k T hT X
  exact ⟨t, X.caloadNull hexec (g := F0 m pc ls (.int i :: .null :: rest)) rfl (rest := rest) rfl (by rw [hb]; exact hdg) t st, q⟩
theorem vx_saloadN (hexec : p.tables.exec = Jvm.exec) (hb : c.code = cc) {i : Int32} (hdg : decode cc pc = .ok (.saload, 1)) (k : vx_NoteN p l e R s m args below meth c H locs cells slots Q (F0 m pc ls rest)) : W p l e R s m args below meth c H locs cells slots Q (F0 m pc ls (.int i :: .null :: rest)) := by
  intro T hT X
  obtain ⟨t, st, q⟩ := k T hT X
  exact ⟨t, X.saloadNull hexec (g := F0 m pc ls (.int i :: .null :: rest)) rfl (rest := rest) rfl (by rw [hb]; exact hdg) t st, q⟩
theorem vx_iastoreN (hexec : p.tables.exec = Jvm.exec) (hb : c.code = cc) {x : Int32} {i : Int32} (hdg : decode cc pc = .ok (.iastore, 1)) (k : vx_NoteN p l e R s m args below meth c H locs cells slots Q (F0 m pc ls rest)) : W p l e R s m args below meth c H locs cells slots Q (F0 m pc ls (.int x :: .int i :: .null :: rest)) := by
  intro T hT X
  obtain ⟨t, st, q⟩ := k T hT X
  exact ⟨t, X.iastoreNull hexec (g := F0 m pc ls (.int x :: .int i :: .null :: rest)) rfl (rest := rest) rfl (by rw [hb]; exact hdg) t st, q⟩
theorem vx_lastoreN (hexec : p.tables.exec = Jvm.exec) (hb : c.code = cc) {x : Int64} {i : Int32} (hdg : decode cc pc = .ok (.lastore, 1)) (k : vx_NoteN p l e R s m args below meth c H locs cells slots Q (F0 m pc ls rest)) : W p l e R s m args below meth c H locs cells slots Q (F0 m pc ls (.long x :: .int i :: .null :: rest)) := by
  intro T hT X
  obtain ⟨t, st, q⟩ := k T hT X
  exact ⟨t, X.lastoreNull hexec (g := F0 m pc ls (.long x :: .int i :: .null :: rest)) rfl (rest := rest) rfl (by rw [hb]; exact hdg) t st, q⟩
theorem vx_fastoreN (hexec : p.tables.exec = Jvm.exec) (hb : c.code = cc) {x : UInt32} {i : Int32} (hdg : decode cc pc = .ok (.fastore, 1)) (k : vx_NoteN p l e R s m args below meth c H locs cells slots Q (F0 m pc ls rest)) : W p l e R s m args below meth c H locs cells slots Q (F0 m pc ls (.float x :: .int i :: .null :: rest)) := by
  intro T hT X
  obtain ⟨t, st, q⟩ := k T hT X
  exact ⟨t, X.fastoreNull hexec (g := F0 m pc ls (.float x :: .int i :: .null :: rest)) rfl (rest := rest) rfl (by rw [hb]; exact hdg) t st, q⟩
theorem vx_dastoreN (hexec : p.tables.exec = Jvm.exec) (hb : c.code = cc) {x : UInt64} {i : Int32} (hdg : decode cc pc = .ok (.dastore, 1)) (k : vx_NoteN p l e R s m args below meth c H locs cells slots Q (F0 m pc ls rest)) : W p l e R s m args below meth c H locs cells slots Q (F0 m pc ls (.double x :: .int i :: .null :: rest)) := by
  intro T hT X
  obtain ⟨t, st, q⟩ := k T hT X
  exact ⟨t, X.dastoreNull hexec (g := F0 m pc ls (.double x :: .int i :: .null :: rest)) rfl (rest := rest) rfl (by rw [hb]; exact hdg) t st, q⟩
theorem vx_bastoreN (hexec : p.tables.exec = Jvm.exec) (hb : c.code = cc) {x : Int32} {i : Int32} (hdg : decode cc pc = .ok (.bastore, 1)) (k : vx_NoteN p l e R s m args below meth c H locs cells slots Q (F0 m pc ls rest)) : W p l e R s m args below meth c H locs cells slots Q (F0 m pc ls (.int x :: .int i :: .null :: rest)) := by
  intro T hT X
  obtain ⟨t, st, q⟩ := k T hT X
  exact ⟨t, X.bastoreNull hexec (g := F0 m pc ls (.int x :: .int i :: .null :: rest)) rfl (rest := rest) rfl (by rw [hb]; exact hdg) t st, q⟩
theorem vx_castoreN (hexec : p.tables.exec = Jvm.exec) (hb : c.code = cc) {x : Int32} {i : Int32} (hdg : decode cc pc = .ok (.castore, 1)) (k : vx_NoteN p l e R s m args below meth c H locs cells slots Q (F0 m pc ls rest)) : W p l e R s m args below meth c H locs cells slots Q (F0 m pc ls (.int x :: .int i :: .null :: rest)) := by
  intro T hT X
  obtain ⟨t, st, q⟩ := k T hT X
  exact ⟨t, X.castoreNull hexec (g := F0 m pc ls (.int x :: .int i :: .null :: rest)) rfl (rest := rest) rfl (by rw [hb]; exact hdg) t st, q⟩
theorem vx_sastoreN (hexec : p.tables.exec = Jvm.exec) (hb : c.code = cc) {x : Int32} {i : Int32} (hdg : decode cc pc = .ok (.sastore, 1)) (k : vx_NoteN p l e R s m args below meth c H locs cells slots Q (F0 m pc ls rest)) : W p l e R s m args below meth c H locs cells slots Q (F0 m pc ls (.int x :: .int i :: .null :: rest)) := by
  intro T hT X
  obtain ⟨t, st, q⟩ := k T hT X
  exact ⟨t, X.sastoreNull hexec (g := F0 m pc ls (.int x :: .int i :: .null :: rest)) rfl (rest := rest) rfl (by rw [hb]; exact hdg) t st, q⟩
theorem vx_invokeN {own C : String} {index maxL : Nat} {y : MethodName} {bytes : ByteArray} {ret : Option FieldType} (hexec : p.tables.exec = Jvm.exec) (hb : c.code = cc) (hown : s.vm.findClass own = some m.cls) (hlink : (Cond.methodLink own index y).before args s = true) (hinst : (Cond.instanceMethod y).before args s = true) (hcode : (Cond.code y bytes maxL ret).before args s = true) (hsel : (Cond.selects C y y).before args s = true)
    (hx : y.cls ≠ "java/lang/invoke/MethodHandle" ∧ y.cls ≠ "java/lang/invoke/VarHandle") {As : List Value} (hlen : (parseMethodDescriptor y.desc).map (fun d => d.parameters.length) = some As.length) (hdg : decode cc pc = .ok (.invokevirtual index, 3))
    (k : vx_NoteN p l e R s m args below meth c H locs cells slots Q (F0 m pc ls rest)) {st0 : List Value} (hst : st0 = As.reverse ++ .null :: rest) : W p l e R s m args below meth c H locs cells slots Q (F0 m pc ls st0) := by
  intro T hT X
  obtain ⟨r0, r, hn, hrm, hstR, hsigR⟩ := va_Decl.of hinst hcode
  obtain ⟨c2, r2, m2, q1, q2, q3, q4, kP, hkP, hkPi⟩ := Cond.selects_spec hsel
  cases hn.symm.trans q3
  have hl9 : As.length = r.sig.parameters.length := by
    rw [hsigR] at hlen
    exact (Option.some.inj hlen).symm
  obtain ⟨vm', X1, st1⟩ := X.invokevirtualNull hexec hown hlink hn hrm hstR hkP hkPi hx (g := F0 m pc ls st0) rfl (argsL := As) (rest := rest) hl9 hst (by rw [hb]; exact hdg)
  obtain ⟨t, st, q⟩ := k (T.setVm vm') hT X1
  exact ⟨t, st1 t st, q⟩
theorem vx_newarrayZ {atype : ArrayType} (hexec : p.tables.exec = Jvm.exec) (hb : c.code = cc) {n : Int32} (h0 : n < 0) (hdg : decode cc pc = .ok (.newarray atype, 2)) (k : ∀ tx : String, tx = toString n → vx_Note p l e R s m args below meth c H locs cells slots Q (F0 m pc ls rest) "java/lang/NegativeArraySizeException" tx) : W p l e R s m args below meth c H locs cells slots Q (F0 m pc ls (.int n :: rest)) := by
  intro T hT X
  obtain ⟨t, st, q⟩ := k _ rfl T hT X
  exact ⟨t, X.newarrayNegative hexec (g := F0 m pc ls (.int n :: rest)) rfl h0 (rest := rest) rfl (by rw [hb]; exact hdg) t st, q⟩
end
end VXM
/-! ===== END ===== -/
/-! ===== BEGIN an exception as an object: made, kept, thrown later (no traces kept) ===== -/
section VXK
variable {p : Program} {l : Launch} {e : Env} {R : Room} {s : State} {m₀ : MethodId} {args : Array Value} {below : List Frame} {meth : Method} {c : Code} {W : State} {locs : List Loc} {cells slots : Nat}
set_option maxHeartbeats 1000000 in
theorem vx_ctorMadeS (X : Stand p l e R s m₀ args below meth c W locs cells slots) (hexec : p.tables.exec = Jvm.exec) (htr : e.platform.stackTraces = false) {own cls : String} {names : List String} {ic : Nat}
    (hown : s.vm.findClass own = some m₀.cls) (hcls : Bundle.fit cls = true) (hnames : ∀ n ∈ names, Bundle.fit n = true)
    (h : ∀ a ∈ Bundle.ownAtoms own ic cls names, a.before args s = true)
    (hlocs : ∀ x ∈ locs, ∀ cell, s.heap[x.base]? = some cell → cell.vm.isStatics = false)
    {a : Addr} {cX : ClassId} {kX : Class} (hfoundX : s.vm.findClass cls = some cX) (hkX : s.vm.classes[cX]? = some kX) (hcell : W.heap[a]? = some (freshCell cX kX)) (hnew : s.heap.size ≤ a)
    {msg : Value} (hmsg : msg.isRef = true)
    {g : JFrame} (hg : g.method = m₀) (hsize : g.locals.size = c.maxLocals) {rest : List Value} (hstack : g.stack = msg :: .ref a :: .ref a :: rest)
    (hd6 : decode c.code g.pc = .ok (.invokespecial ic, 3))
    (hRframes : names.length + 3 < R.frames) (hRlocals : 2 * g.monitorRoom + ((Value.ref a :: rest).map fun v => v.category).sum + (13 * (names.length + 1) + 42) ≤ R.locals) :
    ∃ (V : State) (ce : Cell) (L : List Loc), Stand p l e R s m₀ args below meth c (V.setCell a ce) (locs ++ L) cells slots ∧ (∀ y ∈ L, y.base = a) ∧ a < V.heap.size ∧ ce.cls = cX ∧ ce.vm = .none ∧
      ∀ target, Steps p.tables e below ((V.setCell a ce).setTop { g with stack := .ref a :: rest, pc := g.pc + 3 }) target → Steps p.tables e below (W.setTop g) target := by
  have howns : e.platform.frameOwnsMonitors = true := by rw [X.admits.platform]
  have hfin : e.platform.finalization = false := by rw [X.admits.platform]
  have hpl : e.platform.magicAccessors = ({} : Platform).magicAccessors := by rw [X.admits.platform]
  have a' : ∀ x, x ∈ Bundle.ownAtoms own ic cls names → x.holds args s none s [] = true := fun x hx => h x hx
  obtain ⟨T, Z0, L, -, Y⟩ := ThrowableC.of_atoms (args := args) howns hfin hpl (fun x hx => h x (by simp [Bundle.ownAtoms, hx]))
  obtain ⟨Z, M, LZ, LM, hnZ⟩ := Init0T.ofS_atoms (args := args) hpl L Y (fun x hx => h x (by simp [Bundle.ownAtoms, hx]))
  obtain ⟨P1, Ps, hlen, L1, hL, hP1m, hlink1, hlink⟩ := Bundle.chainS (args := args) hpl hnZ names cls hcls hnames (fun x hx => h x (by simp [Bundle.ownAtoms, hx]))
  have hfound : s.vm.findClass cls = some P1.m.cls := findClass_of_methodNamed hP1m
  cases Option.some.inj (hfoundX.symm.trans hfound)
  obtain ⟨c1, kX', hc1, hk, hord, -, -, hn6⟩ := Cond.instantiable_spec (a' (.instantiable cls 6) (by simp [Bundle.ownAtoms]))
  cases Option.some.inj (hc1.symm.trans hfound)
  cases Option.some.inj (hkX.symm.trans hk)
  have hsel0 : selectMethod e.platform s.vm P1.m.cls T.fill0 = .method T.fill0 := by
    obtain ⟨c2, r2, m2, q1, q2, q3, q4, -⟩ := Cond.selects_spec (a' (.selects cls Bundle.tFill0 Bundle.tFill0) (by simp [Bundle.ownAtoms]))
    cases Option.some.inj (q1.symm.trans hfound)
    cases Option.some.inj (q2.symm.trans (State.methodFound?_of_named Y.fill0 (by decide)))
    cases Option.some.inj (q3.symm.trans Y.fill0)
    rw [Launch.admits_selectMethod X.admits]; exact q4
  have hselF : selectMethod e.platform s.vm P1.m.cls T.fill = .method T.fill := by
    obtain ⟨c2, r2, m2, q1, q2, q3, q4, -⟩ := Cond.selects_spec (a' (.selects cls Bundle.tFill Bundle.tFill) (by simp [Bundle.ownAtoms]))
    cases Option.some.inj (q1.symm.trans hfound)
    cases Option.some.inj (q2.symm.trans (State.methodFound?_of_named Y.fill (by decide)))
    cases Option.some.inj (q3.symm.trans Y.fill)
    rw [Launch.admits_selectMethod X.admits]; exact q4
  obtain ⟨cellS0, hcS0, hiss⟩ := Y.statics
  obtain ⟨u0, hu0⟩ := Cond.staticRefV Y.unassigned L.unassignedStatic L.statics hcS0 hiss (a' (.isRef (.static Bundle.tN "UNASSIGNED_STACK" Bundle.steD)) (by simp [Bundle.ownAtoms]))
  obtain ⟨sen, hsen⟩ := Cond.staticRefV Y.sentinel L.sentinelStatic L.statics hcS0 hiss (a' (.isRef (.static Bundle.tN "SUPPRESSED_SENTINEL" Bundle.listD)) (by simp [Bundle.ownAtoms]))
  obtain ⟨ci198, i198, fB, hk198, hg198, ha198, hsB, -, hnB, htB, hffB⟩ := Cond.ownField (t := .object "java/lang/Object") Y.found L.cls (by decide +kernel) (a' (.fieldLink Bundle.tN 198 Bundle.tN "backtrace" "Ljava/lang/Object;") (by simp [Bundle.ownAtoms])) (a' (.lays Bundle.tN Bundle.tN "backtrace" "Ljava/lang/Object;") (by simp [Bundle.ownAtoms])) e.platform hpl
  obtain ⟨cellS, hcS', heS, -, hkeep⟩ := X.same.2.2.2.2.2 T.aS cellS0 hcS0
  have hcellS : W.heap[T.aS]? = some cellS := hcS'
  have hout' : ∀ i, (⟨T.aS, i⟩ : Loc) ∉ locs := fun i hmem => by
    have := hlocs _ hmem cellS0 hcS0
    rw [hiss] at this; cases this
  have hknownS : cellS.vm ≠ .unknown := by
    rw [heS]; intro hu
    rw [show cellS0.vm = .unknown from hu] at hiss
    cases hiss
  have hneS : T.aS ≠ a := Nat.ne_of_lt (Nat.lt_of_lt_of_le (Array.getElem?_eq_some_iff.mp hcS0).1 hnew)
  obtain ⟨iM, hffM⟩ := Y.msg
  obtain ⟨tyC, dC, hdC, hdnC⟩ := Cond.laysAt hfound hk Y.cause (a' (.lays cls Bundle.tN "cause" "Ljava/lang/Throwable;") (by simp [Bundle.ownAtoms]))
  obtain ⟨tyS, dS, hdS, hdnS⟩ := Cond.laysAt hfound hk Y.stack (a' (.lays cls Bundle.tN "stackTrace" Bundle.steD) (by simp [Bundle.ownAtoms]))
  obtain ⟨tyP, dP, hdP, hdnP⟩ := Cond.laysAt hfound hk Y.supp (a' (.lays cls Bundle.tN "suppressedExceptions" Bundle.listD) (by simp [Bundle.ownAtoms]))
  obtain ⟨tyM, dM, hdM, hdnM⟩ := Cond.laysAt hfound hk hffM (a' (.lays cls Bundle.tN "detailMessage" "Ljava/lang/String;") (by simp [Bundle.ownAtoms]))
  obtain ⟨tyB, dB, hdB, hdnB⟩ := Cond.laysAt hfound hk hffB (a' (.lays cls Bundle.tN "backtrace" "Ljava/lang/Object;") (by simp [Bundle.ownAtoms]))
  have bC := Cond.laysApart hdB hdC hdnB hdnC (by rw [hnB, Y.causeName]; decide)
  have bS := Cond.laysApart hdB hdS hdnB hdnS (by rw [hnB, Y.stackName]; decide)
  have bP := Cond.laysApart hdB hdP hdnB hdnP (by rw [hnB, Y.suppName]; decide)
  have hskip : SkipFacts T e.platform s (fun u => u) u0 ((preparedCellV T.toThrowableT (freshCell P1.m.cls kX) a u0 sen).withEntry W.cur) :=
    ⟨{ ci198 := ci198, i198 := i198, fBack := fB }, ⟨hk198, hg198, ha198, hsB⟩, by
      have := fresh_default (c := P1.m.cls) tyB
      rw [htB] at this
      simpa [preparedCellV, Cell.setSlot, Cell.withEntry, Array.getElem?_setIfInBounds, bC, bS, bP, bC.symm, bS.symm, bP.symm, defaultValue] using this, fun _ _ => rfl⟩
  obtain ⟨tm, methC, cdC, kC, vm₁, hnC, -, -, -, -, -, -, -, hW₁, st1⟩ := Steps.initColdS (tb := p.tables) (e := e) (below := below) (s := s) (U := W) X.here hexec X.warmed hpl hown (t := Bundle.initS cls) rfl rfl (Bundle.fit_spec hcls).2
    (a' (.methodLink own ic (Bundle.initS cls)) (by simp [Bundle.ownAtoms])) (h (.instanceMethod (Bundle.initS cls)) (by cases names <;> simp [Bundle.ownAtoms, Bundle.chainSAtoms, Bundle.passSAtoms])) (bytes := Bundle.six) (maxL := 2) (h (.code (Bundle.initS cls) Bundle.six 2 none) (by cases names <;> simp [Bundle.ownAtoms, Bundle.chainSAtoms, Bundle.passSAtoms]))
    (f := g) hg (a := a) (msg := msg) (rest := .ref a :: rest) hstack hd6
  cases Option.some.inj (hnC.symm.trans hP1m)
  have X₁ := X.noted hW₁
  obtain ⟨vm₂, X₂, st2⟩ := X₁.ctorMessageOffV hexec (g := { g with stack := .ref a :: rest }) hg hsize T L Z LZ M LM (P1 :: Ps)
    (fun P hP => by rcases List.mem_cons.mp hP with rfl | hP; exact L1; exact hL P hP) ⟨hlink1, hlink⟩ (u0 := u0) (sen := sen) (self := a) hmsg (cell := freshCell P1.m.cls kX) (cellS := cellS)
    hcell (fun _ => by simp) (by simp) rfl rfl hsel0 hselF hcellS hneS hknownS (by rw [hkeep _ (hout' _)]; exact hu0) (by rw [hkeep _ (hout' _)]; exact hsen)
    (Takes.of_laid hk hord tyC (by rw [Y.causeType]; rfl)) (Takes.of_laid hk hord tyS (by rw [Y.stackType]; exact fits_refV_array _ u0)) (Takes.of_laid hk hord tyP (by rw [Y.suppType]; exact fits_refV_object _ sen))
    (Takes.of_laid hk hord tyM (by rw [Y.msgType]; exact fits_refV_object _ ⟨msg, hmsg⟩)) Y.objLocals hskip htr [] hd6
    (by simp only [List.length_cons, hlen]; omega) (by simp only [List.length_cons, hlen]; exact hRlocals)
  have hlt : a < ((W.setVm vm₁).setVm vm₂).heap.size := (Array.getElem?_eq_some_iff.mp hcell).1
  refine ⟨(W.setVm vm₁).setVm vm₂, _, _, X₂, fun y hy => ?_, hlt, rfl, rfl, fun target hwalk => st1 _ (fun acts => ?_)⟩
  · simp only [List.mem_cons, List.not_mem_nil, or_false] at hy
    rcases hy with rfl | rfl | rfl | rfl | rfl <;> rfl
  · rw [doInvoke_state]
    exact st2 _ hwalk
set_option maxHeartbeats 1000000 in
theorem vx_ctorMade0 (X : Stand p l e R s m₀ args below meth c W locs cells slots) (hexec : p.tables.exec = Jvm.exec) (htr : e.platform.stackTraces = false) {own cls : String} {names : List String} {ic : Nat}
    (hown : s.vm.findClass own = some m₀.cls) (hcls : Bundle.fit cls = true) (hnames : ∀ n ∈ names, Bundle.fit n = true)
    (h : ∀ a ∈ Bundle.ownAtoms0 own ic cls names, a.before args s = true)
    (hlocs : ∀ x ∈ locs, ∀ cell, s.heap[x.base]? = some cell → cell.vm.isStatics = false)
    {a : Addr} {cX : ClassId} {kX : Class} (hfoundX : s.vm.findClass cls = some cX) (hkX : s.vm.classes[cX]? = some kX) (hcell : W.heap[a]? = some (freshCell cX kX)) (hnew : s.heap.size ≤ a)
    {g : JFrame} (hg : g.method = m₀) (hsize : g.locals.size = c.maxLocals) {rest : List Value} (hstack : g.stack = .ref a :: .ref a :: rest)
    (hd6 : decode c.code g.pc = .ok (.invokespecial ic, 3))
    (hRframes : names.length + 3 < R.frames) (hRlocals : 2 * g.monitorRoom + ((Value.ref a :: rest).map fun v => v.category).sum + (13 * (names.length + 1) + 41) ≤ R.locals) :
    ∃ (V : State) (ce : Cell) (L : List Loc), Stand p l e R s m₀ args below meth c (V.setCell a ce) (locs ++ L) cells slots ∧ (∀ y ∈ L, y.base = a) ∧ a < V.heap.size ∧ ce.cls = cX ∧ ce.vm = .none ∧
      ∀ target, Steps p.tables e below ((V.setCell a ce).setTop { g with stack := .ref a :: rest, pc := g.pc + 3 }) target → Steps p.tables e below (W.setTop g) target := by
  have howns : e.platform.frameOwnsMonitors = true := by rw [X.admits.platform]
  have hfin : e.platform.finalization = false := by rw [X.admits.platform]
  have hpl : e.platform.magicAccessors = ({} : Platform).magicAccessors := by rw [X.admits.platform]
  have a' : ∀ x, x ∈ Bundle.ownAtoms0 own ic cls names → x.holds args s none s [] = true := fun x hx => h x hx
  obtain ⟨T, Z, L, LZ, Y⟩ := ThrowableC.of_atoms (args := args) howns hfin hpl (fun x hx => h x (by simp [Bundle.ownAtoms0, hx]))
  obtain ⟨P1, Ps, hlen, L1, hL, hP1m, hlink1, hlink⟩ := Bundle.chain0 (args := args) hpl Y.init0 names cls hcls hnames (fun x hx => h x (by simp [Bundle.ownAtoms0, hx]))
  have hfound : s.vm.findClass cls = some P1.m.cls := findClass_of_methodNamed hP1m
  cases Option.some.inj (hfoundX.symm.trans hfound)
  obtain ⟨c1, kX', hc1, hk, hord, -, -, hn6⟩ := Cond.instantiable_spec (a' (.instantiable cls 6) (by simp [Bundle.ownAtoms0]))
  cases Option.some.inj (hc1.symm.trans hfound)
  cases Option.some.inj (hkX.symm.trans hk)
  have hsel0 : selectMethod e.platform s.vm P1.m.cls T.fill0 = .method T.fill0 := by
    obtain ⟨c2, r2, m2, q1, q2, q3, q4, -⟩ := Cond.selects_spec (a' (.selects cls Bundle.tFill0 Bundle.tFill0) (by simp [Bundle.ownAtoms0]))
    cases Option.some.inj (q1.symm.trans hfound)
    cases Option.some.inj (q2.symm.trans (State.methodFound?_of_named Y.fill0 (by decide)))
    cases Option.some.inj (q3.symm.trans Y.fill0)
    rw [Launch.admits_selectMethod X.admits]; exact q4
  have hselF : selectMethod e.platform s.vm P1.m.cls T.fill = .method T.fill := by
    obtain ⟨c2, r2, m2, q1, q2, q3, q4, -⟩ := Cond.selects_spec (a' (.selects cls Bundle.tFill Bundle.tFill) (by simp [Bundle.ownAtoms0]))
    cases Option.some.inj (q1.symm.trans hfound)
    cases Option.some.inj (q2.symm.trans (State.methodFound?_of_named Y.fill (by decide)))
    cases Option.some.inj (q3.symm.trans Y.fill)
    rw [Launch.admits_selectMethod X.admits]; exact q4
  obtain ⟨cellS0, hcS0, hiss⟩ := Y.statics
  obtain ⟨u0, hu0⟩ := Cond.staticRefV Y.unassigned L.unassignedStatic L.statics hcS0 hiss (a' (.isRef (.static Bundle.tN "UNASSIGNED_STACK" Bundle.steD)) (by simp [Bundle.ownAtoms0]))
  obtain ⟨sen, hsen⟩ := Cond.staticRefV Y.sentinel L.sentinelStatic L.statics hcS0 hiss (a' (.isRef (.static Bundle.tN "SUPPRESSED_SENTINEL" Bundle.listD)) (by simp [Bundle.ownAtoms0]))
  obtain ⟨ci198, i198, fB, hk198, hg198, ha198, hsB, -, hnB, htB, hffB⟩ := Cond.ownField (t := .object "java/lang/Object") Y.found L.cls (by decide +kernel) (a' (.fieldLink Bundle.tN 198 Bundle.tN "backtrace" "Ljava/lang/Object;") (by simp [Bundle.ownAtoms0])) (a' (.lays Bundle.tN Bundle.tN "backtrace" "Ljava/lang/Object;") (by simp [Bundle.ownAtoms0])) e.platform hpl
  obtain ⟨cellS, hcS', heS, -, hkeep⟩ := X.same.2.2.2.2.2 T.aS cellS0 hcS0
  have hcellS : W.heap[T.aS]? = some cellS := hcS'
  have hout' : ∀ i, (⟨T.aS, i⟩ : Loc) ∉ locs := fun i hmem => by
    have := hlocs _ hmem cellS0 hcS0
    rw [hiss] at this; cases this
  have hknownS : cellS.vm ≠ .unknown := by
    rw [heS]; intro hu
    rw [show cellS0.vm = .unknown from hu] at hiss
    cases hiss
  have hneS : T.aS ≠ a := Nat.ne_of_lt (Nat.lt_of_lt_of_le (Array.getElem?_eq_some_iff.mp hcS0).1 hnew)
  obtain ⟨iM, hffM⟩ := Y.msg
  obtain ⟨tyC, dC, hdC, hdnC⟩ := Cond.laysAt hfound hk Y.cause (a' (.lays cls Bundle.tN "cause" "Ljava/lang/Throwable;") (by simp [Bundle.ownAtoms0]))
  obtain ⟨tyS, dS, hdS, hdnS⟩ := Cond.laysAt hfound hk Y.stack (a' (.lays cls Bundle.tN "stackTrace" Bundle.steD) (by simp [Bundle.ownAtoms0]))
  obtain ⟨tyP, dP, hdP, hdnP⟩ := Cond.laysAt hfound hk Y.supp (a' (.lays cls Bundle.tN "suppressedExceptions" Bundle.listD) (by simp [Bundle.ownAtoms0]))
  obtain ⟨tyM, dM, hdM, hdnM⟩ := Cond.laysAt hfound hk hffM (a' (.lays cls Bundle.tN "detailMessage" "Ljava/lang/String;") (by simp [Bundle.ownAtoms0]))
  obtain ⟨tyB, dB, hdB, hdnB⟩ := Cond.laysAt hfound hk hffB (a' (.lays cls Bundle.tN "backtrace" "Ljava/lang/Object;") (by simp [Bundle.ownAtoms0]))
  have bC := Cond.laysApart hdB hdC hdnB hdnC (by rw [hnB, Y.causeName]; decide)
  have bS := Cond.laysApart hdB hdS hdnB hdnS (by rw [hnB, Y.stackName]; decide)
  have bP := Cond.laysApart hdB hdP hdnB hdnP (by rw [hnB, Y.suppName]; decide)
  have hskip : SkipFacts T e.platform s (fun u => u) u0 ((preparedCellV T.toThrowableT (freshCell P1.m.cls kX) a u0 sen).withEntry W.cur) :=
    ⟨{ ci198 := ci198, i198 := i198, fBack := fB }, ⟨hk198, hg198, ha198, hsB⟩, by
      have := fresh_default (c := P1.m.cls) tyB
      rw [htB] at this
      simpa [preparedCellV, Cell.setSlot, Cell.withEntry, Array.getElem?_setIfInBounds, bC, bS, bP, bC.symm, bS.symm, bP.symm, defaultValue] using this, fun _ _ => rfl⟩
  obtain ⟨tm, methC, cdC, kC, vm₁, hnC, -, -, -, -, -, -, -, hW₁, st1⟩ := Steps.initCold (tb := p.tables) (e := e) (below := below) (s := s) (U := W) X.here hexec X.warmed hpl hown (t := Bundle.init0 cls) rfl rfl (Bundle.fit_spec hcls).2
    (a' (.methodLink own ic (Bundle.init0 cls)) (by simp [Bundle.ownAtoms0])) (h (.instanceMethod (Bundle.init0 cls)) (by cases names <;> simp [Bundle.ownAtoms0, Bundle.chain0Atoms, Bundle.passAtoms])) (bytes := Bundle.five) (maxL := 1) (h (.code (Bundle.init0 cls) Bundle.five 1 none) (by cases names <;> simp [Bundle.ownAtoms0, Bundle.chain0Atoms, Bundle.passAtoms]))
    (f := g) hg (a := a) (rest := .ref a :: rest) hstack hd6
  cases Option.some.inj (hnC.symm.trans hP1m)
  have X₁ := X.noted hW₁
  obtain ⟨vm₂, X₂, st2⟩ := X₁.ctorPlainOffV hexec (g := { g with stack := .ref a :: rest }) hg hsize T L Z LZ (P1 :: Ps)
    (fun P hP => by rcases List.mem_cons.mp hP with rfl | hP; exact L1; exact hL P hP) ⟨hlink1, hlink⟩ (u0 := u0) (sen := sen) (self := a) (cell := freshCell P1.m.cls kX) (cellS := cellS)
    hcell (fun _ => by simp) (by simp) rfl rfl hsel0 hselF hcellS hneS hknownS (by rw [hkeep _ (hout' _)]; exact hu0) (by rw [hkeep _ (hout' _)]; exact hsen)
    (Takes.of_laid hk hord tyC (by rw [Y.causeType]; rfl)) (Takes.of_laid hk hord tyS (by rw [Y.stackType]; exact fits_refV_array _ u0)) (Takes.of_laid hk hord tyP (by rw [Y.suppType]; exact fits_refV_object _ sen)) Y.objLocals hskip htr [] hd6
    (by simp only [List.length_cons, hlen]; omega) (by simp only [List.length_cons, hlen]; exact hRlocals)
  have hlt : a < ((W.setVm vm₁).setVm vm₂).heap.size := (Array.getElem?_eq_some_iff.mp hcell).1
  refine ⟨(W.setVm vm₁).setVm vm₂, _, _, X₂, fun y hy => ?_, hlt, rfl, rfl, fun target hwalk => st1 _ (fun acts => ?_)⟩
  · simp only [List.mem_cons, List.not_mem_nil, or_false] at hy
    rcases hy with rfl | rfl | rfl | rfl <;> rfl
  · rw [doInvoke_state]
    exact st2 _ hwalk
end VXK
section VXK2
variable {p : Program} {l : Launch} {e : Env} {R : Room} {s : State} {m : MethodId} {args : Array Value} {below : List Frame} {meth : Method} {c : Code} {H : Heap} {locs : List Loc} {cells slots : Nat} {Q : State → Prop}
variable {ls : Array Slot} {rest : List Value} {D : va_G} {cl : List vw_C} {tys : List (ClassId × FieldType)} {ws : va_W}
/-- 'new E("text")' that isn't thrown at once: the object goes on the stack -/
theorem vx_makeS {cc : ByteArray} {pc : Nat} (hexec : p.tables.exec = Jvm.exec) (hb : c.code = cc) (hl : l.stackTraces = false) {own cls text : String} {names : List String} {ik is ic sa ci : Nat} {A : Nat → Prop} {T0 : u_T}
    (hown : s.vm.findClass own = some m.cls) (hcls : Bundle.fit cls = true) (hnames : ∀ n ∈ names, Bundle.fit n = true)
    (hk : (Cond.classLink own ik cls).before args s = true) (hini : (Cond.initialized cls).before args s = true) (hstr : vk_R own is text sa s) (hat : ∀ w ∈ vx_atS own ic cls names, w.before args s = true)
    (hgood : ∀ w ∈ Cond.classLink own ik cls :: Cond.initialized cls :: vx_atS own ic cls names, vx_ot w = true)
    (hU : vx_Zq Bundle.tN "UNASSIGNED_STACK" Bundle.steD A s s.heap) (hN : vx_Zq Bundle.tN "SUPPRESSED_SENTINEL" Bundle.listD A s s.heap) (hS : va_S A s.heap H locs) (hsize : ls.size = c.maxLocals)
    (d0 : decode cc pc = .ok (.new ik, 3)) (d3 : decode cc (pc + 3) = .ok (.dup, 1)) (d4 : decode cc (pc + 4) = .ok (.ldc is, 2)) (d6 : decode cc (pc + 6) = .ok (.invokespecial ic, 3))
    (hK : va_K D cl tys s) (hP : va_P D cl ws H) (hD : va_D A ws) (hA : ∀ q, s.heap.size ≤ q → A q) (hc : cl[ci]? = some (cls, T0, 0))
    (hRframes : names.length + 3 < R.frames) (hRlocals : (rest.map fun v => v.category).sum + (13 * (names.length + 1) + 43) ≤ R.locals) (hRcells : cells + 1 ≤ R.cells) (hRslots : slots + 6 ≤ R.slots)
    (kk : ∀ (q : Nat) (H1 : Heap), va_P D cl (ws ++ [(q, .inr (ci, []))]) H1 → va_D A (ws ++ [(q, .inr (ci, []))]) → va_S A s.heap H1 locs → W p l e R s m args below meth c H1 locs (cells + 1) (slots + 6) Q (F0 m (pc + 9) ls (.ref q :: rest))) :
    W p l e R s m args below meth c H locs cells slots Q (F0 m pc ls rest) := by
  intro T hT X
  subst hT
  have htr : e.platform.stackTraces = false := (show e.platform.stackTraces = l.stackTraces by rw [X.admits.platform]).trans hl
  have Y := vx_rebase X (R' := { frames := R.frames, locals := R.locals, cells := 1, slots := 6 }) (Nat.le_refl _) (Nat.le_refl _) hRcells hRslots
  obtain ⟨s', hA'⟩ : ∃ z, z = (T.setVm s.vm).setFrames (.invoking m args :: below) := ⟨_, rfl⟩
  rw [← hA'] at Y
  have hvm : s'.vm = s.vm := by rw [hA']; rfl
  have hhp : s'.heap = T.heap := by rw [hA']; rfl
  have hW0 : s.WarmedH s'.vm := by rw [hvm]; exact State.WarmedH.refl s
  have hat' : ∀ w ∈ vx_atS own ic cls names, w.before args s' = true := fun w hw => vx_ot_at hW0 hvm.symm (hgood w (List.mem_cons_of_mem _ (List.mem_cons_of_mem _ hw))) (hat w hw)
  have hk' : (Cond.classLink own ik cls).before args s' = true := vx_ot_at hW0 hvm.symm (hgood _ List.mem_cons_self) hk
  have hini' : (Cond.initialized cls).before args s' = true := vx_ot_at hW0 hvm.symm (hgood _ (List.mem_cons_of_mem _ List.mem_cons_self)) hini
  have hU' : vx_Zq Bundle.tN "UNASSIGNED_STACK" Bundle.steD A s' s'.heap := by rw [hhp]; exact vx_Zq.moved hW0.alike (hU.kept hS.2.1)
  have hN' : vx_Zq Bundle.tN "SUPPRESSED_SENTINEL" Bundle.listD A s' s'.heap := by rw [hhp]; exact vx_Zq.moved hW0.alike (hN.kept hS.2.1)
  have h : ∀ w ∈ Bundle.ownAtoms own ic cls names, w.before args s' = true := vx_own hat' (vx_isRefq hU'.1) (vx_isRefq hN'.1) hU'.2.word hN'.2.word
  have hown' : s'.vm.findClass own = some m.cls := by rw [hvm]; exact hown
  have hins : (Cond.instantiable cls 6).before args s' = true := h _ (by simp [Bundle.ownAtoms])
  obtain ⟨vm₁, cX, kX, hfX, hkX, -, -, X₁, st1⟩ := Y.newCold hexec (own := own) (C := cls) (index := ik) (n := 6) hown' hk' hins hini'
    (g := F0 m pc ls rest) rfl (by rw [hb]; exact d0) (Nat.le_refl _) (Nat.le_refl _)
  generalize hT1 : (T.setVm vm₁).pushCell { cls := cX, slots := kX.instanceTypes.map defaultValue, vm := .none } = T1 at X₁ st1
  have hcat : (Value.ref T.heap.size).category = 1 := rfl
  have hcellA : T1.heap[T.heap.size]? = some (freshCell cX kX) := by rw [← hT1]; exact State.heap_pushCell_size _ _
  have d3' : decode c.code (pc + 3) = .ok (.dup, 1) := by rw [hb]; exact d3
  have d4' : decode c.code (pc + 4) = .ok (.ldc is, 2) := by rw [hb]; exact d4
  have hstr' : vk_R own is text sa s' := vk_R.warm hW0 hstr
  obtain ⟨V, ce, L, Z, hL, hlt, hcl9, hvm9, st⟩ := vx_ctorMadeS X₁ hexec htr (own := own) (cls := cls) (names := names) (ic := ic) hown' hcls hnames h (fun x hx => nomatch hx) hfX hkX hcellA (by rw [hhp]; exact Nat.le_refl _) (msg := .ref sa) rfl
    (g := { method := m, pc := pc + 6, locals := ls, stack := .ref sa :: .ref T.heap.size :: .ref T.heap.size :: rest, locked := none }) rfl hsize (rest := rest) rfl
    (by rw [hb]; exact d6) hRframes (by simp only [List.map_cons, List.sum_cons, hcat]; omega)
  have Z0 := Stand.forget (locs := []) Z (fun y hy => by rw [hL y hy, hhp]; exact Nat.le_refl _)
  obtain ⟨f1, f2⟩ := vx_frame Z0.same
  rw [hhp] at f1 f2
  have hcid : ce.cls = D.1 ci := by
    rw [hcl9]
    have h1 := (hK.1 ci _ hc).2.1
    rw [hvm] at hfX
    exact Option.some.inj (hfX.symm.trans h1)
  have hh : (V.setCell T.heap.size ce).heap[T.heap.size]? = some ce := heapAt_setCell_self (s := V) ce hlt
  subst hA'
  have X5 := vx_back9 X Y Z0
  have X6 : Stand p l e R s m args below meth c (V.setCell T.heap.size ce) locs (cells + 1) (slots + 6) := { X5 with same := X5.same.mono (by omega) (by omega) }
  have hk9 : ∀ (k : Nat) (x : Nat × va_E), ws[k]? = some x → (V.setCell T.heap.size ce).heap[x.1]? = T.heap[x.1]? := fun k x hx => f2 x.1 ((hP k x hx).lt) (fun z hz => nomatch hz)
  obtain ⟨t, a1, b1⟩ := kk T.heap.size (V.setCell T.heap.size ce).heap ((hP.kept hk9).app (fun k x hx => by
      have hz : k < 1 := (List.getElem?_eq_some_iff.mp hx).1
      rw [show k = 0 by omega] at hx
      cases hx
      exact ⟨_, hc, ce, hh, hcid, hvm9, fun k hk => absurd hk (Nat.not_lt_zero k)⟩)) (hD.push hP rfl (hA _ hS.1)) ⟨Nat.le_trans hS.1 f1, fun q h1 h2 => (f2 q (Nat.lt_of_lt_of_le h1 hS.1) (fun z hz => nomatch hz)).trans (hS.2.1 q h1 h2), hS.2.2⟩ _ rfl X6
  refine ⟨t, st1 _ ?_, b1⟩
  show Steps p.tables e below (T1.setTop { method := m, pc := pc + 3, locals := ls, stack := .ref T.heap.size :: rest, locked := none }) _
  jvm_step X₁.here [X₁.here.top, hexec, d3', Value.category]
  exact X₁.ldcString hexec (own := own) (text := text) (index := is) (a := sa) hown' hstr'.1 hstr'.2
    (g := { method := m, pc := pc + 4, locals := ls, stack := .ref T.heap.size :: .ref T.heap.size :: rest, locked := none }) rfl d4' _ (st _ a1)
/-- 'new E()' that isn't thrown at once: the object goes on the stack -/
theorem vx_make0 {cc : ByteArray} {pc : Nat} (hexec : p.tables.exec = Jvm.exec) (hb : c.code = cc) (hl : l.stackTraces = false) {own cls : String} {names : List String} {ik ic ci : Nat} {A : Nat → Prop} {T0 : u_T}
    (hown : s.vm.findClass own = some m.cls) (hcls : Bundle.fit cls = true) (hnames : ∀ n ∈ names, Bundle.fit n = true)
    (hk : (Cond.classLink own ik cls).before args s = true) (hini : (Cond.initialized cls).before args s = true) (hat : ∀ w ∈ vx_at0 own ic cls names, w.before args s = true)
    (hgood : ∀ w ∈ Cond.classLink own ik cls :: Cond.initialized cls :: vx_at0 own ic cls names, vx_ot w = true)
    (hU : vx_Zq Bundle.tN "UNASSIGNED_STACK" Bundle.steD A s s.heap) (hN : vx_Zq Bundle.tN "SUPPRESSED_SENTINEL" Bundle.listD A s s.heap) (hS : va_S A s.heap H locs) (hsize : ls.size = c.maxLocals)
    (d0 : decode cc pc = .ok (.new ik, 3)) (d3 : decode cc (pc + 3) = .ok (.dup, 1)) (d4 : decode cc (pc + 4) = .ok (.invokespecial ic, 3))
    (hK : va_K D cl tys s) (hP : va_P D cl ws H) (hD : va_D A ws) (hA : ∀ q, s.heap.size ≤ q → A q) (hc : cl[ci]? = some (cls, T0, 0))
    (hRframes : names.length + 3 < R.frames) (hRlocals : (rest.map fun v => v.category).sum + (13 * (names.length + 1) + 42) ≤ R.locals) (hRcells : cells + 1 ≤ R.cells) (hRslots : slots + 6 ≤ R.slots)
    (kk : ∀ (q : Nat) (H1 : Heap), va_P D cl (ws ++ [(q, .inr (ci, []))]) H1 → va_D A (ws ++ [(q, .inr (ci, []))]) → va_S A s.heap H1 locs → W p l e R s m args below meth c H1 locs (cells + 1) (slots + 6) Q (F0 m (pc + 7) ls (.ref q :: rest))) :
    W p l e R s m args below meth c H locs cells slots Q (F0 m pc ls rest) := by
  intro T hT X
  subst hT
  have htr : e.platform.stackTraces = false := (show e.platform.stackTraces = l.stackTraces by rw [X.admits.platform]).trans hl
  have Y := vx_rebase X (R' := { frames := R.frames, locals := R.locals, cells := 1, slots := 6 }) (Nat.le_refl _) (Nat.le_refl _) hRcells hRslots
  obtain ⟨s', hA'⟩ : ∃ z, z = (T.setVm s.vm).setFrames (.invoking m args :: below) := ⟨_, rfl⟩
  rw [← hA'] at Y
  have hvm : s'.vm = s.vm := by rw [hA']; rfl
  have hhp : s'.heap = T.heap := by rw [hA']; rfl
  have hW0 : s.WarmedH s'.vm := by rw [hvm]; exact State.WarmedH.refl s
  have hat' : ∀ w ∈ vx_at0 own ic cls names, w.before args s' = true := fun w hw => vx_ot_at hW0 hvm.symm (hgood w (List.mem_cons_of_mem _ (List.mem_cons_of_mem _ hw))) (hat w hw)
  have hk' : (Cond.classLink own ik cls).before args s' = true := vx_ot_at hW0 hvm.symm (hgood _ List.mem_cons_self) hk
  have hini' : (Cond.initialized cls).before args s' = true := vx_ot_at hW0 hvm.symm (hgood _ (List.mem_cons_of_mem _ List.mem_cons_self)) hini
  have hU' : vx_Zq Bundle.tN "UNASSIGNED_STACK" Bundle.steD A s' s'.heap := by rw [hhp]; exact vx_Zq.moved hW0.alike (hU.kept hS.2.1)
  have hN' : vx_Zq Bundle.tN "SUPPRESSED_SENTINEL" Bundle.listD A s' s'.heap := by rw [hhp]; exact vx_Zq.moved hW0.alike (hN.kept hS.2.1)
  have h : ∀ w ∈ Bundle.ownAtoms0 own ic cls names, w.before args s' = true := vx_own hat' (vx_isRefq hU'.1) (vx_isRefq hN'.1) hU'.2.word hN'.2.word
  have hown' : s'.vm.findClass own = some m.cls := by rw [hvm]; exact hown
  have hins : (Cond.instantiable cls 6).before args s' = true := h _ (by simp [Bundle.ownAtoms0])
  obtain ⟨vm₁, cX, kX, hfX, hkX, -, -, X₁, st1⟩ := Y.newCold hexec (own := own) (C := cls) (index := ik) (n := 6) hown' hk' hins hini'
    (g := F0 m pc ls rest) rfl (by rw [hb]; exact d0) (Nat.le_refl _) (Nat.le_refl _)
  generalize hT1 : (T.setVm vm₁).pushCell { cls := cX, slots := kX.instanceTypes.map defaultValue, vm := .none } = T1 at X₁ st1
  have hcat : (Value.ref T.heap.size).category = 1 := rfl
  have hcellA : T1.heap[T.heap.size]? = some (freshCell cX kX) := by rw [← hT1]; exact State.heap_pushCell_size _ _
  have d3' : decode c.code (pc + 3) = .ok (.dup, 1) := by rw [hb]; exact d3
  obtain ⟨V, ce, L, Z, hL, hlt, hcl9, hvm9, st⟩ := vx_ctorMade0 X₁ hexec htr (own := own) (cls := cls) (names := names) (ic := ic) hown' hcls hnames h (fun x hx => nomatch hx) hfX hkX hcellA (by rw [hhp]; exact Nat.le_refl _)
    (g := { method := m, pc := pc + 4, locals := ls, stack := .ref T.heap.size :: .ref T.heap.size :: rest, locked := none }) rfl hsize (rest := rest) rfl
    (by rw [hb]; exact d4) hRframes (by simp only [List.map_cons, List.sum_cons, hcat]; omega)
  have Z0 := Stand.forget (locs := []) Z (fun y hy => by rw [hL y hy, hhp]; exact Nat.le_refl _)
  obtain ⟨f1, f2⟩ := vx_frame Z0.same
  rw [hhp] at f1 f2
  have hcid : ce.cls = D.1 ci := by
    rw [hcl9]
    have h1 := (hK.1 ci _ hc).2.1
    rw [hvm] at hfX
    exact Option.some.inj (hfX.symm.trans h1)
  have hh : (V.setCell T.heap.size ce).heap[T.heap.size]? = some ce := heapAt_setCell_self (s := V) ce hlt
  subst hA'
  have X5 := vx_back9 X Y Z0
  have X6 : Stand p l e R s m args below meth c (V.setCell T.heap.size ce) locs (cells + 1) (slots + 6) := { X5 with same := X5.same.mono (by omega) (by omega) }
  have hk9 : ∀ (k : Nat) (x : Nat × va_E), ws[k]? = some x → (V.setCell T.heap.size ce).heap[x.1]? = T.heap[x.1]? := fun k x hx => f2 x.1 ((hP k x hx).lt) (fun z hz => nomatch hz)
  obtain ⟨t, a1, b1⟩ := kk T.heap.size (V.setCell T.heap.size ce).heap ((hP.kept hk9).app (fun k x hx => by
      have hz : k < 1 := (List.getElem?_eq_some_iff.mp hx).1
      rw [show k = 0 by omega] at hx
      cases hx
      exact ⟨_, hc, ce, hh, hcid, hvm9, fun k hk => absurd hk (Nat.not_lt_zero k)⟩)) (hD.push hP rfl (hA _ hS.1)) ⟨Nat.le_trans hS.1 f1, fun q h1 h2 => (f2 q (Nat.lt_of_lt_of_le h1 hS.1) (fun z hz => nomatch hz)).trans (hS.2.1 q h1 h2), hS.2.2⟩ _ rfl X6
  refine ⟨t, st1 _ ?_, b1⟩
  show Steps p.tables e below (T1.setTop { method := m, pc := pc + 3, locals := ls, stack := .ref T.heap.size :: rest, locked := none }) _
  jvm_step X₁.here [X₁.here.top, hexec, d3', Value.category]
  exact st _ a1
/-- 'throw x' of an object that was made before -/
theorem vx_athrow {cc : ByteArray} {pc : Nat} (hexec : p.tables.exec = Jvm.exec) (hb : c.code = cc) {q : Addr} (hdg : decode cc pc = .ok (.athrow, 1)) (k : vx_W p l e R s m args below meth c H locs cells slots Q (F0 m pc ls rest) q) : W p l e R s m args below meth c H locs cells slots Q (F0 m pc ls (.ref q :: rest)) := by
  intro T hT X
  obtain ⟨t, st, hq⟩ := k T hT X
  refine ⟨t, ?_, hq⟩
  have hdg' : decode c.code pc = .ok (.athrow, 1) := by rw [hb]; exact hdg
  jvm_step X.here [X.here.top, hexec, hdg', athrow.wp_sem]
  exact st
end VXK2
/-! ===== END ===== -/
/-! ===== BEGIN a constructor that throws (launches without stack traces) ===== -/
section VXIA
variable {p : Program} {l : Launch} {e : Env} {R : Room} {s : State} {m : MethodId} {args : Array Value} {below : List Frame} {meth : Method} {c : Code} {T : State} {locs : List Loc} {cells slots : Nat}
theorem vx_callI (X : Stand p l e R s m args below meth c T locs cells slots) (hexec : p.tables.exec = Jvm.exec) {own : String} {index : Nat} {y : MethodName} {bytes : ByteArray} {maxL : Nat}
    (hown : s.vm.findClass own = some m.cls) (hy1 : y.name = "<init>") (hlink : (Cond.methodLink own index y).before args s = true) (hinst : (Cond.instanceMethod y).before args s = true)
    (hcode : (Cond.code y bytes maxL none).before args s = true) (hy : y.cls ≠ "java/lang/invoke/MethodHandle" ∧ y.cls ≠ "java/lang/invoke/VarHandle")
    {W9 : Nat} {Pre : Pt → Array Value → Prop} {Post : Pt → Array Value → Option Value → Pt → Prop} {PostX : Pt → Array Value → Addr → Pt → Prop} (hK : vx_Back l R p e below s args y 3 W9 Pre Post PostX)
    {g : JFrame} (hg : g.method = m) (hsize : g.locals.size = c.maxLocals) {a : Addr} {argsL rest : List Value} (hlen : ∀ sig, parseMethodDescriptor y.desc = some sig → argsL.length = sig.parameters.length)
    (hstack : g.stack = argsL.reverse ++ .ref a :: rest) (hW : 2 * g.monitorRoom + (rest.map fun v => v.category).sum ≤ W9) (hdg : decode c.code g.pc = .ok (.invokespecial index, 3))
    (hpre : ∀ vm₁, s.WarmedH vm₁ → Pre ⟨T.setVm vm₁, locs, cells, slots⟩ (Value.ref a :: argsL).toArray) :
    (∃ (v : Option Value) (vm₁ : Vm) (B : Pt), s.WarmedH vm₁ ∧ Stand p l e R s m args below meth c B.U B.locs B.cells B.slots ∧ Post ⟨T.setVm vm₁, locs, cells, slots⟩ (Value.ref a :: argsL).toArray v B ∧
      ∀ target, Steps p.tables e below (B.U.setTop { g with pc := g.pc + 3, stack := v.toList ++ rest }) target → Steps p.tables e below (T.setTop g) target) ∨
    (∃ (q : Addr) (vm₁ : Vm) (B : Pt), s.WarmedH vm₁ ∧ Stand p l e R s m args below meth c B.U B.locs B.cells B.slots ∧ PostX ⟨T.setVm vm₁, locs, cells, slots⟩ (Value.ref a :: argsL).toArray q B ∧
      Steps p.tables e below (T.setTop g) ((B.U.setTop { g with stack := rest }).pushFrame (.throwing q))) := by
  subst hg
  have hpl : e.platform.magicAccessors = ({} : Platform).magicAccessors := by rw [X.admits.platform]
  obtain ⟨mk, methM, cM, kP, vm₁, hnamed, hmethM, hcodeM, -, hlocalsM, -, hkP, -, hW₁, hstep₁⟩ := Steps.initColdArgs (e := e) X.here hexec X.warmed hpl hown hy1 hy hlink hinst hcode (f := g) rfl hlen hstack hdg
  have X₁ := X.noted hW₁
  rcases hK g.method meth c ⟨T.setVm vm₁, locs, cells, slots⟩ { g with stack := rest } (.invokespecial index) mk (Value.ref a :: argsL).toArray X₁ rfl hsize hdg hW (X₁.named hnamed) (hpre vm₁ X₁.warmed) with ⟨v, B, X', hpost, hsteps⟩ | ⟨q, B, X', hpost, hsteps⟩
  · exact Or.inl ⟨v, vm₁, B, X₁.warmed, X', hpost, fun target h => hstep₁ _ fun acts => by rw [doInvoke_state]; exact hsteps.trans h⟩
  · exact Or.inr ⟨q, vm₁, B, X₁.warmed, X', hpost, hstep₁ _ fun acts => by rw [doInvoke_state]; exact hsteps⟩
end VXIA
section VXIB
variable {p : Program} {l : Launch} {e : Env} {R : Room} {s : State} {m : MethodId} {args : Array Value} {below : List Frame} {meth : Method} {c : Code} {H : Heap} {locs : List Loc} {cells slots : Nat}
variable {y : MethodName} {bytes cc : ByteArray} {maxL nL mc ms n index : Nat} {ret : Option FieldType} {ws : List Cond} {rm : Room} {Pc : Array Value → State → Prop} {Qc : Array Value → State → Outcome → State → Prop} {XC : String → State → State → Prop} {free : Addr → Prop} {Ts : List Cond} {own C : String} {b : Addr} {As rest : List Value} {g : JFrame}
theorem vx_runI (S : CallFix p m c cc nL s args Ts own) (hM : vx_Met l y ws rm Pc Qc XC mc ms free) (cw : CallB R s args own index y bytes maxL none ws rm mc ms n ∧ y.name = "<init>" ∧ (Cond.instanceMethod y).before args s = true) (hp : PreS s H Pc (.ref b :: As))
    (hg : g.method = m) (hn : As.length = n) (hsize : g.locals.size = nL) (hstack : g.stack = As.reverse ++ .ref b :: rest) (hW : 2 * g.monitorRoom + (rest.map fun v => v.category).sum ≤ 8) (hdg : decode cc g.pc = .ok (.invokespecial index, 3)) (hf : cells + mc ≤ R.cells ∧ slots + ms ≤ R.slots) :
    vx_Run p l e R s m args below meth c H locs cells slots mc ms g rest (Qc (Value.ref b :: As).toArray) XC free := by
  have hK : vx_Back l R p e below s args y 3 8 (PreOf R mc ms Pc) (PostOf Qc mc ms free) (vx_Post XC mc ms free) := vx_callBack cw.1 hM hp.1
  obtain ⟨⟨-, -, -, -, -, -, hcode, -, hy, hlen, hl⟩, hy1, hin⟩ := cw
  obtain ⟨hx, hb, hml, ho, -⟩ := S
  have hPc := hp.2
  intro T hT X
  rcases vx_callI X hx (bytes := bytes) (maxL := maxL) ho hy1 hl hin hcode hy hK hg (hsize.trans hml.symm) (a := b) (argsL := As) (rest := rest) (fun sig h => hn.trans (hlen sig h)) hstack hW (by rw [hb]; exact hdg)
    (fun vm₁ hW₁ => ⟨hf.1, hf.2, hPc (T.setVm vm₁) hT hW₁⟩) with ⟨v, vm₁, ⟨U', l2, c2, s2⟩, hW₁, X', ⟨g', mk, t, L, e1, e2, hq, h1, hL, h2, h3⟩, st⟩ | ⟨q, vm₁, ⟨U', l2, c2, s2⟩, hW₁, X', ⟨g', mk, t, L, E, ce, e1, e2, hq, hce, hcv, hcl, h1, hL, h2, h3⟩, st⟩
  · dsimp only [Pt.U, Pt.locs, Pt.cells, Pt.slots] at X' e1 e2 h1 h2 h3 st
    subst h1; subst h2; subst h3
    exact Or.inl ⟨v, (T.setVm vm₁).calling g' mk (Value.ref b :: As).toArray, t, U', L, hT, X', hL, e1, e2, hq, st⟩
  · dsimp only [Pt.U, Pt.locs, Pt.cells, Pt.slots] at X' e1 e2 h1 h2 h3 st hcl
    subst h1; subst h2; subst h3
    exact Or.inr ⟨q, (T.setVm vm₁).calling g' mk (Value.ref b :: As).toArray, t, U', L, E, ce, hT, X', hL, e1, e2, hq, hce, hcv, vx_cls hW₁ hcl, st⟩
end VXIB
/-! ===== END ===== -/
/-! ===== BEGIN a private constructor of a nest mate that throws ===== -/
section VXIC
variable {p : Program} {l : Launch} {e : Env} {R : Room} {s : State} {m : MethodId} {args : Array Value} {below : List Frame} {meth : Method} {c : Code} {T : State} {locs : List Loc} {cells slots : Nat}
theorem vx_callIN (X : Stand p l e R s m args below meth c T locs cells slots) (hexec : p.tables.exec = Jvm.exec) {own : String} {index : Nat} {host : String} {y : MethodName} {bytes : ByteArray} {maxL : Nat}
    (hown : s.vm.findClass own = some m.cls) (hy1 : y.name = "<init>") (hlink : (Cond.methodLinkNest own index y host).before args s = true) (hinst : (Cond.instanceMethod y).before args s = true)
    (hcode : (Cond.code y bytes maxL none).before args s = true) (hy : y.cls ≠ "java/lang/invoke/MethodHandle" ∧ y.cls ≠ "java/lang/invoke/VarHandle")
    {W9 : Nat} {Pre : Pt → Array Value → Prop} {Post : Pt → Array Value → Option Value → Pt → Prop} {PostX : Pt → Array Value → Addr → Pt → Prop} (hK : vx_Back l R p e below s args y 3 W9 Pre Post PostX)
    {g : JFrame} (hg : g.method = m) (hsize : g.locals.size = c.maxLocals) {a : Addr} {argsL rest : List Value} (hlen : ∀ sig, parseMethodDescriptor y.desc = some sig → argsL.length = sig.parameters.length)
    (hstack : g.stack = argsL.reverse ++ .ref a :: rest) (hW : 2 * g.monitorRoom + (rest.map fun v => v.category).sum ≤ W9) (hdg : decode c.code g.pc = .ok (.invokespecial index, 3))
    (hpre : ∀ vm₁, s.WarmedH vm₁ → Pre ⟨T.setVm vm₁, locs, cells, slots⟩ (Value.ref a :: argsL).toArray) :
    (∃ (v : Option Value) (vm₁ : Vm) (B : Pt), s.WarmedH vm₁ ∧ Stand p l e R s m args below meth c B.U B.locs B.cells B.slots ∧ Post ⟨T.setVm vm₁, locs, cells, slots⟩ (Value.ref a :: argsL).toArray v B ∧
      ∀ target, Steps p.tables e below (B.U.setTop { g with pc := g.pc + 3, stack := v.toList ++ rest }) target → Steps p.tables e below (T.setTop g) target) ∨
    (∃ (q : Addr) (vm₁ : Vm) (B : Pt), s.WarmedH vm₁ ∧ Stand p l e R s m args below meth c B.U B.locs B.cells B.slots ∧ PostX ⟨T.setVm vm₁, locs, cells, slots⟩ (Value.ref a :: argsL).toArray q B ∧
      Steps p.tables e below (T.setTop g) ((B.U.setTop { g with stack := rest }).pushFrame (.throwing q))) := by
  subst hg
  have hpl : e.platform.magicAccessors = ({} : Platform).magicAccessors := by rw [X.admits.platform]
  obtain ⟨mk, methM, cM, kP, vm₁, hnamed, hmethM, hcodeM, -, hlocalsM, -, hkP, -, hW₁, hstep₁⟩ := Steps.initColdArgsNest (e := e) X.here hexec X.warmed hpl hown hy1 hy hlink hinst hcode (f := g) rfl hlen hstack hdg
  have X₁ := X.noted hW₁
  rcases hK g.method meth c ⟨T.setVm vm₁, locs, cells, slots⟩ { g with stack := rest } (.invokespecial index) mk (Value.ref a :: argsL).toArray X₁ rfl hsize hdg hW (X₁.named hnamed) (hpre vm₁ X₁.warmed) with ⟨v, B, X', hpost, hsteps⟩ | ⟨q, B, X', hpost, hsteps⟩
  · exact Or.inl ⟨v, vm₁, B, X₁.warmed, X', hpost, fun target h => hstep₁ _ fun acts => by rw [doInvoke_state]; exact hsteps.trans h⟩
  · exact Or.inr ⟨q, vm₁, B, X₁.warmed, X', hpost, hstep₁ _ fun acts => by rw [doInvoke_state]; exact hsteps⟩
end VXIC
section VXID
variable {p : Program} {l : Launch} {e : Env} {R : Room} {s : State} {m : MethodId} {args : Array Value} {below : List Frame} {meth : Method} {c : Code} {H : Heap} {locs : List Loc} {cells slots : Nat}
theorem vx_runIN {y : MethodName} {bytes cc : ByteArray} {maxL nL mc ms n index : Nat} {ws : List Cond} {rm : Room} {Pc : Array Value → State → Prop} {Qc : Array Value → State → Outcome → State → Prop} {XC : String → State → State → Prop} {free : Addr → Prop} {Ts : List Cond} {own host : String} {b : Addr} {As rest : List Value} {g : JFrame}
    (S : CallFix p m c cc nL s args Ts own) (hM : vx_Met l y ws rm Pc Qc XC mc ms free) (cw : va_CN R s args own index y host bytes maxL none ws rm mc ms n ∧ y.name = "<init>" ∧ (Cond.instanceMethod y).before args s = true) (hp : PreS s H Pc (.ref b :: As))
    (hg : g.method = m) (hn : As.length = n) (hsize : g.locals.size = nL) (hstack : g.stack = As.reverse ++ .ref b :: rest) (hW : 2 * g.monitorRoom + (rest.map fun v => v.category).sum ≤ 8) (hdg : decode cc g.pc = .ok (.invokespecial index, 3)) (hf : cells + mc ≤ R.cells ∧ slots + ms ≤ R.slots) :
    vx_Run p l e R s m args below meth c H locs cells slots mc ms g rest (Qc (Value.ref b :: As).toArray) XC free := by
  obtain ⟨⟨⟨hrc, hrs, hfr, hlo, hws, hcw⟩, hcode, hini, hy, hlen, hl⟩, hx1, hx2⟩ := cw
  have hK : vx_Back l R p e below s args y 3 8 (PreOf R mc ms Pc) (PostOf Qc mc ms free) (vx_Post XC mc ms free) := vx_back (bytes := bytes) (maxL := maxL) (ret := none) hM hp.1 hrc hrs hfr hlo hws hcw (fun a' U hW => word_at hW (Or.inl (by first | rfl | simp [Cond.onTables, Cond.keeps, Cond.steady])) hini)
  obtain ⟨hx, hb, hml, ho, -⟩ := S
  have hPc := hp.2
  intro T hT X
  rcases vx_callIN X hx (bytes := bytes) (maxL := maxL) ho hx1 hl hx2 hcode hy hK hg (hsize.trans hml.symm) (a := b) (argsL := As) (rest := rest) (fun sig h => hn.trans (hlen sig h)) hstack hW (by rw [hb]; exact hdg)
    (fun vm₁ hW₁ => ⟨hf.1, hf.2, hPc (T.setVm vm₁) hT hW₁⟩) with ⟨v, vm₁, ⟨U', l2, c2, s2⟩, hW₁, X', ⟨g', mk, t, L, e1, e2, hq, h1, hL, h2, h3⟩, st⟩ | ⟨q, vm₁, ⟨U', l2, c2, s2⟩, hW₁, X', ⟨g', mk, t, L, E, ce, e1, e2, hq, hce, hcv, hcl, h1, hL, h2, h3⟩, st⟩
  · dsimp only [Pt.U, Pt.locs, Pt.cells, Pt.slots] at X' e1 e2 h1 h2 h3 st
    subst h1; subst h2; subst h3
    exact Or.inl ⟨v, (T.setVm vm₁).calling g' mk (Value.ref b :: As).toArray, t, U', L, hT, X', hL, e1, e2, hq, st⟩
  · dsimp only [Pt.U, Pt.locs, Pt.cells, Pt.slots] at X' e1 e2 h1 h2 h3 st hcl
    subst h1; subst h2; subst h3
    exact Or.inr ⟨q, (T.setVm vm₁).calling g' mk (Value.ref b :: As).toArray, t, U', L, E, ce, hT, X', hL, e1, e2, hq, hce, hcv, vx_cls hW₁ hcl, st⟩
end VXID
/-! ===== END ===== -/
/-! ===== BEGIN a method of a class above, found by the receiver, that may throw (follows va_callVU, va_runU of this kit) ===== -/
section
variable {p : Program} {l : Launch} {e : Env} {R : Room} {s : State} {m : MethodId} {args : Array Value} {below : List Frame} {meth : Method} {c : Code} {H : Heap} {locs : List Loc} {cells slots : Nat}
theorem vx_callVU {T : State} {locs : List Loc} {cells slots : Nat} (X : Stand p l e R s m args below meth c T locs cells slots) (hexec : p.tables.exec = Jvm.exec) {own C owner : String} {index : Nat} {x y : MethodName} {bytes : ByteArray} {maxL : Nat} {ret : Option FieldType}
    (hown : s.vm.findClass own = some m.cls) (hlink : (Cond.methodLink own index x).before args s = true) (hsame : (Cond.sameMethod x.cls owner x.name x.desc).before args s = true)
    (hd0 : va_Decl s ⟨owner, x.name, x.desc⟩) (howner : owner ≠ "java/lang/invoke/MethodHandle" ∧ owner ≠ "java/lang/invoke/VarHandle")
    (hsel : (Cond.selects C x y).before args s = true) (hinst : (Cond.instanceMethod y).before args s = true) (hcode : (Cond.code y bytes maxL ret).before args s = true)
    {W : Nat} {Pre : Pt → Array Value → Prop} {Post : Pt → Array Value → Option Value → Pt → Prop} {PostX : Pt → Array Value → Addr → Pt → Prop} (hK : vx_Back l R p e below s args y 3 W Pre Post PostX)
    {b : Addr} {cellB : Cell} (hcell : T.heap[b]? = some cellB) (hobj : cellB.vm.isStatics = false) (hcls : s.vm.findClass C = some cellB.cls)
    {g : JFrame} (hg : g.method = m) (hsize : g.locals.size = c.maxLocals) {argsL rest : List Value} (hlen : ∀ sig, parseMethodDescriptor x.desc = some sig → argsL.length = sig.parameters.length)
    (hstack : g.stack = argsL.reverse ++ .ref b :: rest) (hW : 2 * g.monitorRoom + (rest.map fun v => v.category).sum ≤ W) (hdg : decode c.code g.pc = .ok (.invokevirtual index, 3))
    (hpre : ∀ vm₁, s.WarmedH vm₁ → Pre ⟨T.setVm vm₁, locs, cells, slots⟩ (Value.ref b :: argsL).toArray) :
    (∃ (v : Option Value) (vm₁ : Vm) (B : Pt), s.WarmedH vm₁ ∧ Stand p l e R s m args below meth c B.U B.locs B.cells B.slots ∧ Post ⟨T.setVm vm₁, locs, cells, slots⟩ (Value.ref b :: argsL).toArray v B ∧
      ∀ target, Steps p.tables e below (B.U.setTop { g with pc := g.pc + 3, stack := v.toList ++ rest }) target → Steps p.tables e below (T.setTop g) target) ∨
    (∃ (q : Addr) (vm₁ : Vm) (B : Pt), s.WarmedH vm₁ ∧ Stand p l e R s m args below meth c B.U B.locs B.cells B.slots ∧ PostX ⟨T.setVm vm₁, locs, cells, slots⟩ (Value.ref b :: argsL).toArray q B ∧
      Steps p.tables e below (T.setTop g) ((B.U.setTop { g with stack := rest }).pushFrame (.throwing q))) := by
  obtain ⟨r0, r, hn, hrm, hstR, hsigR⟩ := hd0
  obtain ⟨cn, ck, r1, hcn, hck, hni, hf, hn1⟩ := Cond.sameMethod_found hsame
  cases hn.symm.trans hn1
  obtain ⟨mk, methM, hnamed, hmethM, -, habM⟩ := Cond.instanceMethod_spec hinst
  obtain ⟨c2, r2, m2, q1, q2, q3, q4, kP, hkP, hkPi⟩ := Cond.selects_spec hsel
  cases hcls.symm.trans q1
  cases hf.symm.trans q2
  cases hnamed.symm.trans q3
  have hselP : selectMethod e.platform s.vm cellB.cls r0 = .method mk := by rw [Launch.admits_selectMethod X.admits]; exact q4
  obtain ⟨vm₁, X₁, hstep₁⟩ := X.invokevirtualUp hexec hown hlink hsame howner hn hrm hstR (a := b) (cell := cellB) hcell
    (fun z h => by rw [h] at hobj; cases hobj) hselP hmethM habM hkP hkPi (g := g) hg (argsL := argsL) (rest := rest) (hlen _ hsigR) hstack hdg
  rcases hK m meth c ⟨T.setVm vm₁, locs, cells, slots⟩ { g with stack := rest } (.invokevirtual index) mk (Value.ref b :: argsL).toArray X₁ hg hsize hdg hW (X₁.named hnamed) (hpre vm₁ X₁.warmed) with ⟨v, B, X', hpost, hsteps⟩ | ⟨q, B, X', hpost, hsteps⟩
  · exact Or.inl ⟨v, vm₁, B, X₁.warmed, X', hpost, fun target h => hstep₁ _ fun acts => by rw [doInvoke_state]; exact hsteps.trans h⟩
  · exact Or.inr ⟨q, vm₁, B, X₁.warmed, X', hpost, hstep₁ _ fun acts => by rw [doInvoke_state]; exact hsteps⟩
theorem vx_runU {x y : MethodName} {bytes cc : ByteArray} {maxL nL mc ms n index : Nat} {ret : Option FieldType} {ws : List Cond} {rm : Room} {Pc : Array Value → State → Prop} {Qc : Array Value → State → Outcome → State → Prop} {XC : String → State → State → Prop} {free : Addr → Prop} {Ts : List Cond} {own C owner : String} {b : Addr} {As rest : List Value} {g : JFrame}
    (S : CallFix p m c cc nL s args Ts own) (hM : vx_Met l y ws rm Pc Qc XC mc ms free) (cw : va_CU R s args own C owner index x y bytes maxL ret ws rm mc ms n) (hp : PreV s H C b Pc As)
    (hg : g.method = m) (hn : As.length = n) (hsize : g.locals.size = nL) (hstack : g.stack = As.reverse ++ .ref b :: rest) (hW : 2 * g.monitorRoom + (rest.map fun v => v.category).sum ≤ 8) (hdg : decode cc g.pc = .ok (.invokevirtual index, 3)) (hf : cells + mc ≤ R.cells ∧ slots + ms ≤ R.slots) :
    vx_Run p l e R s m args below meth c H locs cells slots mc ms g rest (Qc (Value.ref b :: As).toArray) XC free := by
  obtain ⟨hrc, hrs, hfr, hlo, hws, hcw⟩ := cw.back
  have hini := cw.init
  have hK : vx_Back l R p e below s args y 3 8 (PreOf R mc ms Pc) (PostOf Qc mc ms free) (vx_Post XC mc ms free) := vx_back (bytes := bytes) (maxL := maxL) (ret := ret) hM hp.1 hrc hrs hfr hlo hws hcw (fun a' U hW => word_at hW (Or.inl (by first | rfl | simp [Cond.onTables, Cond.keeps, Cond.steady])) hini)
  obtain ⟨hx, hb, hml, ho, -⟩ := S
  obtain ⟨-, ⟨cellB, hcB, hoB, hclB⟩, hPc⟩ := hp
  intro T hT X
  rcases vx_callVU X hx (C := C) (owner := owner) (bytes := bytes) (maxL := maxL) (ret := ret) ho cw.link cw.same cw.decl cw.notMH cw.sel cw.inst cw.code hK (by rw [hT]; exact hcB) hoB hclB hg (hsize.trans hml.symm) (argsL := As) (rest := rest) (fun sig h => hn.trans (cw.len sig h)) hstack hW (by rw [hb]; exact hdg)
    (fun vm₁ hW₁ => ⟨hf.1, hf.2, hPc (T.setVm vm₁) hT hW₁⟩) with ⟨v, vm₁, ⟨U', l2, c2, s2⟩, hW₁, X', ⟨g', mk, t, L, e1, e2, hq, h1, hL, h2, h3⟩, st⟩ | ⟨q, vm₁, ⟨U', l2, c2, s2⟩, hW₁, X', ⟨g', mk, t, L, E, ce, e1, e2, hq, hce, hcv, hcl, h1, hL, h2, h3⟩, st⟩
  · dsimp only [Pt.U, Pt.locs, Pt.cells, Pt.slots] at X' e1 e2 h1 h2 h3 st
    subst h1; subst h2; subst h3
    exact Or.inl ⟨v, (T.setVm vm₁).calling g' mk (Value.ref b :: As).toArray, t, U', L, hT, X', hL, e1, e2, hq, st⟩
  · dsimp only [Pt.U, Pt.locs, Pt.cells, Pt.slots] at X' e1 e2 h1 h2 h3 st hcl
    subst h1; subst h2; subst h3
    exact Or.inr ⟨q, (T.setVm vm₁).calling g' mk (Value.ref b :: As).toArray, t, U', L, E, ce, hT, X', hL, e1, e2, hq, hce, hcv, vx_cls hW₁ hcl, st⟩
end
/-! ===== END ===== -/
/-! ===== BEGIN super.m(..) that may throw (follows va_callSU, va_runSU) ===== -/
section
variable {p : Program} {l : Launch} {e : Env} {R : Room} {s : State} {m : MethodId} {args : Array Value} {below : List Frame} {meth : Method} {c : Code} {H : Heap} {locs : List Loc} {cells slots : Nat}
theorem vx_callSU {T : State} {locs : List Loc} {cells slots : Nat} (X : Stand p l e R s m args below meth c T locs cells slots) (hexec : p.tables.exec = Jvm.exec) {own : String} {index : Nat} {y : MethodName} {bytes : ByteArray} {maxL : Nat} {ret : Option FieldType}
    (hown : s.vm.findClass own = some m.cls) (hlink : (Cond.methodLink own index y).before args s = true) (hsame : (Cond.sameMethod y.cls y.cls y.name y.desc).before args s = true) (hsup : (Cond.superclass own y.cls).before args s = true)
    (hinst : (Cond.instanceMethod y).before args s = true) (hcode : (Cond.code y bytes maxL ret).before args s = true) (hno : y.name ≠ "<init>")
    {W : Nat} {Pre : Pt → Array Value → Prop} {Post : Pt → Array Value → Option Value → Pt → Prop} {PostX : Pt → Array Value → Addr → Pt → Prop} (hK : vx_Back l R p e below s args y 3 W Pre Post PostX)
    {b : Addr} {cellB : Cell} {kB : Class} (hcell : T.heap[b]? = some cellB) (hobj : cellB.vm.isStatics = false) (hkB : s.vm.classes[cellB.cls]? = some kB)
    {g : JFrame} (hg : g.method = m) (hsize : g.locals.size = c.maxLocals) {argsL rest : List Value} (hlen : ∀ sig, parseMethodDescriptor y.desc = some sig → argsL.length = sig.parameters.length)
    (hstack : g.stack = argsL.reverse ++ .ref b :: rest) (hW : 2 * g.monitorRoom + (rest.map fun v => v.category).sum ≤ W) (hdg : decode c.code g.pc = .ok (.invokespecial index, 3))
    (hpre : ∀ vm₁, s.WarmedH vm₁ → Pre ⟨T.setVm vm₁, locs, cells, slots⟩ (Value.ref b :: argsL).toArray) :
    (∃ (v : Option Value) (vm₁ : Vm) (B : Pt), s.WarmedH vm₁ ∧ Stand p l e R s m args below meth c B.U B.locs B.cells B.slots ∧ Post ⟨T.setVm vm₁, locs, cells, slots⟩ (Value.ref b :: argsL).toArray v B ∧
      ∀ target, Steps p.tables e below (B.U.setTop { g with pc := g.pc + 3, stack := v.toList ++ rest }) target → Steps p.tables e below (T.setTop g) target) ∨
    (∃ (q : Addr) (vm₁ : Vm) (B : Pt), s.WarmedH vm₁ ∧ Stand p l e R s m args below meth c B.U B.locs B.cells B.slots ∧ PostX ⟨T.setVm vm₁, locs, cells, slots⟩ (Value.ref b :: argsL).toArray q B ∧
      Steps p.tables e below (T.setTop g) ((B.U.setTop { g with stack := rest }).pushFrame (.throwing q))) := by
  obtain ⟨mk, methM, hnamed, hmethM, hstM, habM⟩ := Cond.instanceMethod_spec hinst
  obtain ⟨methM', cM, hmethM', -, -, -, -, -, -, hsigM⟩ := Cond.code_spec hnamed hcode
  cases hmethM.symm.trans hmethM'
  obtain ⟨ps, dk, kp, hps, hdk, hkp, hsuper, -, -, hnid⟩ := Cond.superclass_spec hown hsup
  have hn : s.methodNamed? ⟨y.cls, y.name, y.desc⟩ = some mk := hnamed
  have hpm : ps = mk.cls := Option.some.inj (hps.symm.trans (findClass_of_methodNamed hnamed))
  have hsub : s.vm.isSubclass ps mk.cls = true := by rw [hpm]; simp [Vm.isSubclass, Vm.isSubclassAux]
  obtain ⟨vm₁, X₁, hstep₁⟩ := X.invokespecialUp hexec hown hlink hsame hn hmethM hstM habM hno hdk hnid hps hsuper hsub (a := b) (cell := cellB) hcell
    (fun z h => by rw [h] at hobj; cases hobj) hkB (g := g) hg (argsL := argsL) (rest := rest) (hlen _ hsigM) hstack hdg
  rcases hK m meth c ⟨T.setVm vm₁, locs, cells, slots⟩ { g with stack := rest } (.invokespecial index) mk (Value.ref b :: argsL).toArray X₁ hg hsize hdg hW (X₁.named hnamed) (hpre vm₁ X₁.warmed) with ⟨v, B, X', hpost, hsteps⟩ | ⟨q, B, X', hpost, hsteps⟩
  · exact Or.inl ⟨v, vm₁, B, X₁.warmed, X', hpost, fun target h => hstep₁ _ (by rw [doInvoke_state]; exact hsteps.trans h)⟩
  · exact Or.inr ⟨q, vm₁, B, X₁.warmed, X', hpost, hstep₁ _ (by rw [doInvoke_state]; exact hsteps)⟩
theorem vx_runSU {y : MethodName} {bytes cc : ByteArray} {maxL nL mc ms n index : Nat} {ret : Option FieldType} {ws : List Cond} {rm : Room} {Pc : Array Value → State → Prop} {Qc : Array Value → State → Outcome → State → Prop} {XC : String → State → State → Prop} {free : Addr → Prop} {Ts : List Cond} {own C : String} {cC : ClassId} {b : Addr} {As rest : List Value} {g : JFrame}
    (hat : ClassAt s C cC) (S : CallFix p m c cc nL s args Ts own) (hM : vx_Met l y ws rm Pc Qc XC mc ms free) (cw : va_CS R s args own index y bytes maxL ret ws rm mc ms n) (hp : PreV s H C b Pc As)
    (hg : g.method = m) (hn : As.length = n) (hsize : g.locals.size = nL) (hstack : g.stack = As.reverse ++ .ref b :: rest) (hW : 2 * g.monitorRoom + (rest.map fun v => v.category).sum ≤ 8) (hdg : decode cc g.pc = .ok (.invokespecial index, 3)) (hf : cells + mc ≤ R.cells ∧ slots + ms ≤ R.slots) :
    vx_Run p l e R s m args below meth c H locs cells slots mc ms g rest (Qc (Value.ref b :: As).toArray) XC free := by
  obtain ⟨⟨hrc, hrs, hfr, hlo, hws, hcw⟩, hl1, hl2, hl3, hl4, hini, hcode, hno, hlen⟩ := cw
  have hK : vx_Back l R p e below s args y 3 8 (PreOf R mc ms Pc) (PostOf Qc mc ms free) (vx_Post XC mc ms free) := vx_back (bytes := bytes) (maxL := maxL) (ret := ret) hM hp.1 hrc hrs hfr hlo hws hcw (fun a' U hW => word_at hW (Or.inl (by first | rfl | simp [Cond.onTables, Cond.keeps, Cond.steady])) hini)
  obtain ⟨hx, hb, hml, ho, -⟩ := S
  obtain ⟨-, ⟨cellB, hcB, hoB, hclB⟩, hPc⟩ := hp
  obtain ⟨hfc, kB, hkB, -⟩ := hat
  cases hfc.symm.trans hclB
  intro T hT X
  rcases vx_callSU X hx (bytes := bytes) (maxL := maxL) (ret := ret) ho hl1 hl2 hl3 hl4 hcode hno hK (by rw [hT]; exact hcB) hoB hkB hg (hsize.trans hml.symm) (argsL := As) (rest := rest) (fun sig h => hn.trans (hlen sig h)) hstack hW (by rw [hb]; exact hdg)
    (fun vm₁ hW₁ => ⟨hf.1, hf.2, hPc (T.setVm vm₁) hT hW₁⟩) with ⟨v, vm₁, ⟨U', l2, c2, s2⟩, hW₁, X', ⟨g', mk, t, L, e1, e2, hq, h1, hL, h2, h3⟩, st⟩ | ⟨q, vm₁, ⟨U', l2, c2, s2⟩, hW₁, X', ⟨g', mk, t, L, E, ce, e1, e2, hq, hce, hcv, hcl, h1, hL, h2, h3⟩, st⟩
  · dsimp only [Pt.U, Pt.locs, Pt.cells, Pt.slots] at X' e1 e2 h1 h2 h3 st
    subst h1; subst h2; subst h3
    exact Or.inl ⟨v, (T.setVm vm₁).calling g' mk (Value.ref b :: As).toArray, t, U', L, hT, X', hL, e1, e2, hq, st⟩
  · dsimp only [Pt.U, Pt.locs, Pt.cells, Pt.slots] at X' e1 e2 h1 h2 h3 st hcl
    subst h1; subst h2; subst h3
    exact Or.inr ⟨q, (T.setVm vm₁).calling g' mk (Value.ref b :: As).toArray, t, U', L, E, ce, hT, X', hL, e1, e2, hq, hce, hcv, vx_cls hW₁ hcl, st⟩
end
/-! ===== END ===== -/
/-! ===== BEGIN a private method of a nest mate that may throw (follows va_callVN, va_callSN, va_runVN, va_runSN) ===== -/
section
variable {p : Program} {l : Launch} {e : Env} {R : Room} {s : State} {m : MethodId} {args : Array Value} {below : List Frame} {meth : Method} {c : Code} {H : Heap} {locs : List Loc} {cells slots : Nat}
variable {T : State}
theorem vx_callVN (X : Stand p l e R s m args below meth c T locs cells slots) (hexec : p.tables.exec = Jvm.exec) {own C : String} {index : Nat} {host : String} {y : MethodName} {bytes : ByteArray} {maxL : Nat} {ret : Option FieldType}
    (hown : s.vm.findClass own = some m.cls) (hlink : (Cond.methodLinkNest own index y host).before args s = true) (hinst : (Cond.instanceMethod y).before args s = true) (hsel : (Cond.selects C y y).before args s = true)
    (hcode : (Cond.code y bytes maxL ret).before args s = true) (hy : y.cls ≠ "java/lang/invoke/MethodHandle" ∧ y.cls ≠ "java/lang/invoke/VarHandle")
    {W : Nat} {Pre : Pt → Array Value → Prop} {Post : Pt → Array Value → Option Value → Pt → Prop} {PostX : Pt → Array Value → Addr → Pt → Prop} (hK : vx_Back l R p e below s args y 3 W Pre Post PostX)
    {b : Addr} {cellB : Cell} (hcell : T.heap[b]? = some cellB) (hobj : cellB.vm.isStatics = false) (hcls : s.vm.findClass C = some cellB.cls)
    {g : JFrame} (hg : g.method = m) (hsize : g.locals.size = c.maxLocals) {argsL rest : List Value} (hlen : ∀ sig, parseMethodDescriptor y.desc = some sig → argsL.length = sig.parameters.length)
    (hstack : g.stack = argsL.reverse ++ .ref b :: rest) (hW : 2 * g.monitorRoom + (rest.map fun v => v.category).sum ≤ W) (hdg : decode c.code g.pc = .ok (.invokevirtual index, 3))
    (hpre : ∀ vm₁, s.WarmedH vm₁ → Pre ⟨T.setVm vm₁, locs, cells, slots⟩ (Value.ref b :: argsL).toArray) :
    (∃ (v : Option Value) (vm₁ : Vm) (B : Pt), s.WarmedH vm₁ ∧ Stand p l e R s m args below meth c B.U B.locs B.cells B.slots ∧ Post ⟨T.setVm vm₁, locs, cells, slots⟩ (Value.ref b :: argsL).toArray v B ∧
      ∀ target, Steps p.tables e below (B.U.setTop { g with pc := g.pc + 3, stack := v.toList ++ rest }) target → Steps p.tables e below (T.setTop g) target) ∨
    (∃ (q : Addr) (vm₁ : Vm) (B : Pt), s.WarmedH vm₁ ∧ Stand p l e R s m args below meth c B.U B.locs B.cells B.slots ∧ PostX ⟨T.setVm vm₁, locs, cells, slots⟩ (Value.ref b :: argsL).toArray q B ∧
      Steps p.tables e below (T.setTop g) ((B.U.setTop { g with stack := rest }).pushFrame (.throwing q))) := by
  obtain ⟨mk, methM, hnamed, hmethM, hstM, habM⟩ := Cond.instanceMethod_spec hinst
  obtain ⟨methM', cM, hmethM', -, -, -, -, -, -, hsigM⟩ := Cond.code_spec hnamed hcode
  cases hmethM.symm.trans hmethM'
  obtain ⟨c2, r2, m2, q1, q2, q3, q4, kP, hkP, hkPi⟩ := Cond.selects_spec hsel
  cases hcls.symm.trans q1
  cases (State.methodFound?_of_named hnamed hy).symm.trans q2
  cases hnamed.symm.trans q3
  have hselP : selectMethod e.platform s.vm cellB.cls mk = .method mk := by rw [Launch.admits_selectMethod X.admits]; exact q4
  obtain ⟨vm₁, X₁, hstep₁⟩ := X.invokevirtualNest hexec hown hlink hnamed hmethM hstM hkP hkPi hy (a := b) (cell := cellB) hcell
    (fun z h => by rw [h] at hobj; cases hobj) hselP hmethM habM hkP hkPi (g := g) hg (argsL := argsL) (rest := rest) (hlen _ hsigM) hstack hdg
  rcases hK m meth c ⟨T.setVm vm₁, locs, cells, slots⟩ { g with stack := rest } (.invokevirtual index) mk (Value.ref b :: argsL).toArray X₁ hg hsize hdg hW (X₁.named hnamed) (hpre vm₁ X₁.warmed) with ⟨v, B, X', hpost, hsteps⟩ | ⟨q, B, X', hpost, hsteps⟩
  · exact Or.inl ⟨v, vm₁, B, X₁.warmed, X', hpost, fun target h => hstep₁ _ fun acts => by rw [doInvoke_state]; exact hsteps.trans h⟩
  · exact Or.inr ⟨q, vm₁, B, X₁.warmed, X', hpost, hstep₁ _ fun acts => by rw [doInvoke_state]; exact hsteps⟩
theorem vx_callSN (X : Stand p l e R s m args below meth c T locs cells slots) (hexec : p.tables.exec = Jvm.exec) {own : String} {index : Nat} {host : String} {y : MethodName} {bytes : ByteArray} {maxL : Nat} {ret : Option FieldType}
    (hown : s.vm.findClass own = some m.cls) (hlink : (Cond.methodLinkNest own index y host).before args s = true) (hstat : (Cond.static y).before args s = true) (hinit : (Cond.initialized y.cls).before args s = true)
    (hcode : (Cond.code y bytes maxL ret).before args s = true) (hy : y.cls ≠ "java/lang/invoke/MethodHandle" ∧ y.cls ≠ "java/lang/invoke/VarHandle")
    {W : Nat} {Pre : Pt → Array Value → Prop} {Post : Pt → Array Value → Option Value → Pt → Prop} {PostX : Pt → Array Value → Addr → Pt → Prop} (hK : vx_Back l R p e below s args y 3 W Pre Post PostX)
    {g : JFrame} (hg : g.method = m) (hsize : g.locals.size = c.maxLocals) {argsL rest : List Value} (hlen : ∀ sig, parseMethodDescriptor y.desc = some sig → argsL.length = sig.parameters.length)
    (hstack : g.stack = argsL.reverse ++ rest) (hW : 2 * g.monitorRoom + (rest.map fun v => v.category).sum ≤ W) (hdg : decode c.code g.pc = .ok (.invokestatic index, 3))
    (hpre : ∀ vm₁, s.WarmedH vm₁ → Pre ⟨T.setVm vm₁, locs, cells, slots⟩ argsL.toArray) :
    (∃ (v : Option Value) (vm₁ : Vm) (B : Pt), s.WarmedH vm₁ ∧ Stand p l e R s m args below meth c B.U B.locs B.cells B.slots ∧ Post ⟨T.setVm vm₁, locs, cells, slots⟩ argsL.toArray v B ∧
      ∀ target, Steps p.tables e below (B.U.setTop { g with pc := g.pc + 3, stack := v.toList ++ rest }) target → Steps p.tables e below (T.setTop g) target) ∨
    (∃ (q : Addr) (vm₁ : Vm) (B : Pt), s.WarmedH vm₁ ∧ Stand p l e R s m args below meth c B.U B.locs B.cells B.slots ∧ PostX ⟨T.setVm vm₁, locs, cells, slots⟩ argsL.toArray q B ∧
      Steps p.tables e below (T.setTop g) ((B.U.setTop { g with stack := rest }).pushFrame (.throwing q))) := by
  obtain ⟨mk, hnamed⟩ := Cond.code_named hcode
  obtain ⟨methM, cM, hmethM, -, -, -, -, -, -, hsigM⟩ := Cond.code_spec hnamed hcode
  have hstatic : methM.isStatic = true := Cond.static_spec hnamed hmethM hstat
  obtain ⟨kP, hkP, -⟩ := className_of_methodNamed hnamed
  have hinitP : kP.init = .initialized := Cond.initialized_spec (findClass_of_methodNamed hnamed) hkP hinit
  obtain ⟨vm₁, X₁, hstep₁⟩ := X.invokestaticNest hexec hown hlink hnamed hmethM hstatic hkP hinitP hy (g := g) hg (argsL := argsL) (rest := rest) (hlen _ hsigM) hstack hdg
  rcases hK m meth c ⟨T.setVm vm₁, locs, cells, slots⟩ { g with stack := rest } (.invokestatic index) mk argsL.toArray X₁ hg hsize hdg hW (X₁.named hnamed) (hpre vm₁ X₁.warmed) with ⟨v, B, X', hpost, hsteps⟩ | ⟨q, B, X', hpost, hsteps⟩
  · exact Or.inl ⟨v, vm₁, B, X₁.warmed, X', hpost, fun target h => hstep₁ _ fun acts => by rw [doInvoke_state]; exact hsteps.trans h⟩
  · exact Or.inr ⟨q, vm₁, B, X₁.warmed, X', hpost, hstep₁ _ fun acts => by rw [doInvoke_state]; exact hsteps⟩
theorem vx_runVN {y : MethodName} {bytes cc : ByteArray} {maxL nL mc ms n index : Nat} {ret : Option FieldType} {ws : List Cond} {rm : Room} {Pc : Array Value → State → Prop} {Qc : Array Value → State → Outcome → State → Prop} {XC : String → State → State → Prop} {free : Addr → Prop} {Ts : List Cond} {own C host : String} {b : Addr} {As rest : List Value} {g : JFrame}
    (S : CallFix p m c cc nL s args Ts own) (hM : vx_Met l y ws rm Pc Qc XC mc ms free) (cw : va_CN R s args own index y host bytes maxL ret ws rm mc ms n ∧ (Cond.instanceMethod y).before args s = true ∧ (Cond.selects C y y).before args s = true) (hp : PreV s H C b Pc As)
    (hg : g.method = m) (hn : As.length = n) (hsize : g.locals.size = nL) (hstack : g.stack = As.reverse ++ .ref b :: rest) (hW : 2 * g.monitorRoom + (rest.map fun v => v.category).sum ≤ 8) (hdg : decode cc g.pc = .ok (.invokevirtual index, 3)) (hf : cells + mc ≤ R.cells ∧ slots + ms ≤ R.slots) :
    vx_Run p l e R s m args below meth c H locs cells slots mc ms g rest (Qc (Value.ref b :: As).toArray) XC free := by
  obtain ⟨⟨⟨hrc, hrs, hfr, hlo, hws, hcw⟩, hcode, hini, hy, hlen, hl⟩, hx1, hx2⟩ := cw
  have hK : vx_Back l R p e below s args y 3 8 (PreOf R mc ms Pc) (PostOf Qc mc ms free) (vx_Post XC mc ms free) := vx_back (bytes := bytes) (maxL := maxL) (ret := ret) hM hp.1 hrc hrs hfr hlo hws hcw (fun a' U hW => word_at hW (Or.inl (by first | rfl | simp [Cond.onTables, Cond.keeps, Cond.steady])) hini)
  obtain ⟨hx, hb, hml, ho, -⟩ := S
  obtain ⟨-, ⟨cellB, hcB, hoB, hclB⟩, hPc⟩ := hp
  intro T hT X
  rcases vx_callVN X hx (C := C) (bytes := bytes) (maxL := maxL) (ret := ret) ho hl hx1 hx2 hcode hy hK (by rw [hT]; exact hcB) hoB hclB hg (hsize.trans hml.symm) (argsL := As) (rest := rest) (fun sig h => hn.trans (hlen sig h)) hstack hW (by rw [hb]; exact hdg)
    (fun vm₁ hW₁ => ⟨hf.1, hf.2, hPc (T.setVm vm₁) hT hW₁⟩) with ⟨v, vm₁, ⟨U', l2, c2, s2⟩, hW₁, X', ⟨g', mk, t, L, e1, e2, hq, h1, hL, h2, h3⟩, st⟩ | ⟨q, vm₁, ⟨U', l2, c2, s2⟩, hW₁, X', ⟨g', mk, t, L, E, ce, e1, e2, hq, hce, hcv, hcl, h1, hL, h2, h3⟩, st⟩
  · dsimp only [Pt.U, Pt.locs, Pt.cells, Pt.slots] at X' e1 e2 h1 h2 h3 st
    subst h1; subst h2; subst h3
    exact Or.inl ⟨v, (T.setVm vm₁).calling g' mk (Value.ref b :: As).toArray, t, U', L, hT, X', hL, e1, e2, hq, st⟩
  · dsimp only [Pt.U, Pt.locs, Pt.cells, Pt.slots] at X' e1 e2 h1 h2 h3 st hcl
    subst h1; subst h2; subst h3
    exact Or.inr ⟨q, (T.setVm vm₁).calling g' mk (Value.ref b :: As).toArray, t, U', L, E, ce, hT, X', hL, e1, e2, hq, hce, hcv, vx_cls hW₁ hcl, st⟩
theorem vx_runSN {y : MethodName} {bytes cc : ByteArray} {maxL nL mc ms n index : Nat} {ret : Option FieldType} {ws : List Cond} {rm : Room} {Pc : Array Value → State → Prop} {Qc : Array Value → State → Outcome → State → Prop} {XC : String → State → State → Prop} {free : Addr → Prop} {Ts : List Cond} {own host : String} {As rest : List Value} {g : JFrame}
    (S : CallFix p m c cc nL s args Ts own) (hM : vx_Met l y ws rm Pc Qc XC mc ms free) (cw : va_CN R s args own index y host bytes maxL ret ws rm mc ms n ∧ (Cond.static y).before args s = true ∧ True) (hp : PreS s H Pc As)
    (hg : g.method = m) (hn : As.length = n) (hsize : g.locals.size = nL) (hstack : g.stack = As.reverse ++ rest) (hW : 2 * g.monitorRoom + (rest.map fun v => v.category).sum ≤ 8) (hdg : decode cc g.pc = .ok (.invokestatic index, 3)) (hf : cells + mc ≤ R.cells ∧ slots + ms ≤ R.slots) :
    vx_Run p l e R s m args below meth c H locs cells slots mc ms g rest (Qc As.toArray) XC free := by
  obtain ⟨⟨⟨hrc, hrs, hfr, hlo, hws, hcw⟩, hcode, hini, hy, hlen, hl⟩, hx1, hx2⟩ := cw
  have hK : vx_Back l R p e below s args y 3 8 (PreOf R mc ms Pc) (PostOf Qc mc ms free) (vx_Post XC mc ms free) := vx_back (bytes := bytes) (maxL := maxL) (ret := ret) hM hp.1 hrc hrs hfr hlo hws hcw (fun a' U hW => word_at hW (Or.inl (by first | rfl | simp [Cond.onTables, Cond.keeps, Cond.steady])) hini)
  obtain ⟨hx, hb, hml, ho, -⟩ := S
  have hPc := hp.2
  intro T hT X
  rcases vx_callSN X hx (bytes := bytes) (maxL := maxL) (ret := ret) ho hl hx1 hini hcode hy hK hg (hsize.trans hml.symm) (argsL := As) (rest := rest) (fun sig h => hn.trans (hlen sig h)) hstack hW (by rw [hb]; exact hdg)
    (fun vm₁ hW₁ => ⟨hf.1, hf.2, hPc (T.setVm vm₁) hT hW₁⟩) with ⟨v, vm₁, ⟨U', l2, c2, s2⟩, hW₁, X', ⟨g', mk, t, L, e1, e2, hq, h1, hL, h2, h3⟩, st⟩ | ⟨q, vm₁, ⟨U', l2, c2, s2⟩, hW₁, X', ⟨g', mk, t, L, E, ce, e1, e2, hq, hce, hcv, hcl, h1, hL, h2, h3⟩, st⟩
  · dsimp only [Pt.U, Pt.locs, Pt.cells, Pt.slots] at X' e1 e2 h1 h2 h3 st
    subst h1; subst h2; subst h3
    exact Or.inl ⟨v, (T.setVm vm₁).calling g' mk As.toArray, t, U', L, hT, X', hL, e1, e2, hq, st⟩
  · dsimp only [Pt.U, Pt.locs, Pt.cells, Pt.slots] at X' e1 e2 h1 h2 h3 st hcl
    subst h1; subst h2; subst h3
    exact Or.inr ⟨q, (T.setVm vm₁).calling g' mk As.toArray, t, U', L, E, ce, hT, X', hL, e1, e2, hq, hce, hcv, vx_cls hW₁ hcl, st⟩
end
/-! ===== END ===== -/
/-! ===== BEGIN calls by an interface of methods that may throw (vx_callIF, vx_runF follow va_callIF, va_runF of this kit) ===== -/
section
variable {p : Program} {l : Launch} {e : Env} {R : Room} {s : State} {m : MethodId} {args : Array Value} {below : List Frame} {meth : Method} {c : Code} {H : Heap} {locs : List Loc} {cells slots : Nat} {Q : State → Prop}
variable {mc ms : Nat} {free : Addr → Prop} {A0 A1 : Nat → Prop} {H0 : Heap} {a : Array Value} {pc : Nat} {ls : Array Slot} {st0 rest : List Value}
def vx_Run5 (p : Program) (l : Launch) (e : Env) (R : Room) (s : State) (m : MethodId) (args : Array Value) (below : List Frame) (meth : Method) (c : Code) (H : Heap) (locs : List Loc) (cells slots mc ms : Nat) (g : JFrame) (rest : List Value) (Qa : State → Outcome → State → Prop) (XC : String → State → State → Prop) (free : Addr → Prop) : Prop :=
  ∀ T : State, T.heap = H → Stand p l e R s m args below meth c T locs cells slots →
    (∃ (v : Option Value) (st₀ t T' : State) (L : List Loc), st₀.heap = H ∧ Stand p l e R s m args below meth c T' (locs ++ L) (cells + mc) (slots + ms) ∧ (∀ q ∈ L, free q.base) ∧ T'.heap = t.heap ∧ T'.vm = t.vm ∧ Qa st₀ (.returned v) t ∧
      Goes p e below T g T' { g with pc := g.pc + 5, stack := v.toList ++ rest }) ∨
    (∃ (q : Addr) (st₀ t T' : State) (L : List Loc) (E : String) (ce : Cell), st₀.heap = H ∧ Stand p l e R s m args below meth c T' (locs ++ L) (cells + mc) (slots + ms) ∧ (∀ z ∈ L, free z.base) ∧ T'.heap = t.heap ∧ T'.vm = t.vm ∧ XC E st₀ t ∧ t.heap[q]? = some ce ∧ ce.vm = .none ∧ s.vm.findClass E = some ce.cls ∧
      Steps p.tables e below (T.setTop g) ((T'.setTop { g with stack := rest }).pushFrame (.throwing q)))
theorem vx_callIF {T : State} (X : Stand p l e R s m args below meth c T locs cells slots) (hexec : p.tables.exec = Jvm.exec) {own C : String} {index count : Nat} {x y : MethodName} {bytes : ByteArray} {maxL : Nat} {ret : Option FieldType}
    (hown : s.vm.findClass own = some m.cls) (hlink : (Cond.methodLink own index x).before args s = true) (hdecl : (Cond.declares x).before args s = true) (hface : (Cond.interfaceMethod x.cls x.cls x.name x.desc).before args s = true)
    (hsel : (Cond.selects C x y).before args s = true) (hinst : (Cond.instanceMethod y).before args s = true) (hpub : (Cond.publicMethod y).before args s = true) (hunh : (Cond.unhidden C x.name x.desc).before args s = true)
    (hcast : (Cond.castable C x.cls).before args s = true) (hcode : (Cond.code y bytes maxL ret).before args s = true) (hx : x.cls ≠ "java/lang/invoke/MethodHandle" ∧ x.cls ≠ "java/lang/invoke/VarHandle")
    {W9 : Nat} {Pre : Pt → Array Value → Prop} {Post : Pt → Array Value → Option Value → Pt → Prop} {PostX : Pt → Array Value → Addr → Pt → Prop} (hK : vx_Back l R p e below s args y 5 W9 Pre Post PostX)
    {b : Addr} {cellB : Cell} {kB : Class} (hcell : T.heap[b]? = some cellB) (hobj : cellB.vm.isStatics = false) (hcls : s.vm.findClass C = some cellB.cls) (hkB : s.vm.classes[cellB.cls]? = some kB)
    {g : JFrame} (hg : g.method = m) (hsize : g.locals.size = c.maxLocals) {argsL rest : List Value} (hlen : ∀ sig, parseMethodDescriptor x.desc = some sig → argsL.length = sig.parameters.length)
    (hstack : g.stack = argsL.reverse ++ .ref b :: rest) (hW : 2 * g.monitorRoom + (rest.map fun v => v.category).sum ≤ W9) (hdg : decode c.code g.pc = .ok (.invokeinterface index count, 5))
    (hpre : ∀ vm₁, s.WarmedH vm₁ → Pre ⟨T.setVm vm₁, locs, cells, slots⟩ (Value.ref b :: argsL).toArray) :
    (∃ (v : Option Value) (vm₁ : Vm) (B : Pt), s.WarmedH vm₁ ∧ Stand p l e R s m args below meth c B.U B.locs B.cells B.slots ∧ Post ⟨T.setVm vm₁, locs, cells, slots⟩ (Value.ref b :: argsL).toArray v B ∧
      ∀ target, Steps p.tables e below (B.U.setTop { g with pc := g.pc + 5, stack := v.toList ++ rest }) target → Steps p.tables e below (T.setTop g) target) ∨
    (∃ (q : Addr) (vm₁ : Vm) (B : Pt), s.WarmedH vm₁ ∧ Stand p l e R s m args below meth c B.U B.locs B.cells B.slots ∧ PostX ⟨T.setVm vm₁, locs, cells, slots⟩ (Value.ref b :: argsL).toArray q B ∧
      Steps p.tables e below (T.setTop g) ((B.U.setTop { g with stack := rest }).pushFrame (.throwing q))) := by
  obtain ⟨r0, r, hn, hrm, hstR, hsigR⟩ := Cond.declares_spec hdecl
  obtain ⟨cL, kL, r1, hcL, hkL, hiL, hfoundL, hn1⟩ := Cond.interfaceMethod_spec hface
  cases hn.symm.trans hn1
  have hr0cls : r0.cls = cL := Option.some.inj ((findClass_of_methodNamed hn).symm.trans hcL)
  obtain ⟨hnameR, hdescR⟩ := name_of_methodNamed hn hrm
  obtain ⟨mk, methM, hnamed, hmethM, -, habM⟩ := Cond.instanceMethod_spec hinst
  obtain ⟨c2, r2, m2, q1, q2, q3, q4, -⟩ := Cond.selects_spec hsel
  cases hcls.symm.trans q1
  cases hfoundL.symm.trans q2
  cases hnamed.symm.trans q3
  have hselP : selectMethod e.platform s.vm cellB.cls r0 = .method mk := by rw [Launch.admits_selectMethod X.admits]; exact q4
  have hpubM : hasFlag methM.accessFlags Acc.public_ = true := Cond.publicMethod_spec hnamed hmethM hpub
  have hway : ((cellB.cls :: s.vm.superclasses cellB.cls).any fun k => (declaredIn s.vm r.name r.desc k).any fun (_, z) => z.isPrivate || z.isStatic) = false := by
    rw [hnameR, hdescR]; exact Cond.unhidden_spec hcls hunh
  obtain ⟨c3, t3, w1, w2, w3⟩ := Cond.castable_spec hcast
  cases hcls.symm.trans w1
  cases hcL.symm.trans w2
  obtain ⟨vm₁, X₁, hstep₁⟩ := X.invokeinterface hexec hown hlink hn hrm hstR (by rw [hr0cls]; exact hkL) hiL hx (a := b) (cell := cellB) (kcell := kB) hcell
    (fun z h => by rw [h] at hobj; cases hobj) hkB (by rw [hr0cls]; exact w3) hselP hmethM hway hpubM habM (g := g) hg (argsL := argsL) (rest := rest) (hlen _ hsigR) hstack hdg
  rcases hK m meth c ⟨T.setVm vm₁, locs, cells, slots⟩ { g with stack := rest } (.invokeinterface index count) mk (Value.ref b :: argsL).toArray X₁ hg hsize hdg hW (X₁.named hnamed) (hpre vm₁ X₁.warmed) with ⟨v, B, X', hpost, hsteps⟩ | ⟨q, B, X', hpost, hsteps⟩
  · exact Or.inl ⟨v, vm₁, B, X₁.warmed, X', hpost, fun target h => hstep₁ _ fun acts => by rw [doInvoke_state]; exact hsteps.trans h⟩
  · exact Or.inr ⟨q, vm₁, B, X₁.warmed, X', hpost, hstep₁ _ fun acts => by rw [doInvoke_state]; exact hsteps⟩
theorem vx_runF {x y : MethodName} {bytes cc : ByteArray} {maxL nL mc ms n index count : Nat} {ret : Option FieldType} {ws : List Cond} {rm : Room} {Pc : Array Value → State → Prop} {Qc : Array Value → State → Outcome → State → Prop} {XC : String → State → State → Prop} {free : Addr → Prop} {Ts : List Cond} {own C : String} {cC : ClassId} {b : Addr} {As rest : List Value} {g : JFrame}
    (hat : ClassAt s C cC) (S : CallFix p m c cc nL s args Ts own) (hM : vx_Met l y ws rm Pc Qc XC mc ms free) (cw : va_CI R s args own C index x y bytes maxL ret ws rm mc ms n) (hp : PreV s H C b Pc As)
    (hg : g.method = m) (hn : As.length = n) (hsize : g.locals.size = nL) (hstack : g.stack = As.reverse ++ .ref b :: rest) (hW : 2 * g.monitorRoom + (rest.map fun v => v.category).sum ≤ 8) (hdg : decode cc g.pc = .ok (.invokeinterface index count, 5)) (hf : cells + mc ≤ R.cells ∧ slots + ms ≤ R.slots) :
    vx_Run5 p l e R s m args below meth c H locs cells slots mc ms g rest (Qc (Value.ref b :: As).toArray) XC free := by
  obtain ⟨hrc, hrs, hfr, hlo, hws, hcw⟩ := cw.back
  have hini := cw.init
  have hK : vx_Back l R p e below s args y 5 8 (PreOf R mc ms Pc) (PostOf Qc mc ms free) (vx_Post XC mc ms free) := vx_back (bytes := bytes) (maxL := maxL) (ret := ret) hM hp.1 hrc hrs hfr hlo hws hcw (fun a' U hW => word_at hW (Or.inl (by first | rfl | simp [Cond.onTables, Cond.keeps, Cond.steady])) hini)
  obtain ⟨hx, hb, hml, ho, -⟩ := S
  obtain ⟨-, ⟨cellB, hcB, hoB, hclB⟩, hPc⟩ := hp
  obtain ⟨hfc, kB, hkB, -⟩ := hat
  cases hfc.symm.trans hclB
  intro T hT X
  rcases vx_callIF X hx (C := C) (bytes := bytes) (maxL := maxL) (ret := ret) ho cw.link cw.decl cw.face cw.sel cw.inst cw.pub cw.unh cw.cast cw.code cw.notMH hK (by rw [hT]; exact hcB) hoB hclB hkB hg (hsize.trans hml.symm) (argsL := As) (rest := rest) (fun sig h => hn.trans (cw.len sig h)) hstack hW (by rw [hb]; exact hdg)
    (fun vm₁ hW₁ => ⟨hf.1, hf.2, hPc (T.setVm vm₁) hT hW₁⟩) with ⟨v, vm₁, ⟨U', l2, c2, s2⟩, hW₁, X', ⟨g', mk, t, L, e1, e2, hq, h1, hL, h2, h3⟩, st⟩ | ⟨q, vm₁, ⟨U', l2, c2, s2⟩, hW₁, X', ⟨g', mk, t, L, E, ce, e1, e2, hq, hce, hcv, hcl, h1, hL, h2, h3⟩, st⟩
  · dsimp only [Pt.U, Pt.locs, Pt.cells, Pt.slots] at X' e1 e2 h1 h2 h3 st
    subst h1; subst h2; subst h3
    exact Or.inl ⟨v, (T.setVm vm₁).calling g' mk (Value.ref b :: As).toArray, t, U', L, hT, X', hL, e1, e2, hq, st⟩
  · dsimp only [Pt.U, Pt.locs, Pt.cells, Pt.slots] at X' e1 e2 h1 h2 h3 st hcl
    subst h1; subst h2; subst h3
    exact Or.inr ⟨q, (T.setVm vm₁).calling g' mk (Value.ref b :: As).toArray, t, U', L, E, ce, hT, X', hL, e1, e2, hq, hce, hcv, vx_cls hW₁ hcl, st⟩
theorem vx_callFv {S SX : Type} {post : S → Prop} {px : SX → Prop} {B : S → State → Prop} {BX : String → SX → State → Prop} {AX : Nat → Prop} (hr : vx_Run5 p l e R s m args below meth c H locs cells slots mc ms (F0 m pc ls st0) rest (va_Qv post B A1 a) (vx_X px BX AX) free) (hS : va_S A0 H0 H locs) (hA : ∀ q, q < H.size → A1 q → A0 q) (hf : ∀ q, free q → A0 q) (hAX : ∀ q, q < H.size → AX q → A0 q)
    (kx : ∀ (E : String) (ce : Cell) (q9 : Addr) (u : SX) (t : State) (H1 : Heap) (locs1 : List Loc), t.heap = H1 → s.vm.Alike t.vm → px u → BX E u t → H.size ≤ H1.size → (∀ q : Nat, q < H.size → ¬ AX q → H1[q]? = H[q]?) → va_S A0 H0 H1 locs1 → H1[q9]? = some ce → ce.vm = .none → s.vm.findClass E = some ce.cls → vx_W p l e R s m args below meth c H1 locs1 (cells + mc) (slots + ms) Q (F0 m pc ls rest) q9)
    (kk : ∀ (u : S) (t : State) (H1 : Heap) (locs1 : List Loc), t.heap = H1 → s.vm.Alike t.vm → post u → B u t → H.size ≤ H1.size → (∀ q : Nat, q < H.size → ¬ A1 q → H1[q]? = H[q]?) → va_S A0 H0 H1 locs1 → W p l e R s m args below meth c H1 locs1 (cells + mc) (slots + ms) Q (F0 m (pc + 5) ls (rest))) : W p l e R s m args below meth c H locs cells slots Q (F0 m pc ls st0) := by
  intro T hT X
  rcases hr T hT X with ⟨v, st₀, t, T', L, h0, X', hL, e1, e2, ⟨⟨u, hv, hp, hb⟩, hF⟩, st⟩ | ⟨q, st₀, t, T', L, E, ce, h0, X', hL, e1, e2, ⟨u, hp, hb, hF⟩, hce, hcv, hcl, st⟩
  · cases hv
    obtain ⟨k1, k2, k3⟩ := vx_keep h0 e1 hS hA hf hL hF
    obtain ⟨t2, a1, b1⟩ := kk u t T'.heap (locs ++ L) e1.symm (by rw [← e2]; exact X'.warmed.alike) hp hb k1 k2 k3 T' rfl X'
    exact ⟨t2, st t2 a1, b1⟩
  · obtain ⟨k1, k2, k3⟩ := vx_keep h0 e1 hS hAX hf hL hF
    obtain ⟨t2, a1, b1⟩ := kx E ce q u t T'.heap (locs ++ L) e1.symm (by rw [← e2]; exact X'.warmed.alike) hp hb k1 k2 k3 (by rw [e1]; exact hce) hcv hcl T' rfl X'
    exact ⟨t2, st.trans a1, b1⟩
theorem vx_callFi {S SX : Type} {post : Int32 → S → Prop} {px : SX → Prop} {B : S → State → Prop} {BX : String → SX → State → Prop} {AX : Nat → Prop} (hr : vx_Run5 p l e R s m args below meth c H locs cells slots mc ms (F0 m pc ls st0) rest (va_Qi post B A1 a) (vx_X px BX AX) free) (hS : va_S A0 H0 H locs) (hA : ∀ q, q < H.size → A1 q → A0 q) (hf : ∀ q, free q → A0 q) (hAX : ∀ q, q < H.size → AX q → A0 q)
    (kx : ∀ (E : String) (ce : Cell) (q9 : Addr) (u : SX) (t : State) (H1 : Heap) (locs1 : List Loc), t.heap = H1 → s.vm.Alike t.vm → px u → BX E u t → H.size ≤ H1.size → (∀ q : Nat, q < H.size → ¬ AX q → H1[q]? = H[q]?) → va_S A0 H0 H1 locs1 → H1[q9]? = some ce → ce.vm = .none → s.vm.findClass E = some ce.cls → vx_W p l e R s m args below meth c H1 locs1 (cells + mc) (slots + ms) Q (F0 m pc ls rest) q9)
    (kk : ∀ (r : Int32) (u : S) (t : State) (H1 : Heap) (locs1 : List Loc), t.heap = H1 → s.vm.Alike t.vm → post r u → B u t → H.size ≤ H1.size → (∀ q : Nat, q < H.size → ¬ A1 q → H1[q]? = H[q]?) → va_S A0 H0 H1 locs1 → W p l e R s m args below meth c H1 locs1 (cells + mc) (slots + ms) Q (F0 m (pc + 5) ls (.int r :: rest))) : W p l e R s m args below meth c H locs cells slots Q (F0 m pc ls st0) := by
  intro T hT X
  rcases hr T hT X with ⟨v, st₀, t, T', L, h0, X', hL, e1, e2, ⟨⟨r, u, hv, hp, hb⟩, hF⟩, st⟩ | ⟨q, st₀, t, T', L, E, ce, h0, X', hL, e1, e2, ⟨u, hp, hb, hF⟩, hce, hcv, hcl, st⟩
  · cases hv
    obtain ⟨k1, k2, k3⟩ := vx_keep h0 e1 hS hA hf hL hF
    obtain ⟨t2, a1, b1⟩ := kk r u t T'.heap (locs ++ L) e1.symm (by rw [← e2]; exact X'.warmed.alike) hp hb k1 k2 k3 T' rfl X'
    exact ⟨t2, st t2 a1, b1⟩
  · obtain ⟨k1, k2, k3⟩ := vx_keep h0 e1 hS hAX hf hL hF
    obtain ⟨t2, a1, b1⟩ := kx E ce q u t T'.heap (locs ++ L) e1.symm (by rw [← e2]; exact X'.warmed.alike) hp hb k1 k2 k3 (by rw [e1]; exact hce) hcv hcl T' rfl X'
    exact ⟨t2, st.trans a1, b1⟩
theorem vx_callFl {S SX : Type} {post : Int64 → S → Prop} {px : SX → Prop} {B : S → State → Prop} {BX : String → SX → State → Prop} {AX : Nat → Prop} (hr : vx_Run5 p l e R s m args below meth c H locs cells slots mc ms (F0 m pc ls st0) rest (va_Ql post B A1 a) (vx_X px BX AX) free) (hS : va_S A0 H0 H locs) (hA : ∀ q, q < H.size → A1 q → A0 q) (hf : ∀ q, free q → A0 q) (hAX : ∀ q, q < H.size → AX q → A0 q)
    (kx : ∀ (E : String) (ce : Cell) (q9 : Addr) (u : SX) (t : State) (H1 : Heap) (locs1 : List Loc), t.heap = H1 → s.vm.Alike t.vm → px u → BX E u t → H.size ≤ H1.size → (∀ q : Nat, q < H.size → ¬ AX q → H1[q]? = H[q]?) → va_S A0 H0 H1 locs1 → H1[q9]? = some ce → ce.vm = .none → s.vm.findClass E = some ce.cls → vx_W p l e R s m args below meth c H1 locs1 (cells + mc) (slots + ms) Q (F0 m pc ls rest) q9)
    (kk : ∀ (r : Int64) (u : S) (t : State) (H1 : Heap) (locs1 : List Loc), t.heap = H1 → s.vm.Alike t.vm → post r u → B u t → H.size ≤ H1.size → (∀ q : Nat, q < H.size → ¬ A1 q → H1[q]? = H[q]?) → va_S A0 H0 H1 locs1 → W p l e R s m args below meth c H1 locs1 (cells + mc) (slots + ms) Q (F0 m (pc + 5) ls (.long r :: rest))) : W p l e R s m args below meth c H locs cells slots Q (F0 m pc ls st0) := by
  intro T hT X
  rcases hr T hT X with ⟨v, st₀, t, T', L, h0, X', hL, e1, e2, ⟨⟨r, u, hv, hp, hb⟩, hF⟩, st⟩ | ⟨q, st₀, t, T', L, E, ce, h0, X', hL, e1, e2, ⟨u, hp, hb, hF⟩, hce, hcv, hcl, st⟩
  · cases hv
    obtain ⟨k1, k2, k3⟩ := vx_keep h0 e1 hS hA hf hL hF
    obtain ⟨t2, a1, b1⟩ := kk r u t T'.heap (locs ++ L) e1.symm (by rw [← e2]; exact X'.warmed.alike) hp hb k1 k2 k3 T' rfl X'
    exact ⟨t2, st t2 a1, b1⟩
  · obtain ⟨k1, k2, k3⟩ := vx_keep h0 e1 hS hAX hf hL hF
    obtain ⟨t2, a1, b1⟩ := kx E ce q u t T'.heap (locs ++ L) e1.symm (by rw [← e2]; exact X'.warmed.alike) hp hb k1 k2 k3 (by rw [e1]; exact hce) hcv hcl T' rfl X'
    exact ⟨t2, st.trans a1, b1⟩
theorem vx_callFf {S SX : Type} {post : UInt32 → S → Prop} {px : SX → Prop} {B : S → State → Prop} {BX : String → SX → State → Prop} {AX : Nat → Prop} (hr : vx_Run5 p l e R s m args below meth c H locs cells slots mc ms (F0 m pc ls st0) rest (va_Qf post B A1 a) (vx_X px BX AX) free) (hS : va_S A0 H0 H locs) (hA : ∀ q, q < H.size → A1 q → A0 q) (hf : ∀ q, free q → A0 q) (hAX : ∀ q, q < H.size → AX q → A0 q)
    (kx : ∀ (E : String) (ce : Cell) (q9 : Addr) (u : SX) (t : State) (H1 : Heap) (locs1 : List Loc), t.heap = H1 → s.vm.Alike t.vm → px u → BX E u t → H.size ≤ H1.size → (∀ q : Nat, q < H.size → ¬ AX q → H1[q]? = H[q]?) → va_S A0 H0 H1 locs1 → H1[q9]? = some ce → ce.vm = .none → s.vm.findClass E = some ce.cls → vx_W p l e R s m args below meth c H1 locs1 (cells + mc) (slots + ms) Q (F0 m pc ls rest) q9)
    (kk : ∀ (r : UInt32) (u : S) (t : State) (H1 : Heap) (locs1 : List Loc), t.heap = H1 → s.vm.Alike t.vm → post r u → B u t → H.size ≤ H1.size → (∀ q : Nat, q < H.size → ¬ A1 q → H1[q]? = H[q]?) → va_S A0 H0 H1 locs1 → W p l e R s m args below meth c H1 locs1 (cells + mc) (slots + ms) Q (F0 m (pc + 5) ls (.float r :: rest))) : W p l e R s m args below meth c H locs cells slots Q (F0 m pc ls st0) := by
  intro T hT X
  rcases hr T hT X with ⟨v, st₀, t, T', L, h0, X', hL, e1, e2, ⟨⟨r, u, hv, hp, hb⟩, hF⟩, st⟩ | ⟨q, st₀, t, T', L, E, ce, h0, X', hL, e1, e2, ⟨u, hp, hb, hF⟩, hce, hcv, hcl, st⟩
  · cases hv
    obtain ⟨k1, k2, k3⟩ := vx_keep h0 e1 hS hA hf hL hF
    obtain ⟨t2, a1, b1⟩ := kk r u t T'.heap (locs ++ L) e1.symm (by rw [← e2]; exact X'.warmed.alike) hp hb k1 k2 k3 T' rfl X'
    exact ⟨t2, st t2 a1, b1⟩
  · obtain ⟨k1, k2, k3⟩ := vx_keep h0 e1 hS hAX hf hL hF
    obtain ⟨t2, a1, b1⟩ := kx E ce q u t T'.heap (locs ++ L) e1.symm (by rw [← e2]; exact X'.warmed.alike) hp hb k1 k2 k3 (by rw [e1]; exact hce) hcv hcl T' rfl X'
    exact ⟨t2, st.trans a1, b1⟩
theorem vx_callFd {S SX : Type} {post : UInt64 → S → Prop} {px : SX → Prop} {B : S → State → Prop} {BX : String → SX → State → Prop} {AX : Nat → Prop} (hr : vx_Run5 p l e R s m args below meth c H locs cells slots mc ms (F0 m pc ls st0) rest (va_Qd post B A1 a) (vx_X px BX AX) free) (hS : va_S A0 H0 H locs) (hA : ∀ q, q < H.size → A1 q → A0 q) (hf : ∀ q, free q → A0 q) (hAX : ∀ q, q < H.size → AX q → A0 q)
    (kx : ∀ (E : String) (ce : Cell) (q9 : Addr) (u : SX) (t : State) (H1 : Heap) (locs1 : List Loc), t.heap = H1 → s.vm.Alike t.vm → px u → BX E u t → H.size ≤ H1.size → (∀ q : Nat, q < H.size → ¬ AX q → H1[q]? = H[q]?) → va_S A0 H0 H1 locs1 → H1[q9]? = some ce → ce.vm = .none → s.vm.findClass E = some ce.cls → vx_W p l e R s m args below meth c H1 locs1 (cells + mc) (slots + ms) Q (F0 m pc ls rest) q9)
    (kk : ∀ (r : UInt64) (u : S) (t : State) (H1 : Heap) (locs1 : List Loc), t.heap = H1 → s.vm.Alike t.vm → post r u → B u t → H.size ≤ H1.size → (∀ q : Nat, q < H.size → ¬ A1 q → H1[q]? = H[q]?) → va_S A0 H0 H1 locs1 → W p l e R s m args below meth c H1 locs1 (cells + mc) (slots + ms) Q (F0 m (pc + 5) ls (.double r :: rest))) : W p l e R s m args below meth c H locs cells slots Q (F0 m pc ls st0) := by
  intro T hT X
  rcases hr T hT X with ⟨v, st₀, t, T', L, h0, X', hL, e1, e2, ⟨⟨r, u, hv, hp, hb⟩, hF⟩, st⟩ | ⟨q, st₀, t, T', L, E, ce, h0, X', hL, e1, e2, ⟨u, hp, hb, hF⟩, hce, hcv, hcl, st⟩
  · cases hv
    obtain ⟨k1, k2, k3⟩ := vx_keep h0 e1 hS hA hf hL hF
    obtain ⟨t2, a1, b1⟩ := kk r u t T'.heap (locs ++ L) e1.symm (by rw [← e2]; exact X'.warmed.alike) hp hb k1 k2 k3 T' rfl X'
    exact ⟨t2, st t2 a1, b1⟩
  · obtain ⟨k1, k2, k3⟩ := vx_keep h0 e1 hS hAX hf hL hF
    obtain ⟨t2, a1, b1⟩ := kx E ce q u t T'.heap (locs ++ L) e1.symm (by rw [← e2]; exact X'.warmed.alike) hp hb k1 k2 k3 (by rw [e1]; exact hce) hcv hcl T' rfl X'
    exact ⟨t2, st.trans a1, b1⟩
end
/-! ===== END ===== -/
/-! ===== BEGIN by an interface, a method with a table of its own that may throw (follows va_callIFW, va_runFW) ===== -/
section
variable {p : Program} {l : Launch} {e : Env} {R : Room} {s : State} {m : MethodId} {args : Array Value} {below : List Frame} {meth : Method} {c : Code} {H : Heap} {locs : List Loc} {cells slots : Nat}
theorem vx_callIFW {T : State} (X : Stand p l e R s m args below meth c T locs cells slots) (hexec : p.tables.exec = Jvm.exec) {own C : String} {index count : Nat} {x y : MethodName} {bytes : ByteArray} {maxL : Nat} {ret : Option FieldType} {hh : List (Nat × Nat × Nat × Nat)}
    (hown : s.vm.findClass own = some m.cls) (hlink : (Cond.methodLink own index x).before args s = true) (hdecl : (Cond.declares x).before args s = true) (hface : (Cond.interfaceMethod x.cls x.cls x.name x.desc).before args s = true)
    (hsel : (Cond.selects C x y).before args s = true) (hinst : (Cond.instanceMethod y).before args s = true) (hpub : (Cond.publicMethod y).before args s = true) (hunh : (Cond.unhidden C x.name x.desc).before args s = true)
    (hcast : (Cond.castable C x.cls).before args s = true) (hcode : (Cond.codeWith y bytes maxL ret hh).before args s = true) (hx : x.cls ≠ "java/lang/invoke/MethodHandle" ∧ x.cls ≠ "java/lang/invoke/VarHandle")
    {W : Nat} {Pre : Pt → Array Value → Prop} {Post : Pt → Array Value → Option Value → Pt → Prop} {PostX : Pt → Array Value → Addr → Pt → Prop} (hK : vx_Back l R p e below s args y 5 W Pre Post PostX)
    {b : Addr} {cellB : Cell} {kB : Class} (hcell : T.heap[b]? = some cellB) (hobj : cellB.vm.isStatics = false) (hcls : s.vm.findClass C = some cellB.cls) (hkB : s.vm.classes[cellB.cls]? = some kB)
    {g : JFrame} (hg : g.method = m) (hsize : g.locals.size = c.maxLocals) {argsL rest : List Value} (hlen : ∀ sig, parseMethodDescriptor x.desc = some sig → argsL.length = sig.parameters.length)
    (hstack : g.stack = argsL.reverse ++ .ref b :: rest) (hW : 2 * g.monitorRoom + (rest.map fun v => v.category).sum ≤ W) (hdg : decode c.code g.pc = .ok (.invokeinterface index count, 5))
    (hpre : ∀ vm₁, s.WarmedH vm₁ → Pre ⟨T.setVm vm₁, locs, cells, slots⟩ (Value.ref b :: argsL).toArray) :
    (∃ (v : Option Value) (vm₁ : Vm) (B : Pt), s.WarmedH vm₁ ∧ Stand p l e R s m args below meth c B.U B.locs B.cells B.slots ∧ Post ⟨T.setVm vm₁, locs, cells, slots⟩ (Value.ref b :: argsL).toArray v B ∧
      ∀ target, Steps p.tables e below (B.U.setTop { g with pc := g.pc + 5, stack := v.toList ++ rest }) target → Steps p.tables e below (T.setTop g) target) ∨
    (∃ (q : Addr) (vm₁ : Vm) (B : Pt), s.WarmedH vm₁ ∧ Stand p l e R s m args below meth c B.U B.locs B.cells B.slots ∧ PostX ⟨T.setVm vm₁, locs, cells, slots⟩ (Value.ref b :: argsL).toArray q B ∧
      Steps p.tables e below (T.setTop g) ((B.U.setTop { g with stack := rest }).pushFrame (.throwing q))) := by
  obtain ⟨r0, r, hn, hrm, hstR, hsigR⟩ := Cond.declares_spec hdecl
  obtain ⟨cL, kL, r1, hcL, hkL, hiL, hfoundL, hn1⟩ := Cond.interfaceMethod_spec hface
  cases hn.symm.trans hn1
  have hr0cls : r0.cls = cL := Option.some.inj ((findClass_of_methodNamed hn).symm.trans hcL)
  obtain ⟨hnameR, hdescR⟩ := name_of_methodNamed hn hrm
  obtain ⟨mk, methM, hnamed, hmethM, -, habM⟩ := Cond.instanceMethod_spec hinst
  obtain ⟨c2, r2, m2, q1, q2, q3, q4, -⟩ := Cond.selects_spec hsel
  cases hcls.symm.trans q1
  cases hfoundL.symm.trans q2
  cases hnamed.symm.trans q3
  have hselP : selectMethod e.platform s.vm cellB.cls r0 = .method mk := by rw [Launch.admits_selectMethod X.admits]; exact q4
  have hpubM : hasFlag methM.accessFlags Acc.public_ = true := Cond.publicMethod_spec hnamed hmethM hpub
  have hway : ((cellB.cls :: s.vm.superclasses cellB.cls).any fun k => (declaredIn s.vm r.name r.desc k).any fun (_, z) => z.isPrivate || z.isStatic) = false := by
    rw [hnameR, hdescR]; exact Cond.unhidden_spec hcls hunh
  obtain ⟨c3, t3, w1, w2, w3⟩ := Cond.castable_spec hcast
  cases hcls.symm.trans w1
  cases hcL.symm.trans w2
  obtain ⟨vm₁, X₁, hstep₁⟩ := X.invokeinterface hexec hown hlink hn hrm hstR (by rw [hr0cls]; exact hkL) hiL hx (a := b) (cell := cellB) (kcell := kB) hcell
    (fun z h => by rw [h] at hobj; cases hobj) hkB (by rw [hr0cls]; exact w3) hselP hmethM hway hpubM habM (g := g) hg (argsL := argsL) (rest := rest) (hlen _ hsigR) hstack hdg
  rcases hK m meth c ⟨T.setVm vm₁, locs, cells, slots⟩ { g with stack := rest } (.invokeinterface index count) mk (Value.ref b :: argsL).toArray X₁ hg hsize hdg hW (X₁.named hnamed) (hpre vm₁ X₁.warmed) with ⟨v, B, X', hpost, hsteps⟩ | ⟨q, B, X', hpost, hsteps⟩
  · exact Or.inl ⟨v, vm₁, B, X₁.warmed, X', hpost, fun target h => hstep₁ _ fun acts => by rw [doInvoke_state]; exact hsteps.trans h⟩
  · exact Or.inr ⟨q, vm₁, B, X₁.warmed, X', hpost, hstep₁ _ fun acts => by rw [doInvoke_state]; exact hsteps⟩
theorem vx_runFW {x y : MethodName} {bytes cc : ByteArray} {maxL nL mc ms n index count : Nat} {ret : Option FieldType} {hh : List (Nat × Nat × Nat × Nat)} {ws : List Cond} {rm : Room} {Pc : Array Value → State → Prop} {Qc : Array Value → State → Outcome → State → Prop} {XC : String → State → State → Prop} {free : Addr → Prop} {Ts : List Cond} {own C : String} {cC : ClassId} {b : Addr} {As rest : List Value} {g : JFrame}
    (hat : ClassAt s C cC) (S : CallFix p m c cc nL s args Ts own) (hM : vx_Met l y ws rm Pc Qc XC mc ms free) (cw : va_CIW R s args own C index x y bytes maxL ret hh ws rm mc ms n) (hp : PreV s H C b Pc As)
    (hg : g.method = m) (hn : As.length = n) (hsize : g.locals.size = nL) (hstack : g.stack = As.reverse ++ .ref b :: rest) (hW : 2 * g.monitorRoom + (rest.map fun v => v.category).sum ≤ 8) (hdg : decode cc g.pc = .ok (.invokeinterface index count, 5)) (hf : cells + mc ≤ R.cells ∧ slots + ms ≤ R.slots) :
    vx_Run5 p l e R s m args below meth c H locs cells slots mc ms g rest (Qc (Value.ref b :: As).toArray) XC free := by
  obtain ⟨hrc, hrs, hfr, hlo, hws, hcw⟩ := cw.back
  have hini := cw.init
  have hK : vx_Back l R p e below s args y 5 8 (PreOf R mc ms Pc) (PostOf Qc mc ms free) (vx_Post XC mc ms free) := vx_backW (hh := hh) (bytes := bytes) (maxL := maxL) (ret := ret) hM hp.1 hrc hrs hfr hlo hws hcw (fun a' U hW => word_at hW (Or.inl (by first | rfl | simp [Cond.onTables, Cond.keeps, Cond.steady])) hini)
  obtain ⟨hx, hb, hml, ho, -⟩ := S
  obtain ⟨-, ⟨cellB, hcB, hoB, hclB⟩, hPc⟩ := hp
  obtain ⟨hfc, kB, hkB, -⟩ := hat
  cases hfc.symm.trans hclB
  intro T hT X
  rcases vx_callIFW X hx (C := C) (hh := hh) (bytes := bytes) (maxL := maxL) (ret := ret) ho cw.link cw.decl cw.face cw.sel cw.inst cw.pub cw.unh cw.cast cw.code cw.notMH hK (by rw [hT]; exact hcB) hoB hclB hkB hg (hsize.trans hml.symm) (argsL := As) (rest := rest) (fun sig h => hn.trans (cw.len sig h)) hstack hW (by rw [hb]; exact hdg)
    (fun vm₁ hW₁ => ⟨hf.1, hf.2, hPc (T.setVm vm₁) hT hW₁⟩) with ⟨v, vm₁, ⟨U', l2, c2, s2⟩, hW₁, X', ⟨g', mk, t, L, e1, e2, hq, h1, hL, h2, h3⟩, st⟩ | ⟨q, vm₁, ⟨U', l2, c2, s2⟩, hW₁, X', ⟨g', mk, t, L, E, ce, e1, e2, hq, hce, hcv, hcl, h1, hL, h2, h3⟩, st⟩
  · dsimp only [Pt.U, Pt.locs, Pt.cells, Pt.slots] at X' e1 e2 h1 h2 h3 st
    subst h1; subst h2; subst h3
    exact Or.inl ⟨v, (T.setVm vm₁).calling g' mk (Value.ref b :: As).toArray, t, U', L, hT, X', hL, e1, e2, hq, st⟩
  · dsimp only [Pt.U, Pt.locs, Pt.cells, Pt.slots] at X' e1 e2 h1 h2 h3 st hcl
    subst h1; subst h2; subst h3
    exact Or.inr ⟨q, (T.setVm vm₁).calling g' mk (Value.ref b :: As).toArray, t, U', L, E, ce, hT, X', hL, e1, e2, hq, hce, hcv, vx_cls hW₁ hcl, st⟩
end
/-! ===== END ===== -/
/-! ===== BEGIN .. of methods that hand back an object of the pool ===== -/
section
variable {p : Program} {l : Launch} {e : Env} {R : Room} {s : State} {m : MethodId} {args : Array Value} {below : List Frame} {meth : Method} {c : Code} {H : Heap} {locs : List Loc} {cells slots : Nat} {Q : State → Prop}
variable {mc ms : Nat} {free : Addr → Prop} {A0 A1 : Nat → Prop} {H0 : Heap} {a : Array Value} {pc : Nat} {ls : Array Slot} {st0 rest : List Value}
theorem vx_callq {S SX : Type} {post : Option Nat → S → Prop} {px : SX → Prop} {B : S → State → Prop} {BX : String → SX → State → Prop} {AX : Nat → Prop} (hr : vx_Run p l e R s m args below meth c H locs cells slots mc ms (F0 m pc ls st0) rest (va_Qq post B A1 a) (vx_X px BX AX) free) (hS : va_S A0 H0 H locs) (hA : ∀ q, q < H.size → A1 q → A0 q) (hf : ∀ q, free q → A0 q) (hAX : ∀ q, q < H.size → AX q → A0 q)
    (kx : ∀ (E : String) (ce : Cell) (q9 : Addr) (u : SX) (t : State) (H1 : Heap) (locs1 : List Loc), t.heap = H1 → s.vm.Alike t.vm → px u → BX E u t → H.size ≤ H1.size → (∀ q : Nat, q < H.size → ¬ AX q → H1[q]? = H[q]?) → va_S A0 H0 H1 locs1 → H1[q9]? = some ce → ce.vm = .none → s.vm.findClass E = some ce.cls → vx_W p l e R s m args below meth c H1 locs1 (cells + mc) (slots + ms) Q (F0 m pc ls rest) q9)
    (kk : ∀ (r : Option Nat) (u : S) (t : State) (H1 : Heap) (locs1 : List Loc), t.heap = H1 → s.vm.Alike t.vm → post r u → B u t → H.size ≤ H1.size → (∀ q : Nat, q < H.size → ¬ A1 q → H1[q]? = H[q]?) → va_S A0 H0 H1 locs1 → W p l e R s m args below meth c H1 locs1 (cells + mc) (slots + ms) Q (F0 m (pc + 3) ls (va_rf r :: rest))) : W p l e R s m args below meth c H locs cells slots Q (F0 m pc ls st0) := by
  intro T hT X
  rcases hr T hT X with ⟨v, st₀, t, T', L, h0, X', hL, e1, e2, ⟨⟨r, u, hv, hp, hb⟩, hF⟩, st⟩ | ⟨q, st₀, t, T', L, E, ce, h0, X', hL, e1, e2, ⟨u, hp, hb, hF⟩, hce, hcv, hcl, st⟩
  · cases hv
    obtain ⟨k1, k2, k3⟩ := vx_keep h0 e1 hS hA hf hL hF
    obtain ⟨t2, a1, b1⟩ := kk r u t T'.heap (locs ++ L) e1.symm (by rw [← e2]; exact X'.warmed.alike) hp hb k1 k2 k3 T' rfl X'
    exact ⟨t2, st t2 a1, b1⟩
  · obtain ⟨k1, k2, k3⟩ := vx_keep h0 e1 hS hAX hf hL hF
    obtain ⟨t2, a1, b1⟩ := kx E ce q u t T'.heap (locs ++ L) e1.symm (by rw [← e2]; exact X'.warmed.alike) hp hb k1 k2 k3 (by rw [e1]; exact hce) hcv hcl T' rfl X'
    exact ⟨t2, st.trans a1, b1⟩
end
/-! ===== END ===== -/
/-! ===== BEGIN .. a constant ===== -/
section
variable {p : Program} {l : Launch} {e : Env} {R : Room} {s : State} {m : MethodId} {args : Array Value} {below : List Frame} {meth : Method} {c : Code} {H : Heap} {locs : List Loc} {cells slots : Nat} {Q : State → Prop}
variable {mc ms : Nat} {free : Addr → Prop} {A0 A1 : Nat → Prop} {H0 : Heap} {a : Array Value} {pc : Nat} {ls : Array Slot} {st0 rest : List Value}
theorem vx_calle {ad : Nat → Nat} {S SX : Type} {post : Option Nat → S → Prop} {px : SX → Prop} {B : S → State → Prop} {BX : String → SX → State → Prop} {AX : Nat → Prop} (hr : vx_Run p l e R s m args below meth c H locs cells slots mc ms (F0 m pc ls st0) rest (va_Qe ad post B A1 a) (vx_X px BX AX) free) (hS : va_S A0 H0 H locs) (hA : ∀ q, q < H.size → A1 q → A0 q) (hf : ∀ q, free q → A0 q) (hAX : ∀ q, q < H.size → AX q → A0 q)
    (kx : ∀ (E : String) (ce : Cell) (q9 : Addr) (u : SX) (t : State) (H1 : Heap) (locs1 : List Loc), t.heap = H1 → s.vm.Alike t.vm → px u → BX E u t → H.size ≤ H1.size → (∀ q : Nat, q < H.size → ¬ AX q → H1[q]? = H[q]?) → va_S A0 H0 H1 locs1 → H1[q9]? = some ce → ce.vm = .none → s.vm.findClass E = some ce.cls → vx_W p l e R s m args below meth c H1 locs1 (cells + mc) (slots + ms) Q (F0 m pc ls rest) q9)
    (kk : ∀ (r : Option Nat) (u : S) (t : State) (H1 : Heap) (locs1 : List Loc), t.heap = H1 → s.vm.Alike t.vm → post r u → B u t → H.size ≤ H1.size → (∀ q : Nat, q < H.size → ¬ A1 q → H1[q]? = H[q]?) → va_S A0 H0 H1 locs1 → W p l e R s m args below meth c H1 locs1 (cells + mc) (slots + ms) Q (F0 m (pc + 3) ls (va_re ad r :: rest))) : W p l e R s m args below meth c H locs cells slots Q (F0 m pc ls st0) := by
  intro T hT X
  rcases hr T hT X with ⟨v, st₀, t, T', L, h0, X', hL, e1, e2, ⟨⟨r, u, hv, hp, hb⟩, hF⟩, st⟩ | ⟨q, st₀, t, T', L, E, ce, h0, X', hL, e1, e2, ⟨u, hp, hb, hF⟩, hce, hcv, hcl, st⟩
  · cases hv
    obtain ⟨k1, k2, k3⟩ := vx_keep h0 e1 hS hA hf hL hF
    obtain ⟨t2, a1, b1⟩ := kk r u t T'.heap (locs ++ L) e1.symm (by rw [← e2]; exact X'.warmed.alike) hp hb k1 k2 k3 T' rfl X'
    exact ⟨t2, st t2 a1, b1⟩
  · obtain ⟨k1, k2, k3⟩ := vx_keep h0 e1 hS hAX hf hL hF
    obtain ⟨t2, a1, b1⟩ := kx E ce q u t T'.heap (locs ++ L) e1.symm (by rw [← e2]; exact X'.warmed.alike) hp hb k1 k2 k3 (by rw [e1]; exact hce) hcv hcl T' rfl X'
    exact ⟨t2, st.trans a1, b1⟩
end
/-! ===== END ===== -/
/-! ===== BEGIN .. by an interface, an object ===== -/
section
variable {p : Program} {l : Launch} {e : Env} {R : Room} {s : State} {m : MethodId} {args : Array Value} {below : List Frame} {meth : Method} {c : Code} {H : Heap} {locs : List Loc} {cells slots : Nat} {Q : State → Prop}
variable {mc ms : Nat} {free : Addr → Prop} {A0 A1 : Nat → Prop} {H0 : Heap} {a : Array Value} {pc : Nat} {ls : Array Slot} {st0 rest : List Value}
theorem vx_callFq {S SX : Type} {post : Option Nat → S → Prop} {px : SX → Prop} {B : S → State → Prop} {BX : String → SX → State → Prop} {AX : Nat → Prop} (hr : vx_Run5 p l e R s m args below meth c H locs cells slots mc ms (F0 m pc ls st0) rest (va_Qq post B A1 a) (vx_X px BX AX) free) (hS : va_S A0 H0 H locs) (hA : ∀ q, q < H.size → A1 q → A0 q) (hf : ∀ q, free q → A0 q) (hAX : ∀ q, q < H.size → AX q → A0 q)
    (kx : ∀ (E : String) (ce : Cell) (q9 : Addr) (u : SX) (t : State) (H1 : Heap) (locs1 : List Loc), t.heap = H1 → s.vm.Alike t.vm → px u → BX E u t → H.size ≤ H1.size → (∀ q : Nat, q < H.size → ¬ AX q → H1[q]? = H[q]?) → va_S A0 H0 H1 locs1 → H1[q9]? = some ce → ce.vm = .none → s.vm.findClass E = some ce.cls → vx_W p l e R s m args below meth c H1 locs1 (cells + mc) (slots + ms) Q (F0 m pc ls rest) q9)
    (kk : ∀ (r : Option Nat) (u : S) (t : State) (H1 : Heap) (locs1 : List Loc), t.heap = H1 → s.vm.Alike t.vm → post r u → B u t → H.size ≤ H1.size → (∀ q : Nat, q < H.size → ¬ A1 q → H1[q]? = H[q]?) → va_S A0 H0 H1 locs1 → W p l e R s m args below meth c H1 locs1 (cells + mc) (slots + ms) Q (F0 m (pc + 5) ls (va_rf r :: rest))) : W p l e R s m args below meth c H locs cells slots Q (F0 m pc ls st0) := by
  intro T hT X
  rcases hr T hT X with ⟨v, st₀, t, T', L, h0, X', hL, e1, e2, ⟨⟨r, u, hv, hp, hb⟩, hF⟩, st⟩ | ⟨q, st₀, t, T', L, E, ce, h0, X', hL, e1, e2, ⟨u, hp, hb, hF⟩, hce, hcv, hcl, st⟩
  · cases hv
    obtain ⟨k1, k2, k3⟩ := vx_keep h0 e1 hS hA hf hL hF
    obtain ⟨t2, a1, b1⟩ := kk r u t T'.heap (locs ++ L) e1.symm (by rw [← e2]; exact X'.warmed.alike) hp hb k1 k2 k3 T' rfl X'
    exact ⟨t2, st t2 a1, b1⟩
  · obtain ⟨k1, k2, k3⟩ := vx_keep h0 e1 hS hAX hf hL hF
    obtain ⟨t2, a1, b1⟩ := kx E ce q u t T'.heap (locs ++ L) e1.symm (by rw [← e2]; exact X'.warmed.alike) hp hb k1 k2 k3 (by rw [e1]; exact hce) hcv hcl T' rfl X'
    exact ⟨t2, st.trans a1, b1⟩
end
/-! ===== END ===== -/
/-! ===== BEGIN .. by an interface, a constant ===== -/
section
variable {p : Program} {l : Launch} {e : Env} {R : Room} {s : State} {m : MethodId} {args : Array Value} {below : List Frame} {meth : Method} {c : Code} {H : Heap} {locs : List Loc} {cells slots : Nat} {Q : State → Prop}
variable {mc ms : Nat} {free : Addr → Prop} {A0 A1 : Nat → Prop} {H0 : Heap} {a : Array Value} {pc : Nat} {ls : Array Slot} {st0 rest : List Value}
theorem vx_callFe {ad : Nat → Nat} {S SX : Type} {post : Option Nat → S → Prop} {px : SX → Prop} {B : S → State → Prop} {BX : String → SX → State → Prop} {AX : Nat → Prop} (hr : vx_Run5 p l e R s m args below meth c H locs cells slots mc ms (F0 m pc ls st0) rest (va_Qe ad post B A1 a) (vx_X px BX AX) free) (hS : va_S A0 H0 H locs) (hA : ∀ q, q < H.size → A1 q → A0 q) (hf : ∀ q, free q → A0 q) (hAX : ∀ q, q < H.size → AX q → A0 q)
    (kx : ∀ (E : String) (ce : Cell) (q9 : Addr) (u : SX) (t : State) (H1 : Heap) (locs1 : List Loc), t.heap = H1 → s.vm.Alike t.vm → px u → BX E u t → H.size ≤ H1.size → (∀ q : Nat, q < H.size → ¬ AX q → H1[q]? = H[q]?) → va_S A0 H0 H1 locs1 → H1[q9]? = some ce → ce.vm = .none → s.vm.findClass E = some ce.cls → vx_W p l e R s m args below meth c H1 locs1 (cells + mc) (slots + ms) Q (F0 m pc ls rest) q9)
    (kk : ∀ (r : Option Nat) (u : S) (t : State) (H1 : Heap) (locs1 : List Loc), t.heap = H1 → s.vm.Alike t.vm → post r u → B u t → H.size ≤ H1.size → (∀ q : Nat, q < H.size → ¬ A1 q → H1[q]? = H[q]?) → va_S A0 H0 H1 locs1 → W p l e R s m args below meth c H1 locs1 (cells + mc) (slots + ms) Q (F0 m (pc + 5) ls (va_re ad r :: rest))) : W p l e R s m args below meth c H locs cells slots Q (F0 m pc ls st0) := by
  intro T hT X
  rcases hr T hT X with ⟨v, st₀, t, T', L, h0, X', hL, e1, e2, ⟨⟨r, u, hv, hp, hb⟩, hF⟩, st⟩ | ⟨q, st₀, t, T', L, E, ce, h0, X', hL, e1, e2, ⟨u, hp, hb, hF⟩, hce, hcv, hcl, st⟩
  · cases hv
    obtain ⟨k1, k2, k3⟩ := vx_keep h0 e1 hS hA hf hL hF
    obtain ⟨t2, a1, b1⟩ := kk r u t T'.heap (locs ++ L) e1.symm (by rw [← e2]; exact X'.warmed.alike) hp hb k1 k2 k3 T' rfl X'
    exact ⟨t2, st t2 a1, b1⟩
  · obtain ⟨k1, k2, k3⟩ := vx_keep h0 e1 hS hAX hf hL hF
    obtain ⟨t2, a1, b1⟩ := kx E ce q u t T'.heap (locs ++ L) e1.symm (by rw [← e2]; exact X'.warmed.alike) hp hb k1 k2 k3 (by rw [e1]; exact hce) hcv hcl T' rfl X'
    exact ⟨t2, st.trans a1, b1⟩
end
/-! ===== END ===== -/
/-! ===== BEGIN what the machine throws by itself: null at a field, at athrow ===== -/
section VXM2
variable {p : Program} {l : Launch} {e : Env} {R : Room} {s : State} {m : MethodId} {args : Array Value} {below : List Frame} {meth : Method} {c : Code} {H : Heap} {locs : List Loc} {cells slots : Nat}
variable {Q : State → Prop} {cc : ByteArray} {pc : Nat} {ls : Array Slot} {rest : List Value}
theorem vx_getfN {D cl tys} {own ref C : String} {T : u_T} {N ci index : Nat} {Ts : List Cond} (hexec : p.tables.exec = Jvm.exec) (hb : c.code = cc) (hts : ∀ w ∈ Ts, w.before args s = true) (hin : ∀ w ∈ u_ws C T N, w ∈ Ts) (hown : s.vm.findClass own = some m.cls) (hK : va_K D cl tys s) (hc : cl[ci]? = some (C, T, N)) (k : Nat) (hk : k < N) (hlink : (Cond.fieldLink own index ref (T k).2.1 (T k).2.2.1).before args s = true) (hsame : ∀ x, s.fieldFound? (T k).1 (T k).2.1 (T k).2.2.1 = some x → s.fieldFound? ref (T k).2.1 (T k).2.2.1 = some x) (hdg : decode cc pc = .ok (.getfield index, 3)) (kk : vx_NoteN p l e R s m args below meth c H locs cells slots Q (F0 m pc ls rest)) : W p l e R s m args below meth c H locs cells slots Q (F0 m pc ls (.null :: rest)) := by
  obtain ⟨hS, hfc, kC, hkC, -⟩ := hK.1 ci _ hc
  obtain ⟨cf, kf, fi, f, hi, -⟩ := hS k hk
  intro U hU X
  obtain ⟨vm', X1, st1⟩ := X.getfieldNull hexec hown hlink (hsame _ hi) (u_facts hfc hkC (u_lays hts hin hk) hi).1 (g := F0 m pc ls (.null :: rest)) rfl (rest := rest) rfl (by rw [hb]; exact hdg)
  obtain ⟨t, st, q⟩ := kk (U.setVm vm') hU X1
  exact ⟨t, st1 t st, q⟩
theorem vx_getfNN {D cl tys} {own ref C host : String} {T : u_T} {N ci index : Nat} {Ts : List Cond} (hexec : p.tables.exec = Jvm.exec) (hb : c.code = cc) (hts : ∀ w ∈ Ts, w.before args s = true) (hin : ∀ w ∈ u_ws C T N, w ∈ Ts) (hown : s.vm.findClass own = some m.cls) (hK : va_K D cl tys s) (hc : cl[ci]? = some (C, T, N)) (k : Nat) (hk : k < N) (hlink : (Cond.fieldLinkNest own index ref (T k).2.1 (T k).2.2.1 host).before args s = true) (hsame : ∀ x, s.fieldFound? (T k).1 (T k).2.1 (T k).2.2.1 = some x → s.fieldFound? ref (T k).2.1 (T k).2.2.1 = some x) (hdg : decode cc pc = .ok (.getfield index, 3)) (kk : vx_NoteN p l e R s m args below meth c H locs cells slots Q (F0 m pc ls rest)) : W p l e R s m args below meth c H locs cells slots Q (F0 m pc ls (.null :: rest)) := by
  obtain ⟨hS, hfc, kC, hkC, -⟩ := hK.1 ci _ hc
  obtain ⟨cf, kf, fi, f, hi, -⟩ := hS k hk
  intro U hU X
  obtain ⟨vm', X1, st1⟩ := X.getfieldNullNest hexec hown hlink (hsame _ hi) (u_facts hfc hkC (u_lays hts hin hk) hi).1 (g := F0 m pc ls (.null :: rest)) rfl (rest := rest) rfl (by rw [hb]; exact hdg)
  obtain ⟨t, st, q⟩ := kk (U.setVm vm') hU X1
  exact ⟨t, st1 t st, q⟩
theorem vx_putfN {D cl tys} {own ref C : String} {T : u_T} {N ci index : Nat} {Ts : List Cond} (hexec : p.tables.exec = Jvm.exec) (hb : c.code = cc) (hts : ∀ w ∈ Ts, w.before args s = true) (hin : ∀ w ∈ u_ws C T N, w ∈ Ts) (hown : s.vm.findClass own = some m.cls) (hK : va_K D cl tys s) (hc : cl[ci]? = some (C, T, N)) (k : Nat) (hk : k < N) (hlink : (Cond.fieldLink own index ref (T k).2.1 (T k).2.2.1).before args s = true) (hsame : ∀ x, s.fieldFound? (T k).1 (T k).2.1 (T k).2.2.1 = some x → s.fieldFound? ref (T k).2.1 (T k).2.2.1 = some x) (hfin : (T k).2.2.2 = false) {v : Value} (hdg : decode cc pc = .ok (.putfield index, 3)) (kk : vx_NoteN p l e R s m args below meth c H locs cells slots Q (F0 m pc ls rest)) : W p l e R s m args below meth c H locs cells slots Q (F0 m pc ls (v :: .null :: rest)) := by
  obtain ⟨hS, hfc, kC, hkC, -⟩ := hK.1 ci _ hc
  obtain ⟨cf, kf, fi, f, hi, -⟩ := hS k hk
  have hlay := hts _ (hin _ (u_in_lay hk))
  unfold u_lay at hlay
  rw [if_neg (by rw [hfin]; decide)] at hlay
  obtain ⟨c9, k9, cf9, kf9, fi9, f9, -, -, hi9, hst9, hnf9, -⟩ := Cond.lays_spec hlay
  cases hi.symm.trans hi9
  intro U hU X
  obtain ⟨vm', X1, st1⟩ := X.putfieldNull hexec hown hlink (hsame _ hi) hst9 hnf9 (g := F0 m pc ls (v :: .null :: rest)) rfl (v := v) (rest := rest) rfl (by rw [hb]; exact hdg)
  obtain ⟨t, st, q⟩ := kk (U.setVm vm') hU X1
  exact ⟨t, st1 t st, q⟩
theorem vx_putfNN {D cl tys} {own ref C host : String} {T : u_T} {N ci index : Nat} {Ts : List Cond} (hexec : p.tables.exec = Jvm.exec) (hb : c.code = cc) (hts : ∀ w ∈ Ts, w.before args s = true) (hin : ∀ w ∈ u_ws C T N, w ∈ Ts) (hown : s.vm.findClass own = some m.cls) (hK : va_K D cl tys s) (hc : cl[ci]? = some (C, T, N)) (k : Nat) (hk : k < N) (hlink : (Cond.fieldLinkNest own index ref (T k).2.1 (T k).2.2.1 host).before args s = true) (hsame : ∀ x, s.fieldFound? (T k).1 (T k).2.1 (T k).2.2.1 = some x → s.fieldFound? ref (T k).2.1 (T k).2.2.1 = some x) (hfin : (T k).2.2.2 = false) {v : Value} (hdg : decode cc pc = .ok (.putfield index, 3)) (kk : vx_NoteN p l e R s m args below meth c H locs cells slots Q (F0 m pc ls rest)) : W p l e R s m args below meth c H locs cells slots Q (F0 m pc ls (v :: .null :: rest)) := by
  obtain ⟨hS, hfc, kC, hkC, -⟩ := hK.1 ci _ hc
  obtain ⟨cf, kf, fi, f, hi, -⟩ := hS k hk
  have hlay := hts _ (hin _ (u_in_lay hk))
  unfold u_lay at hlay
  rw [if_neg (by rw [hfin]; decide)] at hlay
  obtain ⟨c9, k9, cf9, kf9, fi9, f9, -, -, hi9, hst9, hnf9, -⟩ := Cond.lays_spec hlay
  cases hi.symm.trans hi9
  intro U hU X
  obtain ⟨vm', X1, st1⟩ := X.putfieldNullNest hexec hown hlink (hsame _ hi) hst9 hnf9 (g := F0 m pc ls (v :: .null :: rest)) rfl (v := v) (rest := rest) rfl (by rw [hb]; exact hdg)
  obtain ⟨t, st, q⟩ := kk (U.setVm vm') hU X1
  exact ⟨t, st1 t st, q⟩
theorem vx_athrowN (hexec : p.tables.exec = Jvm.exec) (hb : c.code = cc) (hdg : decode cc pc = .ok (.athrow, 1)) (k : vx_NoteN p l e R s m args below meth c H locs cells slots Q (F0 m pc ls rest)) : W p l e R s m args below meth c H locs cells slots Q (F0 m pc ls (.null :: rest)) := by
  intro T hT X
  obtain ⟨t, st, q⟩ := k T hT X
  exact ⟨t, X.athrowNull hexec (g := F0 m pc ls (.null :: rest)) rfl (rest := rest) rfl (by rw [hb]; exact hdg) t st, q⟩
end VXM2
/-! ===== END ===== -/
end
section
/-! code, by wip/gen/gen.py -/
def ev_c_0_0 : List (Nat × Instr × Nat) := [(0, .aload_n 0, 1), (1, .invokespecial 3, 3), (4, .return_, 1)]
set_option maxRecDepth 100000 in
theorem ev_d_0_0 : ∀ q ∈ ev_c_0_0, decode prog_2_method_1_code q.1 = .ok (q.2.1, q.2.2) := by decide +kernel
def ev_c_0 : List (Nat × List (Nat × Instr × Nat)) := [(0, ev_c_0_0)]
set_option maxRecDepth 100000 in
theorem ev_d_0 : ∀ q ∈ ev_c_0, ∀ z ∈ q.2, decode prog_2_method_1_code z.1 = .ok (z.2.1, z.2.2) := List.forall_mem_cons.mpr ⟨ev_d_0_0, fun _ h => absurd h List.not_mem_nil⟩
def ev_c_1_0 : List (Nat × Instr × Nat) := [(0, .aload_n 0, 1), (1, .iload_n 1, 1), (2, .putfield 9, 3), (5, .aload_n 0, 1), (6, .iload_n 2, 1), (7, .putfield 15, 3), (10, .aload_n 0, 1), (11, .iload_n 3, 1), (12, .putfield 18, 3), (15, .aload_n 0, 1), (16, .iload 4, 2), (18, .putfield 21, 3), (21, .aload_n 0, 1), (22, .iconst 0, 1), (23, .putfield 24, 3), (26, .aload_n 0, 1), (27, .iconst 0, 1), (28, .putfield 27, 3), (31, .aload_n 0, 1)]
set_option maxRecDepth 100000 in
theorem ev_d_1_0 : ∀ q ∈ ev_c_1_0, decode prog_2_method_2_code q.1 = .ok (q.2.1, q.2.2) := by decide +kernel
def ev_c_1_1 : List (Nat × Instr × Nat) := [(32, .iconst 0, 1), (33, .putfield 30, 3), (36, .aload_n 0, 1), (37, .iconst 0, 1), (38, .putfield 33, 3), (41, .aload_n 0, 1), (42, .iconst 0, 1), (43, .iconst (-1), 1), (44, .invokevirtual 36, 3), (47, .return_, 1)]
set_option maxRecDepth 100000 in
theorem ev_d_1_1 : ∀ q ∈ ev_c_1_1, decode prog_2_method_2_code q.1 = .ok (q.2.1, q.2.2) := by decide +kernel
def ev_c_1 : List (Nat × List (Nat × Instr × Nat)) := [(0, ev_c_1_0), (1, ev_c_1_1)]
set_option maxRecDepth 100000 in
theorem ev_d_1 : ∀ q ∈ ev_c_1, ∀ z ∈ q.2, decode prog_2_method_2_code z.1 = .ok (z.2.1, z.2.2) := List.forall_mem_cons.mpr ⟨ev_d_1_0, List.forall_mem_cons.mpr ⟨ev_d_1_1, fun _ h => absurd h List.not_mem_nil⟩⟩
def ev_c_2_0 : List (Nat × Instr × Nat) := [(0, .aload_n 0, 1), (1, .aload_n 1, 1), (2, .getfield 9, 3), (5, .putfield 9, 3), (8, .aload_n 0, 1), (9, .aload_n 1, 1), (10, .getfield 15, 3), (13, .putfield 15, 3), (16, .aload_n 0, 1), (17, .aload_n 1, 1), (18, .getfield 18, 3), (21, .putfield 18, 3), (24, .aload_n 0, 1), (25, .aload_n 1, 1), (26, .getfield 21, 3), (29, .putfield 21, 3)]
set_option maxRecDepth 100000 in
theorem ev_d_2_0 : ∀ q ∈ ev_c_2_0, decode prog_2_method_3_code q.1 = .ok (q.2.1, q.2.2) := by decide +kernel
def ev_c_2_1 : List (Nat × Instr × Nat) := [(32, .aload_n 0, 1), (33, .aload_n 1, 1), (34, .getfield 24, 3), (37, .putfield 24, 3), (40, .aload_n 0, 1), (41, .aload_n 1, 1), (42, .getfield 27, 3), (45, .putfield 27, 3), (48, .aload_n 0, 1), (49, .aload_n 1, 1), (50, .getfield 30, 3), (53, .putfield 30, 3), (56, .aload_n 0, 1), (57, .aload_n 1, 1), (58, .getfield 33, 3), (61, .putfield 33, 3)]
set_option maxRecDepth 100000 in
theorem ev_d_2_1 : ∀ q ∈ ev_c_2_1, decode prog_2_method_3_code q.1 = .ok (q.2.1, q.2.2) := by decide +kernel
def ev_c_2_2 : List (Nat × Instr × Nat) := [(64, .aload_n 0, 1), (65, .aload_n 1, 1), (66, .getfield 40, 3), (69, .putfield 40, 3), (72, .aload_n 0, 1), (73, .aload_n 1, 1), (74, .getfield 43, 3), (77, .putfield 43, 3), (80, .return_, 1)]
set_option maxRecDepth 100000 in
theorem ev_d_2_2 : ∀ q ∈ ev_c_2_2, decode prog_2_method_3_code q.1 = .ok (q.2.1, q.2.2) := by decide +kernel
def ev_c_2 : List (Nat × List (Nat × Instr × Nat)) := [(0, ev_c_2_0), (1, ev_c_2_1), (2, ev_c_2_2)]
set_option maxRecDepth 100000 in
theorem ev_d_2 : ∀ q ∈ ev_c_2, ∀ z ∈ q.2, decode prog_2_method_3_code z.1 = .ok (z.2.1, z.2.2) := List.forall_mem_cons.mpr ⟨ev_d_2_0, List.forall_mem_cons.mpr ⟨ev_d_2_1, List.forall_mem_cons.mpr ⟨ev_d_2_2, fun _ h => absurd h List.not_mem_nil⟩⟩⟩
def ev_c_3_0 : List (Nat × Instr × Nat) := [(0, .aload_n 0, 1), (1, .iload_n 1, 1), (2, .putfield 40, 3), (5, .aload_n 0, 1), (6, .iload_n 2, 1), (7, .putfield 43, 3), (10, .return_, 1)]
set_option maxRecDepth 100000 in
theorem ev_d_3_0 : ∀ q ∈ ev_c_3_0, decode prog_2_method_4_code q.1 = .ok (q.2.1, q.2.2) := by decide +kernel
def ev_c_3 : List (Nat × List (Nat × Instr × Nat)) := [(0, ev_c_3_0)]
set_option maxRecDepth 100000 in
theorem ev_d_3 : ∀ q ∈ ev_c_3, ∀ z ∈ q.2, decode prog_2_method_4_code z.1 = .ok (z.2.1, z.2.2) := List.forall_mem_cons.mpr ⟨ev_d_3_0, fun _ h => absurd h List.not_mem_nil⟩
def ev_c_4_0 : List (Nat × Instr × Nat) := [(0, .aload_n 0, 1), (1, .getfield 40, 3), (4, .iconst 3, 1), (5, .if_icmp .ne 7, 3), (8, .iconst 2, 1), (9, .goto 4, 3), (12, .iconst 0, 1), (13, .aload_n 0, 1), (14, .getfield 40, 3), (17, .iconst 1, 1), (18, .if_icmp .ne 7, 3), (21, .iconst 4, 1), (22, .goto 4, 3), (25, .iconst 0, 1), (26, .ior, 1), (27, .aload_n 0, 1), (28, .getfield 40, 3), (31, .iconst 2, 1)]
set_option maxRecDepth 100000 in
theorem ev_d_4_0 : ∀ q ∈ ev_c_4_0, decode prog_2_method_5_code q.1 = .ok (q.2.1, q.2.2) := by decide +kernel
def ev_c_4_1 : List (Nat × Instr × Nat) := [(32, .if_icmp .ne 8, 3), (35, .bipush 8, 2), (37, .goto 4, 3), (40, .iconst 0, 1), (41, .ior, 1), (42, .aload_n 0, 1), (43, .getfield 21, 3), (46, .ifCond .le 8, 3), (49, .bipush 16, 2), (51, .goto 4, 3), (54, .iconst 0, 1), (55, .ior, 1), (56, .aload_n 0, 1), (57, .getfield 30, 3), (60, .ifCond .eq 8, 3), (63, .bipush 32, 2)]
set_option maxRecDepth 100000 in
theorem ev_d_4_1 : ∀ q ∈ ev_c_4_1, decode prog_2_method_5_code q.1 = .ok (q.2.1, q.2.2) := by decide +kernel
def ev_c_4_2 : List (Nat × Instr × Nat) := [(65, .goto 4, 3), (68, .iconst 0, 1), (69, .ior, 1), (70, .aload_n 0, 1), (71, .getfield 24, 3), (74, .ifCond .le 8, 3), (77, .bipush 64, 2), (79, .goto 4, 3), (82, .iconst 0, 1), (83, .ior, 1), (84, .aload_n 0, 1), (85, .getfield 27, 3), (88, .ifCond .le 9, 3), (91, .sipush 128, 3), (94, .goto 4, 3)]
set_option maxRecDepth 100000 in
theorem ev_d_4_2 : ∀ q ∈ ev_c_4_2, decode prog_2_method_5_code q.1 = .ok (q.2.1, q.2.2) := by decide +kernel
def ev_c_4_3 : List (Nat × Instr × Nat) := [(97, .iconst 0, 1), (98, .ior, 1), (99, .ireturn, 1)]
set_option maxRecDepth 100000 in
theorem ev_d_4_3 : ∀ q ∈ ev_c_4_3, decode prog_2_method_5_code q.1 = .ok (q.2.1, q.2.2) := by decide +kernel
def ev_c_4 : List (Nat × List (Nat × Instr × Nat)) := [(0, ev_c_4_0), (1, ev_c_4_1), (2, ev_c_4_2), (3, ev_c_4_3)]
set_option maxRecDepth 100000 in
theorem ev_d_4 : ∀ q ∈ ev_c_4, ∀ z ∈ q.2, decode prog_2_method_5_code z.1 = .ok (z.2.1, z.2.2) := List.forall_mem_cons.mpr ⟨ev_d_4_0, List.forall_mem_cons.mpr ⟨ev_d_4_1, List.forall_mem_cons.mpr ⟨ev_d_4_2, List.forall_mem_cons.mpr ⟨ev_d_4_3, fun _ h => absurd h List.not_mem_nil⟩⟩⟩⟩
def ev_c_5_0 : List (Nat × Instr × Nat) := [(0, .aload_n 0, 1), (1, .invokevirtual 46, 3), (4, .istore_n 1, 1), (5, .iconst 1, 1), (6, .istore_n 2, 1), (7, .iload_n 2, 1), (8, .bipush 7, 2), (10, .if_icmp .gt 19, 3), (13, .iload_n 1, 1), (14, .iload_n 2, 1), (15, .ishr, 1), (16, .iconst 1, 1), (17, .iand, 1), (18, .ifCond .eq 5, 3), (21, .iload_n 2, 1), (22, .ireturn, 1), (23, .iinc 2 1, 3), (26, .goto (-19), 3), (29, .iconst 0, 1), (30, .ireturn, 1)]
set_option maxRecDepth 100000 in
theorem ev_d_5_0 : ∀ q ∈ ev_c_5_0, decode prog_2_method_6_code q.1 = .ok (q.2.1, q.2.2) := by decide +kernel
def ev_c_5 : List (Nat × List (Nat × Instr × Nat)) := [(0, ev_c_5_0)]
set_option maxRecDepth 100000 in
theorem ev_d_5 : ∀ q ∈ ev_c_5, ∀ z ∈ q.2, decode prog_2_method_6_code z.1 = .ok (z.2.1, z.2.2) := List.forall_mem_cons.mpr ⟨ev_d_5_0, fun _ h => absurd h List.not_mem_nil⟩
def ev_c_6_0 : List (Nat × Instr × Nat) := [(0, .aload_n 0, 1), (1, .invokevirtual 46, 3), (4, .ifCond .ne 7, 3), (7, .iconst 1, 1), (8, .goto 4, 3), (11, .iconst 0, 1), (12, .ireturn, 1)]
set_option maxRecDepth 100000 in
theorem ev_d_6_0 : ∀ q ∈ ev_c_6_0, decode prog_2_method_7_code q.1 = .ok (q.2.1, q.2.2) := by decide +kernel
def ev_c_6 : List (Nat × List (Nat × Instr × Nat)) := [(0, ev_c_6_0)]
set_option maxRecDepth 100000 in
theorem ev_d_6 : ∀ q ∈ ev_c_6, ∀ z ∈ q.2, decode prog_2_method_7_code z.1 = .ok (z.2.1, z.2.2) := List.forall_mem_cons.mpr ⟨ev_d_6_0, fun _ h => absurd h List.not_mem_nil⟩
def ev_c_7_0 : List (Nat × Instr × Nat) := [(0, .iload_n 1, 1), (1, .aload_n 0, 1), (2, .getfield 18, 3), (5, .if_icmp .gt 7, 3), (8, .iconst 1, 1), (9, .goto 4, 3), (12, .iconst 0, 1), (13, .ireturn, 1)]
set_option maxRecDepth 100000 in
theorem ev_d_7_0 : ∀ q ∈ ev_c_7_0, decode prog_2_method_8_code q.1 = .ok (q.2.1, q.2.2) := by decide +kernel
def ev_c_7 : List (Nat × List (Nat × Instr × Nat)) := [(0, ev_c_7_0)]
set_option maxRecDepth 100000 in
theorem ev_d_7 : ∀ q ∈ ev_c_7, ∀ z ∈ q.2, decode prog_2_method_8_code z.1 = .ok (z.2.1, z.2.2) := List.forall_mem_cons.mpr ⟨ev_d_7_0, fun _ h => absurd h List.not_mem_nil⟩
def ev_c_8_0 : List (Nat × Instr × Nat) := [(0, .aload_n 0, 1), (1, .getfield 40, 3), (4, .ifCond .eq 5, 3), (7, .iconst 1, 1), (8, .ireturn, 1), (9, .aload_n 0, 1), (10, .iload_n 1, 1), (11, .invokevirtual 50, 3), (14, .ifCond .ne 5, 3), (17, .iconst 2, 1), (18, .ireturn, 1), (19, .aload_n 0, 1), (20, .getfield 24, 3), (23, .iconst 3, 1), (24, .if_icmp .le 5, 3), (27, .iconst 3, 1), (28, .ireturn, 1), (29, .aload_n 0, 1), (30, .getfield 30, 3)]
set_option maxRecDepth 100000 in
theorem ev_d_8_0 : ∀ q ∈ ev_c_8_0, decode prog_2_method_9_code q.1 = .ok (q.2.1, q.2.2) := by decide +kernel
def ev_c_8_1 : List (Nat × Instr × Nat) := [(33, .ifCond .eq 7, 3), (36, .iconst 4, 1), (37, .goto 4, 3), (40, .iconst 0, 1), (41, .ireturn, 1)]
set_option maxRecDepth 100000 in
theorem ev_d_8_1 : ∀ q ∈ ev_c_8_1, decode prog_2_method_9_code q.1 = .ok (q.2.1, q.2.2) := by decide +kernel
def ev_c_8 : List (Nat × List (Nat × Instr × Nat)) := [(0, ev_c_8_0), (1, ev_c_8_1)]
set_option maxRecDepth 100000 in
theorem ev_d_8 : ∀ q ∈ ev_c_8, ∀ z ∈ q.2, decode prog_2_method_9_code z.1 = .ok (z.2.1, z.2.2) := List.forall_mem_cons.mpr ⟨ev_d_8_0, List.forall_mem_cons.mpr ⟨ev_d_8_1, fun _ h => absurd h List.not_mem_nil⟩⟩
def ev_c_9_0 : List (Nat × Instr × Nat) := [(0, .aload_n 0, 1), (1, .getfield 40, 3), (4, .ifCond .eq 5, 3), (7, .iconst 1, 1), (8, .ireturn, 1), (9, .aload_n 0, 1), (10, .getfield 30, 3), (13, .ifCond .ne 5, 3), (16, .iconst 2, 1), (17, .ireturn, 1), (18, .aload_n 0, 1), (19, .getfield 33, 3), (22, .iconst 2, 1), (23, .if_icmp .lt 7, 3), (26, .iconst 3, 1), (27, .goto 4, 3), (30, .iconst 0, 1), (31, .ireturn, 1)]
set_option maxRecDepth 100000 in
theorem ev_d_9_0 : ∀ q ∈ ev_c_9_0, decode prog_2_method_10_code q.1 = .ok (q.2.1, q.2.2) := by decide +kernel
def ev_c_9 : List (Nat × List (Nat × Instr × Nat)) := [(0, ev_c_9_0)]
set_option maxRecDepth 100000 in
theorem ev_d_9 : ∀ q ∈ ev_c_9, ∀ z ∈ q.2, decode prog_2_method_10_code z.1 = .ok (z.2.1, z.2.2) := List.forall_mem_cons.mpr ⟨ev_d_9_0, fun _ h => absurd h List.not_mem_nil⟩
def ev_c_10_0 : List (Nat × Instr × Nat) := [(0, .aload_n 0, 1), (1, .getfield 15, 3), (4, .aload_n 0, 1), (5, .getfield 30, 3), (8, .ior, 1), (9, .ireturn, 1)]
set_option maxRecDepth 100000 in
theorem ev_d_10_0 : ∀ q ∈ ev_c_10_0, decode prog_2_method_11_code q.1 = .ok (q.2.1, q.2.2) := by decide +kernel
def ev_c_10 : List (Nat × List (Nat × Instr × Nat)) := [(0, ev_c_10_0)]
set_option maxRecDepth 100000 in
theorem ev_d_10 : ∀ q ∈ ev_c_10, ∀ z ∈ q.2, decode prog_2_method_11_code z.1 = .ok (z.2.1, z.2.2) := List.forall_mem_cons.mpr ⟨ev_d_10_0, fun _ h => absurd h List.not_mem_nil⟩
def ev_c_11_0 : List (Nat × Instr × Nat) := [(0, .iload_n 1, 1), (1, .aload_n 0, 1), (2, .getfield 15, 3), (5, .aload_n 0, 1), (6, .getfield 30, 3), (9, .ior, 1), (10, .iconst (-1), 1), (11, .ixor, 1), (12, .iand, 1), (13, .ireturn, 1)]
set_option maxRecDepth 100000 in
theorem ev_d_11_0 : ∀ q ∈ ev_c_11_0, decode prog_2_method_12_code q.1 = .ok (q.2.1, q.2.2) := by decide +kernel
def ev_c_11 : List (Nat × List (Nat × Instr × Nat)) := [(0, ev_c_11_0)]
set_option maxRecDepth 100000 in
theorem ev_d_11 : ∀ q ∈ ev_c_11, ∀ z ∈ q.2, decode prog_2_method_12_code z.1 = .ok (z.2.1, z.2.2) := List.forall_mem_cons.mpr ⟨ev_d_11_0, fun _ h => absurd h List.not_mem_nil⟩
def ev_c_12_0 : List (Nat × Instr × Nat) := [(0, .iconst 0, 1), (1, .aload_n 0, 1), (2, .getfield 21, 3), (5, .iconst 1, 1), (6, .isub, 1), (7, .iconst 2, 1), (8, .iload_n 1, 1), (9, .imul, 1), (10, .isub, 1), (11, .invokestatic 54, 3), (14, .ireturn, 1)]
set_option maxRecDepth 100000 in
theorem ev_d_12_0 : ∀ q ∈ ev_c_12_0, decode prog_2_method_13_code q.1 = .ok (q.2.1, q.2.2) := by decide +kernel
def ev_c_12 : List (Nat × List (Nat × Instr × Nat)) := [(0, ev_c_12_0)]
set_option maxRecDepth 100000 in
theorem ev_d_12 : ∀ q ∈ ev_c_12, ∀ z ∈ q.2, decode prog_2_method_13_code z.1 = .ok (z.2.1, z.2.2) := List.forall_mem_cons.mpr ⟨ev_d_12_0, fun _ h => absurd h List.not_mem_nil⟩
def ev_c_13_0 : List (Nat × Instr × Nat) := [(0, .aload_n 0, 1), (1, .dup, 1), (2, .getfield 30, 3), (5, .aload_n 0, 1), (6, .iload_n 2, 1), (7, .invokevirtual 60, 3), (10, .ior, 1), (11, .putfield 30, 3), (14, .aload_n 0, 1), (15, .aload_n 0, 1), (16, .iload_n 1, 1), (17, .invokevirtual 64, 3), (20, .putfield 21, 3), (23, .aload_n 0, 1), (24, .bipush 9, 2), (26, .putfield 24, 3), (29, .aload_n 0, 1), (30, .bipush 9, 2)]
set_option maxRecDepth 100000 in
theorem ev_d_13_0 : ∀ q ∈ ev_c_13_0, decode prog_2_method_14_code q.1 = .ok (q.2.1, q.2.2) := by decide +kernel
def ev_c_13_1 : List (Nat × Instr × Nat) := [(32, .aload_n 0, 1), (33, .getfield 27, 3), (36, .iconst 1, 1), (37, .iadd, 1), (38, .iload_n 1, 1), (39, .iadd, 1), (40, .invokestatic 67, 3), (43, .putfield 27, 3), (46, .return_, 1)]
set_option maxRecDepth 100000 in
theorem ev_d_13_1 : ∀ q ∈ ev_c_13_1, decode prog_2_method_14_code q.1 = .ok (q.2.1, q.2.2) := by decide +kernel
def ev_c_13 : List (Nat × List (Nat × Instr × Nat)) := [(0, ev_c_13_0), (1, ev_c_13_1)]
set_option maxRecDepth 100000 in
theorem ev_d_13 : ∀ q ∈ ev_c_13, ∀ z ∈ q.2, decode prog_2_method_14_code z.1 = .ok (z.2.1, z.2.2) := List.forall_mem_cons.mpr ⟨ev_d_13_0, List.forall_mem_cons.mpr ⟨ev_d_13_1, fun _ h => absurd h List.not_mem_nil⟩⟩
def ev_c_14_0 : List (Nat × Instr × Nat) := [(0, .aload_n 0, 1), (1, .bipush 9, 2), (3, .aload_n 0, 1), (4, .getfield 21, 3), (7, .iconst 1, 1), (8, .iadd, 1), (9, .invokestatic 67, 3), (12, .putfield 21, 3), (15, .return_, 1)]
set_option maxRecDepth 100000 in
theorem ev_d_14_0 : ∀ q ∈ ev_c_14_0, decode prog_2_method_15_code q.1 = .ok (q.2.1, q.2.2) := by decide +kernel
def ev_c_14 : List (Nat × List (Nat × Instr × Nat)) := [(0, ev_c_14_0)]
set_option maxRecDepth 100000 in
theorem ev_d_14 : ∀ q ∈ ev_c_14, ∀ z ∈ q.2, decode prog_2_method_15_code z.1 = .ok (z.2.1, z.2.2) := List.forall_mem_cons.mpr ⟨ev_d_14_0, fun _ h => absurd h List.not_mem_nil⟩
def ev_c_15_0 : List (Nat × Instr × Nat) := [(0, .iconst 0, 1), (1, .iload_n 0, 1), (2, .iconst 1, 1), (3, .isub, 1), (4, .iload_n 2, 1), (5, .isub, 1), (6, .iload_n 1, 1), (7, .ifCond .le 7, 3), (10, .iconst 1, 1), (11, .goto 4, 3), (14, .iconst 0, 1), (15, .isub, 1), (16, .invokestatic 54, 3), (19, .ireturn, 1)]
set_option maxRecDepth 100000 in
theorem ev_d_15_0 : ∀ q ∈ ev_c_15_0, decode prog_2_method_16_code q.1 = .ok (q.2.1, q.2.2) := by decide +kernel
def ev_c_15 : List (Nat × List (Nat × Instr × Nat)) := [(0, ev_c_15_0)]
set_option maxRecDepth 100000 in
theorem ev_d_15 : ∀ q ∈ ev_c_15, ∀ z ∈ q.2, decode prog_2_method_16_code z.1 = .ok (z.2.1, z.2.2) := List.forall_mem_cons.mpr ⟨ev_d_15_0, fun _ h => absurd h List.not_mem_nil⟩
def ev_c_16_0 : List (Nat × Instr × Nat) := [(0, .iconst 0, 1), (1, .iload_n 0, 1), (2, .iload_n 1, 1), (3, .isub, 1), (4, .invokestatic 54, 3), (7, .ireturn, 1)]
set_option maxRecDepth 100000 in
theorem ev_d_16_0 : ∀ q ∈ ev_c_16_0, decode prog_2_method_17_code q.1 = .ok (q.2.1, q.2.2) := by decide +kernel
def ev_c_16 : List (Nat × List (Nat × Instr × Nat)) := [(0, ev_c_16_0)]
set_option maxRecDepth 100000 in
theorem ev_d_16 : ∀ q ∈ ev_c_16, ∀ z ∈ q.2, decode prog_2_method_17_code z.1 = .ok (z.2.1, z.2.2) := List.forall_mem_cons.mpr ⟨ev_d_16_0, fun _ h => absurd h List.not_mem_nil⟩
def ev_c_17_0 : List (Nat × Instr × Nat) := [(0, .aload_n 0, 1), (1, .aload_n 0, 1), (2, .getfield 27, 3), (5, .aload_n 0, 1), (6, .getfield 24, 3), (9, .iload_n 1, 1), (10, .invokestatic 70, 3), (13, .putfield 27, 3), (16, .aload_n 0, 1), (17, .aload_n 0, 1), (18, .getfield 24, 3), (21, .iload_n 1, 1), (22, .invokestatic 74, 3), (25, .putfield 24, 3), (28, .return_, 1)]
set_option maxRecDepth 100000 in
theorem ev_d_17_0 : ∀ q ∈ ev_c_17_0, decode prog_2_method_18_code q.1 = .ok (q.2.1, q.2.2) := by decide +kernel
def ev_c_17 : List (Nat × List (Nat × Instr × Nat)) := [(0, ev_c_17_0)]
set_option maxRecDepth 100000 in
theorem ev_d_17 : ∀ q ∈ ev_c_17, ∀ z ∈ q.2, decode prog_2_method_18_code z.1 = .ok (z.2.1, z.2.2) := List.forall_mem_cons.mpr ⟨ev_d_17_0, fun _ h => absurd h List.not_mem_nil⟩
def ev_c_18_0 : List (Nat × Instr × Nat) := [(0, .aload_n 0, 1), (1, .getfield 30, 3), (4, .invokestatic 77, 3), (7, .istore_n 1, 1), (8, .aload_n 0, 1), (9, .iconst 0, 1), (10, .putfield 30, 3), (13, .aload_n 0, 1), (14, .dup, 1), (15, .getfield 33, 3), (18, .iconst 1, 1), (19, .iadd, 1), (20, .putfield 33, 3), (23, .iload_n 1, 1), (24, .ireturn, 1)]
set_option maxRecDepth 100000 in
theorem ev_d_18_0 : ∀ q ∈ ev_c_18_0, decode prog_2_method_19_code q.1 = .ok (q.2.1, q.2.2) := by decide +kernel
def ev_c_18 : List (Nat × List (Nat × Instr × Nat)) := [(0, ev_c_18_0)]
set_option maxRecDepth 100000 in
theorem ev_d_18 : ∀ q ∈ ev_c_18, ∀ z ∈ q.2, decode prog_2_method_19_code z.1 = .ok (z.2.1, z.2.2) := List.forall_mem_cons.mpr ⟨ev_d_18_0, fun _ h => absurd h List.not_mem_nil⟩
def ev_c_19_0 : List (Nat × Instr × Nat) := [(0, .aload_n 0, 1), (1, .iload_n 1, 1), (2, .invokevirtual 82, 3), (5, .ifCond .eq 5, 3), (8, .iconst (-1), 1), (9, .ireturn, 1), (10, .iconst 0, 1), (11, .istore_n 2, 1), (12, .aload_n 0, 1), (13, .getfield 27, 3), (16, .istore_n 3, 1), (17, .aload_n 0, 1), (18, .getfield 24, 3), (21, .istore 4, 2), (23, .iload_n 3, 1), (24, .ifCond .le 31, 3), (27, .iload_n 2, 1), (28, .bipush 9, 2), (30, .if_icmp .ge 25, 3)]
set_option maxRecDepth 100000 in
theorem ev_d_19_0 : ∀ q ∈ ev_c_19_0, decode prog_2_method_21_code q.1 = .ok (q.2.1, q.2.2) := by decide +kernel
def ev_c_19_1 : List (Nat × Instr × Nat) := [(33, .iload_n 3, 1), (34, .iload 4, 2), (36, .iload_n 1, 1), (37, .invokestatic 70, 3), (40, .istore_n 3, 1), (41, .iload 4, 2), (43, .iload_n 1, 1), (44, .invokestatic 74, 3), (47, .istore 4, 2), (49, .iinc 2 1, 3), (52, .goto (-29), 3), (55, .iload_n 2, 1), (56, .ireturn, 1)]
set_option maxRecDepth 100000 in
theorem ev_d_19_1 : ∀ q ∈ ev_c_19_1, decode prog_2_method_21_code q.1 = .ok (q.2.1, q.2.2) := by decide +kernel
def ev_c_19 : List (Nat × List (Nat × Instr × Nat)) := [(0, ev_c_19_0), (1, ev_c_19_1)]
set_option maxRecDepth 100000 in
theorem ev_d_19 : ∀ q ∈ ev_c_19, ∀ z ∈ q.2, decode prog_2_method_21_code z.1 = .ok (z.2.1, z.2.2) := List.forall_mem_cons.mpr ⟨ev_d_19_0, List.forall_mem_cons.mpr ⟨ev_d_19_1, fun _ h => absurd h List.not_mem_nil⟩⟩
def ev_c_20_0 : List (Nat × Instr × Nat) := [(0, .aload_n 0, 1), (1, .invokespecial 3, 3), (4, .aload_n 0, 1), (5, .bipush 8, 2), (7, .anewarray 9, 3), (10, .putfield 11, 3), (13, .iconst 0, 1), (14, .istore_n 1, 1), (15, .iload_n 1, 1), (16, .bipush 8, 2), (18, .if_icmp .ge 22, 3), (21, .aload_n 0, 1), (22, .getfield 11, 3), (25, .iload_n 1, 1), (26, .new 9, 3), (29, .dup, 1), (30, .invokespecial 17, 3)]
set_option maxRecDepth 100000 in
theorem ev_d_20_0 : ∀ q ∈ ev_c_20_0, decode prog_3_method_1_code q.1 = .ok (q.2.1, q.2.2) := by decide +kernel
def ev_c_20_1 : List (Nat × Instr × Nat) := [(33, .aastore, 1), (34, .iinc 1 1, 3), (37, .goto (-22), 3), (40, .aload_n 0, 1), (41, .iconst 2, 1), (42, .anewarray 9, 3), (45, .putfield 18, 3), (48, .iconst 0, 1), (49, .istore_n 1, 1), (50, .iload_n 1, 1), (51, .iconst 2, 1), (52, .if_icmp .ge 22, 3), (55, .aload_n 0, 1), (56, .getfield 18, 3), (59, .iload_n 1, 1), (60, .new 9, 3), (63, .dup, 1)]
set_option maxRecDepth 100000 in
theorem ev_d_20_1 : ∀ q ∈ ev_c_20_1, decode prog_3_method_1_code q.1 = .ok (q.2.1, q.2.2) := by decide +kernel
def ev_c_20_2 : List (Nat × Instr × Nat) := [(64, .invokespecial 17, 3), (67, .aastore, 1), (68, .iinc 1 1, 3), (71, .goto (-21), 3), (74, .aload_n 0, 1), (75, .iconst 2, 1), (76, .newarray .boolean, 2), (78, .putfield 21, 3), (81, .return_, 1)]
set_option maxRecDepth 100000 in
theorem ev_d_20_2 : ∀ q ∈ ev_c_20_2, decode prog_3_method_1_code q.1 = .ok (q.2.1, q.2.2) := by decide +kernel
def ev_c_20 : List (Nat × List (Nat × Instr × Nat)) := [(0, ev_c_20_0), (1, ev_c_20_1), (2, ev_c_20_2)]
set_option maxRecDepth 100000 in
theorem ev_d_20 : ∀ q ∈ ev_c_20, ∀ z ∈ q.2, decode prog_3_method_1_code z.1 = .ok (z.2.1, z.2.2) := List.forall_mem_cons.mpr ⟨ev_d_20_0, List.forall_mem_cons.mpr ⟨ev_d_20_1, List.forall_mem_cons.mpr ⟨ev_d_20_2, fun _ h => absurd h List.not_mem_nil⟩⟩⟩
def ev_c_21_0 : List (Nat × Instr × Nat) := [(0, .aload_n 0, 1), (1, .iconst 0, 1), (2, .putfield 25, 3), (5, .aload_n 0, 1), (6, .iconst 0, 1), (7, .putfield 29, 3), (10, .return_, 1)]
set_option maxRecDepth 100000 in
theorem ev_d_21_0 : ∀ q ∈ ev_c_21_0, decode prog_3_method_2_code q.1 = .ok (q.2.1, q.2.2) := by decide +kernel
def ev_c_21 : List (Nat × List (Nat × Instr × Nat)) := [(0, ev_c_21_0)]
set_option maxRecDepth 100000 in
theorem ev_d_21 : ∀ q ∈ ev_c_21, ∀ z ∈ q.2, decode prog_3_method_2_code z.1 = .ok (z.2.1, z.2.2) := List.forall_mem_cons.mpr ⟨ev_d_21_0, fun _ h => absurd h List.not_mem_nil⟩
def ev_c_22_0 : List (Nat × Instr × Nat) := [(0, .aload_n 0, 1), (1, .invokevirtual 32, 3), (4, .iconst 0, 1), (5, .istore_n 1, 1), (6, .iload_n 1, 1), (7, .iconst 2, 1), (8, .if_icmp .ge 16, 3), (11, .aload_n 0, 1), (12, .getfield 21, 3), (15, .iload_n 1, 1), (16, .iconst 0, 1), (17, .bastore, 1), (18, .iinc 1 1, 3), (21, .goto (-15), 3), (24, .return_, 1)]
set_option maxRecDepth 100000 in
theorem ev_d_22_0 : ∀ q ∈ ev_c_22_0, decode prog_3_method_3_code q.1 = .ok (q.2.1, q.2.2) := by decide +kernel
def ev_c_22 : List (Nat × List (Nat × Instr × Nat)) := [(0, ev_c_22_0)]
set_option maxRecDepth 100000 in
theorem ev_d_22 : ∀ q ∈ ev_c_22, ∀ z ∈ q.2, decode prog_3_method_3_code z.1 = .ok (z.2.1, z.2.2) := List.forall_mem_cons.mpr ⟨ev_d_22_0, fun _ h => absurd h List.not_mem_nil⟩
def ev_c_23_0 : List (Nat × Instr × Nat) := [(0, .aload_n 0, 1), (1, .getfield 11, 3), (4, .aload_n 0, 1), (5, .getfield 29, 3), (8, .aload_n 0, 1), (9, .getfield 25, 3), (12, .iadd, 1), (13, .bipush 8, 2), (15, .irem, 1), (16, .aaload, 1), (17, .aload_n 1, 1), (18, .invokevirtual 35, 3), (21, .aload_n 0, 1), (22, .getfield 25, 3), (25, .bipush 8, 2), (27, .if_icmp .ge 16, 3), (30, .aload_n 0, 1), (31, .dup, 1)]
set_option maxRecDepth 100000 in
theorem ev_d_23_0 : ∀ q ∈ ev_c_23_0, decode prog_3_method_4_code q.1 = .ok (q.2.1, q.2.2) := by decide +kernel
def ev_c_23_1 : List (Nat × Instr × Nat) := [(32, .getfield 25, 3), (35, .iconst 1, 1), (36, .iadd, 1), (37, .putfield 25, 3), (40, .goto 16, 3), (43, .aload_n 0, 1), (44, .aload_n 0, 1), (45, .getfield 29, 3), (48, .iconst 1, 1), (49, .iadd, 1), (50, .bipush 8, 2), (52, .irem, 1), (53, .putfield 29, 3), (56, .return_, 1)]
set_option maxRecDepth 100000 in
theorem ev_d_23_1 : ∀ q ∈ ev_c_23_1, decode prog_3_method_4_code q.1 = .ok (q.2.1, q.2.2) := by decide +kernel
def ev_c_23 : List (Nat × List (Nat × Instr × Nat)) := [(0, ev_c_23_0), (1, ev_c_23_1)]
set_option maxRecDepth 100000 in
theorem ev_d_23 : ∀ q ∈ ev_c_23, ∀ z ∈ q.2, decode prog_3_method_4_code z.1 = .ok (z.2.1, z.2.2) := List.forall_mem_cons.mpr ⟨ev_d_23_0, List.forall_mem_cons.mpr ⟨ev_d_23_1, fun _ h => absurd h List.not_mem_nil⟩⟩
def ev_c_24_0 : List (Nat × Instr × Nat) := [(0, .aload_n 0, 1), (1, .getfield 18, 3), (4, .iload_n 1, 1), (5, .aaload, 1), (6, .aload_n 2, 1), (7, .invokevirtual 35, 3), (10, .aload_n 0, 1), (11, .getfield 21, 3), (14, .iload_n 1, 1), (15, .iconst 1, 1), (16, .bastore, 1), (17, .return_, 1)]
set_option maxRecDepth 100000 in
theorem ev_d_24_0 : ∀ q ∈ ev_c_24_0, decode prog_3_method_6_code q.1 = .ok (q.2.1, q.2.2) := by decide +kernel
def ev_c_24 : List (Nat × List (Nat × Instr × Nat)) := [(0, ev_c_24_0)]
set_option maxRecDepth 100000 in
theorem ev_d_24 : ∀ q ∈ ev_c_24, ∀ z ∈ q.2, decode prog_3_method_6_code z.1 = .ok (z.2.1, z.2.2) := List.forall_mem_cons.mpr ⟨ev_d_24_0, fun _ h => absurd h List.not_mem_nil⟩
def ev_c_25_0 : List (Nat × Instr × Nat) := [(0, .aload_n 2, 1), (1, .aload_n 0, 1), (2, .getfield 18, 3), (5, .iload_n 1, 1), (6, .aaload, 1), (7, .invokevirtual 35, 3), (10, .aload_n 0, 1), (11, .invokevirtual 32, 3), (14, .return_, 1)]
set_option maxRecDepth 100000 in
theorem ev_d_25_0 : ∀ q ∈ ev_c_25_0, decode prog_3_method_7_code q.1 = .ok (q.2.1, q.2.2) := by decide +kernel
def ev_c_25 : List (Nat × List (Nat × Instr × Nat)) := [(0, ev_c_25_0)]
set_option maxRecDepth 100000 in
theorem ev_d_25 : ∀ q ∈ ev_c_25, ∀ z ∈ q.2, decode prog_3_method_7_code z.1 = .ok (z.2.1, z.2.2) := List.forall_mem_cons.mpr ⟨ev_d_25_0, fun _ h => absurd h List.not_mem_nil⟩
def ev_c_26_0 : List (Nat × Instr × Nat) := [(0, .aload_n 0, 1), (1, .invokespecial 3, 3), (4, .aload_n 0, 1), (5, .new 9, 3), (8, .dup, 1), (9, .invokespecial 11, 3), (12, .putfield 12, 3), (15, .aload_n 0, 1), (16, .new 18, 3), (19, .dup, 1), (20, .invokespecial 20, 3), (23, .putfield 21, 3), (26, .aload_n 0, 1), (27, .bipush 12, 2), (29, .newarray .int, 2), (31, .putfield 25, 3)]
set_option maxRecDepth 100000 in
theorem ev_d_26_0 : ∀ q ∈ ev_c_26_0, decode prog_4_method_1_code q.1 = .ok (q.2.1, q.2.2) := by decide +kernel
def ev_c_26_1 : List (Nat × Instr × Nat) := [(34, .return_, 1)]
set_option maxRecDepth 100000 in
theorem ev_d_26_1 : ∀ q ∈ ev_c_26_1, decode prog_4_method_1_code q.1 = .ok (q.2.1, q.2.2) := by decide +kernel
def ev_c_26 : List (Nat × List (Nat × Instr × Nat)) := [(0, ev_c_26_0), (1, ev_c_26_1)]
set_option maxRecDepth 100000 in
theorem ev_d_26 : ∀ q ∈ ev_c_26, ∀ z ∈ q.2, decode prog_4_method_1_code z.1 = .ok (z.2.1, z.2.2) := List.forall_mem_cons.mpr ⟨ev_d_26_0, List.forall_mem_cons.mpr ⟨ev_d_26_1, fun _ h => absurd h List.not_mem_nil⟩⟩
def ev_c_27_0 : List (Nat × Instr × Nat) := [(0, .aload_n 0, 1), (1, .getfield 12, 3), (4, .invokevirtual 29, 3), (7, .aload_n 0, 1), (8, .getfield 21, 3), (11, .invokevirtual 32, 3), (14, .return_, 1)]
set_option maxRecDepth 100000 in
theorem ev_d_27_0 : ∀ q ∈ ev_c_27_0, decode prog_4_method_2_code q.1 = .ok (q.2.1, q.2.2) := by decide +kernel
def ev_c_27 : List (Nat × List (Nat × Instr × Nat)) := [(0, ev_c_27_0)]
set_option maxRecDepth 100000 in
theorem ev_d_27 : ∀ q ∈ ev_c_27, ∀ z ∈ q.2, decode prog_4_method_2_code z.1 = .ok (z.2.1, z.2.2) := List.forall_mem_cons.mpr ⟨ev_d_27_0, fun _ h => absurd h List.not_mem_nil⟩
def ev_c_28_0 : List (Nat × Instr × Nat) := [(0, .iconst 3, 1), (1, .istore_n 2, 1), (2, .iconst 0, 1), (3, .istore_n 3, 1), (4, .iload_n 3, 1), (5, .aload_n 0, 1), (6, .getfield 21, 3), (9, .getfield 33, 3), (12, .iload_n 1, 1), (13, .iaload, 1), (14, .if_icmp .ge 26, 3), (17, .iload_n 2, 1), (18, .aload_n 0, 1), (19, .getfield 21, 3), (22, .iload_n 1, 1), (23, .iload_n 3, 1), (24, .invokevirtual 36, 3), (27, .getfield 40, 3), (30, .invokestatic 46, 3)]
set_option maxRecDepth 100000 in
theorem ev_d_28_0 : ∀ q ∈ ev_c_28_0, decode prog_4_method_3_code q.1 = .ok (q.2.1, q.2.2) := by decide +kernel
def ev_c_28_1 : List (Nat × Instr × Nat) := [(33, .istore_n 2, 1), (34, .iinc 3 1, 3), (37, .goto (-33), 3), (40, .iload_n 2, 1), (41, .ireturn, 1)]
set_option maxRecDepth 100000 in
theorem ev_d_28_1 : ∀ q ∈ ev_c_28_1, decode prog_4_method_3_code q.1 = .ok (q.2.1, q.2.2) := by decide +kernel
def ev_c_28 : List (Nat × List (Nat × Instr × Nat)) := [(0, ev_c_28_0), (1, ev_c_28_1)]
set_option maxRecDepth 100000 in
theorem ev_d_28 : ∀ q ∈ ev_c_28, ∀ z ∈ q.2, decode prog_4_method_3_code z.1 = .ok (z.2.1, z.2.2) := List.forall_mem_cons.mpr ⟨ev_d_28_0, List.forall_mem_cons.mpr ⟨ev_d_28_1, fun _ h => absurd h List.not_mem_nil⟩⟩
def ev_c_29_0 : List (Nat × Instr × Nat) := [(0, .iconst 0, 1), (1, .istore_n 2, 1), (2, .iconst 0, 1), (3, .istore_n 3, 1), (4, .iload_n 3, 1), (5, .aload_n 0, 1), (6, .getfield 21, 3), (9, .getfield 33, 3), (12, .iload_n 1, 1), (13, .iaload, 1), (14, .if_icmp .ge 24, 3), (17, .iload_n 2, 1), (18, .aload_n 0, 1), (19, .getfield 21, 3), (22, .iload_n 1, 1), (23, .iload_n 3, 1), (24, .invokevirtual 36, 3), (27, .getfield 52, 3), (30, .iadd, 1), (31, .istore_n 2, 1)]
set_option maxRecDepth 100000 in
theorem ev_d_29_0 : ∀ q ∈ ev_c_29_0, decode prog_4_method_4_code q.1 = .ok (q.2.1, q.2.2) := by decide +kernel
def ev_c_29_1 : List (Nat × Instr × Nat) := [(32, .iinc 3 1, 3), (35, .goto (-31), 3), (38, .iload_n 2, 1), (39, .ireturn, 1)]
set_option maxRecDepth 100000 in
theorem ev_d_29_1 : ∀ q ∈ ev_c_29_1, decode prog_4_method_4_code q.1 = .ok (q.2.1, q.2.2) := by decide +kernel
def ev_c_29 : List (Nat × List (Nat × Instr × Nat)) := [(0, ev_c_29_0), (1, ev_c_29_1)]
set_option maxRecDepth 100000 in
theorem ev_d_29 : ∀ q ∈ ev_c_29, ∀ z ∈ q.2, decode prog_4_method_4_code z.1 = .ok (z.2.1, z.2.2) := List.forall_mem_cons.mpr ⟨ev_d_29_0, List.forall_mem_cons.mpr ⟨ev_d_29_1, fun _ h => absurd h List.not_mem_nil⟩⟩
def ev_c_30_0 : List (Nat × Instr × Nat) := [(0, .iconst 0, 1), (1, .istore_n 2, 1), (2, .iconst 0, 1), (3, .istore_n 3, 1), (4, .iload_n 3, 1), (5, .aload_n 0, 1), (6, .getfield 21, 3), (9, .getfield 33, 3), (12, .iload_n 1, 1), (13, .iaload, 1), (14, .if_icmp .ge 24, 3), (17, .iload_n 2, 1), (18, .aload_n 0, 1), (19, .getfield 21, 3), (22, .iload_n 1, 1), (23, .iload_n 3, 1), (24, .invokevirtual 36, 3), (27, .getfield 55, 3), (30, .ior, 1), (31, .istore_n 2, 1)]
set_option maxRecDepth 100000 in
theorem ev_d_30_0 : ∀ q ∈ ev_c_30_0, decode prog_4_method_5_code q.1 = .ok (q.2.1, q.2.2) := by decide +kernel
def ev_c_30_1 : List (Nat × Instr × Nat) := [(32, .iinc 3 1, 3), (35, .goto (-31), 3), (38, .iload_n 2, 1), (39, .ireturn, 1)]
set_option maxRecDepth 100000 in
theorem ev_d_30_1 : ∀ q ∈ ev_c_30_1, decode prog_4_method_5_code q.1 = .ok (q.2.1, q.2.2) := by decide +kernel
def ev_c_30 : List (Nat × List (Nat × Instr × Nat)) := [(0, ev_c_30_0), (1, ev_c_30_1)]
set_option maxRecDepth 100000 in
theorem ev_d_30 : ∀ q ∈ ev_c_30, ∀ z ∈ q.2, decode prog_4_method_5_code z.1 = .ok (z.2.1, z.2.2) := List.forall_mem_cons.mpr ⟨ev_d_30_0, List.forall_mem_cons.mpr ⟨ev_d_30_1, fun _ h => absurd h List.not_mem_nil⟩⟩
def ev_c_31_0 : List (Nat × Instr × Nat) := [(0, .iconst 0, 1), (1, .istore_n 2, 1), (2, .iconst 0, 1), (3, .istore_n 3, 1), (4, .iload_n 3, 1), (5, .aload_n 0, 1), (6, .getfield 21, 3), (9, .getfield 33, 3), (12, .iload_n 1, 1), (13, .iaload, 1), (14, .if_icmp .ge 24, 3), (17, .iload_n 2, 1), (18, .aload_n 0, 1), (19, .getfield 21, 3), (22, .iload_n 1, 1), (23, .iload_n 3, 1), (24, .invokevirtual 36, 3), (27, .invokevirtual 58, 3), (30, .ior, 1), (31, .istore_n 2, 1)]
set_option maxRecDepth 100000 in
theorem ev_d_31_0 : ∀ q ∈ ev_c_31_0, decode prog_4_method_6_code q.1 = .ok (q.2.1, q.2.2) := by decide +kernel
def ev_c_31_1 : List (Nat × Instr × Nat) := [(32, .iinc 3 1, 3), (35, .goto (-31), 3), (38, .iload_n 2, 1), (39, .ireturn, 1)]
set_option maxRecDepth 100000 in
theorem ev_d_31_1 : ∀ q ∈ ev_c_31_1, decode prog_4_method_6_code q.1 = .ok (q.2.1, q.2.2) := by decide +kernel
def ev_c_31 : List (Nat × List (Nat × Instr × Nat)) := [(0, ev_c_31_0), (1, ev_c_31_1)]
set_option maxRecDepth 100000 in
theorem ev_d_31 : ∀ q ∈ ev_c_31, ∀ z ∈ q.2, decode prog_4_method_6_code z.1 = .ok (z.2.1, z.2.2) := List.forall_mem_cons.mpr ⟨ev_d_31_0, List.forall_mem_cons.mpr ⟨ev_d_31_1, fun _ h => absurd h List.not_mem_nil⟩⟩
def ev_c_32_0 : List (Nat × Instr × Nat) := [(0, .aload_n 0, 1), (1, .iload_n 1, 1), (2, .invokevirtual 62, 3), (5, .aload_n 0, 1), (6, .getfield 12, 3), (9, .iload_n 2, 1), (10, .invokevirtual 66, 3), (13, .iand, 1), (14, .ireturn, 1)]
set_option maxRecDepth 100000 in
theorem ev_d_32_0 : ∀ q ∈ ev_c_32_0, decode prog_4_method_7_code q.1 = .ok (q.2.1, q.2.2) := by decide +kernel
def ev_c_32 : List (Nat × List (Nat × Instr × Nat)) := [(0, ev_c_32_0)]
set_option maxRecDepth 100000 in
theorem ev_d_32 : ∀ q ∈ ev_c_32, ∀ z ∈ q.2, decode prog_4_method_7_code z.1 = .ok (z.2.1, z.2.2) := List.forall_mem_cons.mpr ⟨ev_d_32_0, fun _ h => absurd h List.not_mem_nil⟩
def ev_c_33_0 : List (Nat × Instr × Nat) := [(0, .iconst 0, 1), (1, .istore_n 3, 1), (2, .iconst 0, 1), (3, .istore 4, 2), (5, .iload 4, 2), (7, .aload_n 0, 1), (8, .getfield 21, 3), (11, .getfield 33, 3), (14, .iload_n 1, 1), (15, .iaload, 1), (16, .if_icmp .ge 29, 3), (19, .aload_n 0, 1), (20, .getfield 21, 3), (23, .iload_n 1, 1), (24, .iload 4, 2), (26, .invokevirtual 36, 3), (29, .iload_n 2, 1), (30, .invokevirtual 69, 3)]
set_option maxRecDepth 100000 in
theorem ev_d_33_0 : ∀ q ∈ ev_c_33_0, decode prog_4_method_8_code q.1 = .ok (q.2.1, q.2.2) := by decide +kernel
def ev_c_33_1 : List (Nat × Instr × Nat) := [(33, .ifCond .eq 6, 3), (36, .iinc 3 1, 3), (39, .iinc 4 1, 3), (42, .goto (-37), 3), (45, .iload_n 3, 1), (46, .ireturn, 1)]
set_option maxRecDepth 100000 in
theorem ev_d_33_1 : ∀ q ∈ ev_c_33_1, decode prog_4_method_8_code q.1 = .ok (q.2.1, q.2.2) := by decide +kernel
def ev_c_33 : List (Nat × List (Nat × Instr × Nat)) := [(0, ev_c_33_0), (1, ev_c_33_1)]
set_option maxRecDepth 100000 in
theorem ev_d_33 : ∀ q ∈ ev_c_33, ∀ z ∈ q.2, decode prog_4_method_8_code z.1 = .ok (z.2.1, z.2.2) := List.forall_mem_cons.mpr ⟨ev_d_33_0, List.forall_mem_cons.mpr ⟨ev_d_33_1, fun _ h => absurd h List.not_mem_nil⟩⟩
def ev_c_34_0 : List (Nat × Instr × Nat) := [(0, .iconst 0, 1), (1, .istore_n 3, 1), (2, .iconst 0, 1), (3, .istore 4, 2), (5, .iload 4, 2), (7, .aload_n 0, 1), (8, .getfield 21, 3), (11, .getfield 33, 3), (14, .iload_n 1, 1), (15, .iaload, 1), (16, .if_icmp .ge 26, 3), (19, .iload_n 3, 1), (20, .aload_n 0, 1), (21, .getfield 21, 3), (24, .iload_n 1, 1), (25, .iload 4, 2), (27, .invokevirtual 36, 3), (30, .iload_n 2, 1), (31, .invokevirtual 72, 3)]
set_option maxRecDepth 100000 in
theorem ev_d_34_0 : ∀ q ∈ ev_c_34_0, decode prog_4_method_9_code q.1 = .ok (q.2.1, q.2.2) := by decide +kernel
def ev_c_34_1 : List (Nat × Instr × Nat) := [(34, .iadd, 1), (35, .istore_n 3, 1), (36, .iinc 4 1, 3), (39, .goto (-34), 3), (42, .iload_n 3, 1), (43, .ireturn, 1)]
set_option maxRecDepth 100000 in
theorem ev_d_34_1 : ∀ q ∈ ev_c_34_1, decode prog_4_method_9_code q.1 = .ok (q.2.1, q.2.2) := by decide +kernel
def ev_c_34 : List (Nat × List (Nat × Instr × Nat)) := [(0, ev_c_34_0), (1, ev_c_34_1)]
set_option maxRecDepth 100000 in
theorem ev_d_34 : ∀ q ∈ ev_c_34, ∀ z ∈ q.2, decode prog_4_method_9_code z.1 = .ok (z.2.1, z.2.2) := List.forall_mem_cons.mpr ⟨ev_d_34_0, List.forall_mem_cons.mpr ⟨ev_d_34_1, fun _ h => absurd h List.not_mem_nil⟩⟩
def ev_c_35_0 : List (Nat × Instr × Nat) := [(0, .aload_n 0, 1), (1, .getfield 21, 3), (4, .getfield 75, 3), (7, .iload_n 1, 1), (8, .aaload, 1), (9, .getfield 79, 3), (12, .ifCond .eq 5, 3), (15, .iconst 1, 1), (16, .ireturn, 1), (17, .aload_n 0, 1), (18, .getfield 21, 3), (21, .getfield 33, 3), (24, .iload_n 2, 1), (25, .iaload, 1), (26, .aload_n 0, 1), (27, .getfield 12, 3), (30, .getfield 82, 3)]
set_option maxRecDepth 100000 in
theorem ev_d_35_0 : ∀ q ∈ ev_c_35_0, decode prog_4_method_10_code q.1 = .ok (q.2.1, q.2.2) := by decide +kernel
def ev_c_35_1 : List (Nat × Instr × Nat) := [(33, .iload_n 2, 1), (34, .iaload, 1), (35, .if_icmp .lt 7, 3), (38, .iconst 2, 1), (39, .goto 4, 3), (42, .iconst 0, 1), (43, .ireturn, 1)]
set_option maxRecDepth 100000 in
theorem ev_d_35_1 : ∀ q ∈ ev_c_35_1, decode prog_4_method_10_code q.1 = .ok (q.2.1, q.2.2) := by decide +kernel
def ev_c_35 : List (Nat × List (Nat × Instr × Nat)) := [(0, ev_c_35_0), (1, ev_c_35_1)]
set_option maxRecDepth 100000 in
theorem ev_d_35 : ∀ q ∈ ev_c_35, ∀ z ∈ q.2, decode prog_4_method_10_code z.1 = .ok (z.2.1, z.2.2) := List.forall_mem_cons.mpr ⟨ev_d_35_0, List.forall_mem_cons.mpr ⟨ev_d_35_1, fun _ h => absurd h List.not_mem_nil⟩⟩
def ev_c_36_0 : List (Nat × Instr × Nat) := [(0, .aload_n 0, 1), (1, .getfield 21, 3), (4, .getfield 33, 3), (7, .iload_n 1, 1), (8, .iaload, 1), (9, .ifCond .ne 5, 3), (12, .iconst 1, 1), (13, .ireturn, 1), (14, .iload_n 2, 1), (15, .aload_n 0, 1), (16, .iload_n 1, 1), (17, .invokevirtual 85, 3), (20, .if_icmp .le 7, 3), (23, .iconst 2, 1), (24, .goto 4, 3), (27, .iconst 0, 1), (28, .ireturn, 1)]
set_option maxRecDepth 100000 in
theorem ev_d_36_0 : ∀ q ∈ ev_c_36_0, decode prog_4_method_11_code q.1 = .ok (q.2.1, q.2.2) := by decide +kernel
def ev_c_36 : List (Nat × List (Nat × Instr × Nat)) := [(0, ev_c_36_0)]
set_option maxRecDepth 100000 in
theorem ev_d_36 : ∀ q ∈ ev_c_36, ∀ z ∈ q.2, decode prog_4_method_11_code z.1 = .ok (z.2.1, z.2.2) := List.forall_mem_cons.mpr ⟨ev_d_36_0, fun _ h => absurd h List.not_mem_nil⟩
def ev_c_37_0 : List (Nat × Instr × Nat) := [(0, .aload_n 0, 1), (1, .iload_n 1, 1), (2, .invokevirtual 62, 3), (5, .aload_n 0, 1), (6, .getfield 12, 3), (9, .iload_n 2, 1), (10, .invokevirtual 66, 3), (13, .iand, 1), (14, .istore_n 3, 1), (15, .aload_n 0, 1), (16, .iload_n 1, 1), (17, .iload_n 3, 1), (18, .invokevirtual 88, 3), (21, .istore 4, 2), (23, .iconst 0, 1), (24, .istore 5, 2), (26, .iload 5, 2), (28, .aload_n 0, 1), (29, .getfield 21, 3)]
set_option maxRecDepth 100000 in
theorem ev_d_37_0 : ∀ q ∈ ev_c_37_0, decode prog_4_method_12_code q.1 = .ok (q.2.1, q.2.2) := by decide +kernel
def ev_c_37_1 : List (Nat × Instr × Nat) := [(32, .getfield 33, 3), (35, .iload_n 1, 1), (36, .iaload, 1), (37, .if_icmp .ge 24, 3), (40, .aload_n 0, 1), (41, .getfield 21, 3), (44, .iload_n 1, 1), (45, .iload 5, 2), (47, .invokevirtual 36, 3), (50, .iload_n 2, 1), (51, .iload_n 3, 1), (52, .invokevirtual 91, 3), (55, .iinc 5 1, 3), (58, .goto (-32), 3), (61, .aload_n 0, 1), (62, .getfield 21, 3)]
set_option maxRecDepth 100000 in
theorem ev_d_37_1 : ∀ q ∈ ev_c_37_1, decode prog_4_method_12_code q.1 = .ok (q.2.1, q.2.2) := by decide +kernel
def ev_c_37_2 : List (Nat × Instr × Nat) := [(65, .iload_n 1, 1), (66, .invokevirtual 95, 3), (69, .pop, 1), (70, .aload_n 0, 1), (71, .getfield 21, 3), (74, .dup, 1), (75, .getfield 98, 3), (78, .iconst 1, 1), (79, .iadd, 1), (80, .putfield 98, 3), (83, .iload 4, 2), (85, .ireturn, 1)]
set_option maxRecDepth 100000 in
theorem ev_d_37_2 : ∀ q ∈ ev_c_37_2, decode prog_4_method_12_code q.1 = .ok (q.2.1, q.2.2) := by decide +kernel
def ev_c_37 : List (Nat × List (Nat × Instr × Nat)) := [(0, ev_c_37_0), (1, ev_c_37_1), (2, ev_c_37_2)]
set_option maxRecDepth 100000 in
theorem ev_d_37 : ∀ q ∈ ev_c_37, ∀ z ∈ q.2, decode prog_4_method_12_code z.1 = .ok (z.2.1, z.2.2) := List.forall_mem_cons.mpr ⟨ev_d_37_0, List.forall_mem_cons.mpr ⟨ev_d_37_1, List.forall_mem_cons.mpr ⟨ev_d_37_2, fun _ h => absurd h List.not_mem_nil⟩⟩⟩
def ev_c_38_0 : List (Nat × Instr × Nat) := [(0, .aload_n 0, 1), (1, .getfield 21, 3), (4, .getfield 33, 3), (7, .iload_n 1, 1), (8, .iaload, 1), (9, .ifCond .ne 5, 3), (12, .iconst (-1), 1), (13, .ireturn, 1), (14, .iconst 0, 1), (15, .istore_n 2, 1), (16, .aload_n 0, 1), (17, .iload_n 1, 1), (18, .aload_n 0, 1), (19, .iload_n 1, 1), (20, .iconst 0, 1), (21, .invokevirtual 101, 3), (24, .invokevirtual 88, 3), (27, .istore_n 3, 1), (28, .aload_n 0, 1), (29, .iload_n 1, 1), (30, .invokevirtual 85, 3)]
set_option maxRecDepth 100000 in
theorem ev_d_38_0 : ∀ q ∈ ev_c_38_0, decode prog_4_method_13_code q.1 = .ok (q.2.1, q.2.2) := by decide +kernel
def ev_c_38_1 : List (Nat × Instr × Nat) := [(33, .istore 4, 2), (35, .iconst 1, 1), (36, .istore 5, 2), (38, .iload 5, 2), (40, .iload 4, 2), (42, .if_icmp .gt 57, 3), (45, .aload_n 0, 1), (46, .iload_n 1, 1), (47, .aload_n 0, 1), (48, .iload_n 1, 1), (49, .iload 5, 2), (51, .invokevirtual 101, 3), (54, .invokevirtual 88, 3), (57, .istore 6, 2), (59, .iload 6, 2), (61, .iload_n 3, 1), (62, .if_icmp .lt 25, 3)]
set_option maxRecDepth 100000 in
theorem ev_d_38_1 : ∀ q ∈ ev_c_38_1, decode prog_4_method_13_code q.1 = .ok (q.2.1, q.2.2) := by decide +kernel
def ev_c_38_2 : List (Nat × Instr × Nat) := [(65, .iload 6, 2), (67, .iload_n 3, 1), (68, .if_icmp .ne 25, 3), (71, .aload_n 0, 1), (72, .iload_n 1, 1), (73, .iload 5, 2), (75, .invokevirtual 104, 3), (78, .aload_n 0, 1), (79, .iload_n 1, 1), (80, .iload_n 2, 1), (81, .invokevirtual 104, 3), (84, .if_icmp .ge 9, 3), (87, .iload 5, 2), (89, .istore_n 2, 1), (90, .iload 6, 2), (92, .istore_n 3, 1), (93, .iinc 5 1, 3)]
set_option maxRecDepth 100000 in
theorem ev_d_38_2 : ∀ q ∈ ev_c_38_2, decode prog_4_method_13_code q.1 = .ok (q.2.1, q.2.2) := by decide +kernel
def ev_c_38_3 : List (Nat × Instr × Nat) := [(96, .goto (-58), 3), (99, .iload_n 2, 1), (100, .ireturn, 1)]
set_option maxRecDepth 100000 in
theorem ev_d_38_3 : ∀ q ∈ ev_c_38_3, decode prog_4_method_13_code q.1 = .ok (q.2.1, q.2.2) := by decide +kernel
def ev_c_38 : List (Nat × List (Nat × Instr × Nat)) := [(0, ev_c_38_0), (1, ev_c_38_1), (2, ev_c_38_2), (3, ev_c_38_3)]
set_option maxRecDepth 100000 in
theorem ev_d_38 : ∀ q ∈ ev_c_38, ∀ z ∈ q.2, decode prog_4_method_13_code z.1 = .ok (z.2.1, z.2.2) := List.forall_mem_cons.mpr ⟨ev_d_38_0, List.forall_mem_cons.mpr ⟨ev_d_38_1, List.forall_mem_cons.mpr ⟨ev_d_38_2, List.forall_mem_cons.mpr ⟨ev_d_38_3, fun _ h => absurd h List.not_mem_nil⟩⟩⟩⟩
def ev_c_39_0 : List (Nat × Instr × Nat) := [(0, .iload_n 2, 1), (1, .aload_n 0, 1), (2, .iload_n 1, 1), (3, .invokevirtual 85, 3), (6, .if_icmp .le 5, 3), (9, .iconst (-1), 1), (10, .ireturn, 1), (11, .iconst 0, 1), (12, .istore_n 3, 1), (13, .iload_n 3, 1), (14, .aload_n 0, 1), (15, .getfield 21, 3), (18, .getfield 107, 3), (21, .if_icmp .ge 38, 3), (24, .aload_n 0, 1), (25, .iload_n 3, 1), (26, .iload_n 1, 1), (27, .invokevirtual 110, 3), (30, .ifCond .ne 23, 3)]
set_option maxRecDepth 100000 in
theorem ev_d_39_0 : ∀ q ∈ ev_c_39_0, decode prog_4_method_14_code q.1 = .ok (q.2.1, q.2.2) := by decide +kernel
def ev_c_39_1 : List (Nat × Instr × Nat) := [(33, .aload_n 0, 1), (34, .aload_n 0, 1), (35, .getfield 21, 3), (38, .getfield 75, 3), (41, .iload_n 3, 1), (42, .aaload, 1), (43, .iload_n 1, 1), (44, .iload_n 2, 1), (45, .invokevirtual 113, 3), (48, .ifCond .eq 5, 3), (51, .iload_n 3, 1), (52, .ireturn, 1), (53, .iinc 3 1, 3), (56, .goto (-43), 3), (59, .iconst (-1), 1), (60, .ireturn, 1)]
set_option maxRecDepth 100000 in
theorem ev_d_39_1 : ∀ q ∈ ev_c_39_1, decode prog_4_method_14_code q.1 = .ok (q.2.1, q.2.2) := by decide +kernel
def ev_c_39 : List (Nat × List (Nat × Instr × Nat)) := [(0, ev_c_39_0), (1, ev_c_39_1)]
set_option maxRecDepth 100000 in
theorem ev_d_39 : ∀ q ∈ ev_c_39, ∀ z ∈ q.2, decode prog_4_method_14_code z.1 = .ok (z.2.1, z.2.2) := List.forall_mem_cons.mpr ⟨ev_d_39_0, List.forall_mem_cons.mpr ⟨ev_d_39_1, fun _ h => absurd h List.not_mem_nil⟩⟩
def ev_c_40_0 : List (Nat × Instr × Nat) := [(0, .aload_n 0, 1), (1, .iload_n 2, 1), (2, .invokevirtual 62, 3), (5, .aload_n 1, 1), (6, .invokevirtual 58, 3), (9, .ior, 1), (10, .aload_n 0, 1), (11, .getfield 12, 3), (14, .iload_n 3, 1), (15, .invokevirtual 66, 3), (18, .iand, 1), (19, .istore 4, 2), (21, .aload_n 1, 1), (22, .iload_n 3, 1), (23, .invokevirtual 117, 3), (26, .ifCond .eq 26, 3), (29, .aload_n 1, 1), (30, .iload 4, 2)]
set_option maxRecDepth 100000 in
theorem ev_d_40_0 : ∀ q ∈ ev_c_40_0, decode prog_4_method_15_code q.1 = .ok (q.2.1, q.2.2) := by decide +kernel
def ev_c_40_1 : List (Nat × Instr × Nat) := [(32, .invokevirtual 69, 3), (35, .ifCond .ne 17, 3), (38, .aload_n 0, 1), (39, .iload_n 2, 1), (40, .iload 4, 2), (42, .invokevirtual 88, 3), (45, .ifCond .ne 7, 3), (48, .iconst 1, 1), (49, .goto 4, 3), (52, .iconst 0, 1), (53, .ireturn, 1)]
set_option maxRecDepth 100000 in
theorem ev_d_40_1 : ∀ q ∈ ev_c_40_1, decode prog_4_method_15_code q.1 = .ok (q.2.1, q.2.2) := by decide +kernel
def ev_c_40 : List (Nat × List (Nat × Instr × Nat)) := [(0, ev_c_40_0), (1, ev_c_40_1)]
set_option maxRecDepth 100000 in
theorem ev_d_40 : ∀ q ∈ ev_c_40, ∀ z ∈ q.2, decode prog_4_method_15_code z.1 = .ok (z.2.1, z.2.2) := List.forall_mem_cons.mpr ⟨ev_d_40_0, List.forall_mem_cons.mpr ⟨ev_d_40_1, fun _ h => absurd h List.not_mem_nil⟩⟩
def ev_c_41_0 : List (Nat × Instr × Nat) := [(0, .iconst 0, 1), (1, .istore_n 1, 1), (2, .iload_n 1, 1), (3, .aload_n 0, 1), (4, .getfield 12, 3), (7, .getfield 138, 3), (10, .if_icmp .ge 24, 3), (13, .aload_n 0, 1), (14, .getfield 21, 3), (17, .getfield 141, 3), (20, .iload_n 1, 1), (21, .iaload, 1), (22, .iconst (-1), 1), (23, .if_icmp .ne 5, 3), (26, .iload_n 1, 1), (27, .ireturn, 1), (28, .iinc 1 1, 3), (31, .goto (-29), 3)]
set_option maxRecDepth 100000 in
theorem ev_d_41_0 : ∀ q ∈ ev_c_41_0, decode prog_4_method_22_code q.1 = .ok (q.2.1, q.2.2) := by decide +kernel
def ev_c_41_1 : List (Nat × Instr × Nat) := [(34, .iconst (-1), 1), (35, .ireturn, 1)]
set_option maxRecDepth 100000 in
theorem ev_d_41_1 : ∀ q ∈ ev_c_41_1, decode prog_4_method_22_code q.1 = .ok (q.2.1, q.2.2) := by decide +kernel
def ev_c_41 : List (Nat × List (Nat × Instr × Nat)) := [(0, ev_c_41_0), (1, ev_c_41_1)]
set_option maxRecDepth 100000 in
theorem ev_d_41 : ∀ q ∈ ev_c_41, ∀ z ∈ q.2, decode prog_4_method_22_code z.1 = .ok (z.2.1, z.2.2) := List.forall_mem_cons.mpr ⟨ev_d_41_0, List.forall_mem_cons.mpr ⟨ev_d_41_1, fun _ h => absurd h List.not_mem_nil⟩⟩
def ev_c_42_0 : List (Nat × Instr × Nat) := [(0, .aload_n 0, 1), (1, .getfield 21, 3), (4, .getfield 75, 3), (7, .iload_n 1, 1), (8, .aaload, 1), (9, .getfield 79, 3), (12, .ifCond .ne 15, 3), (15, .aload_n 0, 1), (16, .invokevirtual 143, 3), (19, .iconst (-1), 1), (20, .if_icmp .eq 7, 3), (23, .iconst 1, 1), (24, .goto 4, 3), (27, .iconst 0, 1), (28, .ireturn, 1)]
set_option maxRecDepth 100000 in
theorem ev_d_42_0 : ∀ q ∈ ev_c_42_0, decode prog_4_method_23_code q.1 = .ok (q.2.1, q.2.2) := by decide +kernel
def ev_c_42 : List (Nat × List (Nat × Instr × Nat)) := [(0, ev_c_42_0)]
set_option maxRecDepth 100000 in
theorem ev_d_42 : ∀ q ∈ ev_c_42, ∀ z ∈ q.2, decode prog_4_method_23_code z.1 = .ok (z.2.1, z.2.2) := List.forall_mem_cons.mpr ⟨ev_d_42_0, fun _ h => absurd h List.not_mem_nil⟩
def ev_c_43_0 : List (Nat × Instr × Nat) := [(0, .aload_n 0, 1), (1, .invokevirtual 143, 3), (4, .istore_n 2, 1), (5, .iload_n 2, 1), (6, .iconst (-1), 1), (7, .if_icmp .eq 12, 3), (10, .aload_n 0, 1), (11, .getfield 21, 3), (14, .iload_n 1, 1), (15, .iload_n 2, 1), (16, .invokevirtual 146, 3), (19, .iload_n 2, 1), (20, .ireturn, 1)]
set_option maxRecDepth 100000 in
theorem ev_d_43_0 : ∀ q ∈ ev_c_43_0, decode prog_4_method_24_code q.1 = .ok (q.2.1, q.2.2) := by decide +kernel
def ev_c_43 : List (Nat × List (Nat × Instr × Nat)) := [(0, ev_c_43_0)]
set_option maxRecDepth 100000 in
theorem ev_d_43 : ∀ q ∈ ev_c_43, ∀ z ∈ q.2, decode prog_4_method_24_code z.1 = .ok (z.2.1, z.2.2) := List.forall_mem_cons.mpr ⟨ev_d_43_0, fun _ h => absurd h List.not_mem_nil⟩
def ev_c_44_0 : List (Nat × Instr × Nat) := [(0, .iconst 0, 1), (1, .istore_n 1, 1), (2, .iconst 0, 1), (3, .istore_n 2, 1), (4, .iload_n 2, 1), (5, .aload_n 0, 1), (6, .getfield 21, 3), (9, .getfield 107, 3), (12, .if_icmp .ge 41, 3), (15, .aload_n 0, 1), (16, .getfield 21, 3), (19, .getfield 75, 3), (22, .iload_n 2, 1), (23, .aaload, 1), (24, .getfield 149, 3), (27, .ifCond .le 20, 3), (30, .aload_n 0, 1), (31, .iload_n 2, 1)]
set_option maxRecDepth 100000 in
theorem ev_d_44_0 : ∀ q ∈ ev_c_44_0, decode prog_4_method_25_code q.1 = .ok (q.2.1, q.2.2) := by decide +kernel
def ev_c_44_1 : List (Nat × Instr × Nat) := [(32, .invokevirtual 152, 3), (35, .ifCond .eq 12, 3), (38, .aload_n 0, 1), (39, .iload_n 2, 1), (40, .invokevirtual 155, 3), (43, .pop, 1), (44, .iinc 1 1, 3), (47, .iinc 2 1, 3), (50, .goto (-46), 3), (53, .iload_n 1, 1), (54, .ireturn, 1)]
set_option maxRecDepth 100000 in
theorem ev_d_44_1 : ∀ q ∈ ev_c_44_1, decode prog_4_method_25_code q.1 = .ok (q.2.1, q.2.2) := by decide +kernel
def ev_c_44 : List (Nat × List (Nat × Instr × Nat)) := [(0, ev_c_44_0), (1, ev_c_44_1)]
set_option maxRecDepth 100000 in
theorem ev_d_44 : ∀ q ∈ ev_c_44, ∀ z ∈ q.2, decode prog_4_method_25_code z.1 = .ok (z.2.1, z.2.2) := List.forall_mem_cons.mpr ⟨ev_d_44_0, List.forall_mem_cons.mpr ⟨ev_d_44_1, fun _ h => absurd h List.not_mem_nil⟩⟩
def ev_c_45_0 : List (Nat × Instr × Nat) := [(0, .iconst 0, 1), (1, .iload_n 2, 1), (2, .aload_n 0, 1), (3, .getfield 12, 3), (6, .getfield 158, 3), (9, .iload_n 1, 1), (10, .iaload, 1), (11, .isub, 1), (12, .invokestatic 125, 3), (15, .ireturn, 1)]
set_option maxRecDepth 100000 in
theorem ev_d_45_0 : ∀ q ∈ ev_c_45_0, decode prog_4_method_26_code q.1 = .ok (q.2.1, q.2.2) := by decide +kernel
def ev_c_45 : List (Nat × List (Nat × Instr × Nat)) := [(0, ev_c_45_0)]
set_option maxRecDepth 100000 in
theorem ev_d_45 : ∀ q ∈ ev_c_45, ∀ z ∈ q.2, decode prog_4_method_26_code z.1 = .ok (z.2.1, z.2.2) := List.forall_mem_cons.mpr ⟨ev_d_45_0, fun _ h => absurd h List.not_mem_nil⟩
def ev_c_46_0 : List (Nat × Instr × Nat) := [(0, .aload_n 0, 1), (1, .getfield 21, 3), (4, .iload_n 1, 1), (5, .invokevirtual 161, 3), (8, .ifCond .eq 15, 3), (11, .aload_n 0, 1), (12, .getfield 21, 3), (15, .getfield 164, 3), (18, .iload_n 1, 1), (19, .iaload, 1), (20, .goto 15, 3), (23, .aload_n 0, 1), (24, .iload_n 1, 1), (25, .aload_n 0, 1), (26, .getfield 21, 3), (29, .getfield 167, 3)]
set_option maxRecDepth 100000 in
theorem ev_d_46_0 : ∀ q ∈ ev_c_46_0, decode prog_4_method_27_code q.1 = .ok (q.2.1, q.2.2) := by decide +kernel
def ev_c_46_1 : List (Nat × Instr × Nat) := [(32, .invokevirtual 170, 3), (35, .ireturn, 1)]
set_option maxRecDepth 100000 in
theorem ev_d_46_1 : ∀ q ∈ ev_c_46_1, decode prog_4_method_27_code q.1 = .ok (q.2.1, q.2.2) := by decide +kernel
def ev_c_46 : List (Nat × List (Nat × Instr × Nat)) := [(0, ev_c_46_0), (1, ev_c_46_1)]
set_option maxRecDepth 100000 in
theorem ev_d_46 : ∀ q ∈ ev_c_46, ∀ z ∈ q.2, decode prog_4_method_27_code z.1 = .ok (z.2.1, z.2.2) := List.forall_mem_cons.mpr ⟨ev_d_46_0, List.forall_mem_cons.mpr ⟨ev_d_46_1, fun _ h => absurd h List.not_mem_nil⟩⟩
def ev_c_47_0 : List (Nat × Instr × Nat) := [(0, .iconst 0, 1), (1, .aload_n 0, 1), (2, .getfield 12, 3), (5, .getfield 173, 3), (8, .iload_n 1, 1), (9, .iaload, 1), (10, .aload_n 0, 1), (11, .getfield 12, 3), (14, .getfield 176, 3), (17, .iload_n 1, 1), (18, .iaload, 1), (19, .aload_n 0, 1), (20, .iload_n 1, 1), (21, .iload_n 2, 1), (22, .invokevirtual 170, 3), (25, .imul, 1), (26, .isub, 1), (27, .invokestatic 125, 3), (30, .ireturn, 1)]
set_option maxRecDepth 100000 in
theorem ev_d_47_0 : ∀ q ∈ ev_c_47_0, decode prog_4_method_28_code q.1 = .ok (q.2.1, q.2.2) := by decide +kernel
def ev_c_47 : List (Nat × List (Nat × Instr × Nat)) := [(0, ev_c_47_0)]
set_option maxRecDepth 100000 in
theorem ev_d_47 : ∀ q ∈ ev_c_47, ∀ z ∈ q.2, decode prog_4_method_28_code z.1 = .ok (z.2.1, z.2.2) := List.forall_mem_cons.mpr ⟨ev_d_47_0, fun _ h => absurd h List.not_mem_nil⟩
def ev_c_48_0 : List (Nat × Instr × Nat) := [(0, .aload_n 0, 1), (1, .getfield 21, 3), (4, .iload_n 1, 1), (5, .invokevirtual 161, 3), (8, .ifCond .eq 7, 3), (11, .iconst 0, 1), (12, .goto 26, 3), (15, .aload_n 0, 1), (16, .iload_n 1, 1), (17, .aload_n 0, 1), (18, .getfield 21, 3), (21, .getfield 167, 3), (24, .iload_n 2, 1), (25, .iadd, 1), (26, .invokevirtual 179, 3), (29, .aload_n 0, 1), (30, .getfield 21, 3)]
set_option maxRecDepth 100000 in
theorem ev_d_48_0 : ∀ q ∈ ev_c_48_0, decode prog_4_method_29_code q.1 = .ok (q.2.1, q.2.2) := by decide +kernel
def ev_c_48_1 : List (Nat × Instr × Nat) := [(33, .iload_n 1, 1), (34, .invokevirtual 182, 3), (37, .imul, 1), (38, .ireturn, 1)]
set_option maxRecDepth 100000 in
theorem ev_d_48_1 : ∀ q ∈ ev_c_48_1, decode prog_4_method_29_code q.1 = .ok (q.2.1, q.2.2) := by decide +kernel
def ev_c_48 : List (Nat × List (Nat × Instr × Nat)) := [(0, ev_c_48_0), (1, ev_c_48_1)]
set_option maxRecDepth 100000 in
theorem ev_d_48 : ∀ q ∈ ev_c_48, ∀ z ∈ q.2, decode prog_4_method_29_code z.1 = .ok (z.2.1, z.2.2) := List.forall_mem_cons.mpr ⟨ev_d_48_0, List.forall_mem_cons.mpr ⟨ev_d_48_1, fun _ h => absurd h List.not_mem_nil⟩⟩
def ev_c_49_0 : List (Nat × Instr × Nat) := [(0, .aload_n 0, 1), (1, .getfield 21, 3), (4, .iload_n 1, 1), (5, .invokevirtual 182, 3), (8, .ifCond .le 30, 3), (11, .aload_n 0, 1), (12, .getfield 21, 3), (15, .iload_n 1, 1), (16, .invokevirtual 161, 3), (19, .ifCond .ne 19, 3), (22, .aload_n 0, 1), (23, .getfield 21, 3), (26, .iload_n 1, 1), (27, .invokevirtual 191, 3), (30, .iconst (-1), 1), (31, .if_icmp .ne 7, 3)]
set_option maxRecDepth 100000 in
theorem ev_d_49_0 : ∀ q ∈ ev_c_49_0, decode prog_4_method_32_code q.1 = .ok (q.2.1, q.2.2) := by decide +kernel
def ev_c_49_1 : List (Nat × Instr × Nat) := [(34, .iconst 1, 1), (35, .goto 4, 3), (38, .iconst 0, 1), (39, .ireturn, 1)]
set_option maxRecDepth 100000 in
theorem ev_d_49_1 : ∀ q ∈ ev_c_49_1, decode prog_4_method_32_code q.1 = .ok (q.2.1, q.2.2) := by decide +kernel
def ev_c_49 : List (Nat × List (Nat × Instr × Nat)) := [(0, ev_c_49_0), (1, ev_c_49_1)]
set_option maxRecDepth 100000 in
theorem ev_d_49 : ∀ q ∈ ev_c_49, ∀ z ∈ q.2, decode prog_4_method_32_code z.1 = .ok (z.2.1, z.2.2) := List.forall_mem_cons.mpr ⟨ev_d_49_0, List.forall_mem_cons.mpr ⟨ev_d_49_1, fun _ h => absurd h List.not_mem_nil⟩⟩
def ev_c_50_0 : List (Nat × Instr × Nat) := [(0, .aload_n 0, 1), (1, .iload_n 1, 1), (2, .iconst 0, 1), (3, .invokevirtual 188, 3), (6, .istore_n 2, 1), (7, .aload_n 0, 1), (8, .getfield 21, 3), (11, .dup, 1), (12, .getfield 194, 3), (15, .iload_n 2, 1), (16, .iadd, 1), (17, .putfield 194, 3), (20, .aload_n 0, 1), (21, .getfield 21, 3), (24, .dup, 1), (25, .getfield 197, 3), (28, .aload_n 0, 1), (29, .getfield 12, 3)]
set_option maxRecDepth 100000 in
theorem ev_d_50_0 : ∀ q ∈ ev_c_50_0, decode prog_4_method_33_code q.1 = .ok (q.2.1, q.2.2) := by decide +kernel
def ev_c_50_1 : List (Nat × Instr × Nat) := [(32, .getfield 173, 3), (35, .iload_n 1, 1), (36, .iaload, 1), (37, .aload_n 0, 1), (38, .getfield 21, 3), (41, .iload_n 1, 1), (42, .invokevirtual 182, 3), (45, .imul, 1), (46, .iload_n 2, 1), (47, .isub, 1), (48, .iadd, 1), (49, .putfield 197, 3), (52, .aload_n 0, 1), (53, .getfield 21, 3), (56, .getfield 164, 3), (59, .iload_n 1, 1), (60, .aload_n 0, 1), (61, .iload_n 1, 1), (62, .aload_n 0, 1), (63, .getfield 21, 3)]
set_option maxRecDepth 100000 in
theorem ev_d_50_1 : ∀ q ∈ ev_c_50_1, decode prog_4_method_33_code q.1 = .ok (q.2.1, q.2.2) := by decide +kernel
def ev_c_50_2 : List (Nat × Instr × Nat) := [(66, .getfield 167, 3), (69, .invokevirtual 170, 3), (72, .iastore, 1), (73, .iconst 0, 1), (74, .istore_n 3, 1), (75, .iload_n 3, 1), (76, .aload_n 0, 1), (77, .getfield 21, 3), (80, .getfield 107, 3), (83, .if_icmp .ge 39, 3), (86, .aload_n 0, 1), (87, .getfield 21, 3), (90, .getfield 75, 3), (93, .iload_n 3, 1), (94, .aaload, 1), (95, .getfield 200, 3)]
set_option maxRecDepth 100000 in
theorem ev_d_50_2 : ∀ q ∈ ev_c_50_2, decode prog_4_method_33_code q.1 = .ok (q.2.1, q.2.2) := by decide +kernel
def ev_c_50_3 : List (Nat × Instr × Nat) := [(98, .iload_n 1, 1), (99, .if_icmp .ne 17, 3), (102, .aload_n 0, 1), (103, .getfield 21, 3), (106, .getfield 75, 3), (109, .iload_n 3, 1), (110, .aaload, 1), (111, .iconst 3, 1), (112, .iconst (-1), 1), (113, .invokevirtual 203, 3), (116, .iinc 3 1, 3), (119, .goto (-44), 3), (122, .iload_n 2, 1), (123, .ireturn, 1)]
set_option maxRecDepth 100000 in
theorem ev_d_50_3 : ∀ q ∈ ev_c_50_3, decode prog_4_method_33_code q.1 = .ok (q.2.1, q.2.2) := by decide +kernel
def ev_c_50 : List (Nat × List (Nat × Instr × Nat)) := [(0, ev_c_50_0), (1, ev_c_50_1), (2, ev_c_50_2), (3, ev_c_50_3)]
set_option maxRecDepth 100000 in
theorem ev_d_50 : ∀ q ∈ ev_c_50, ∀ z ∈ q.2, decode prog_4_method_33_code z.1 = .ok (z.2.1, z.2.2) := List.forall_mem_cons.mpr ⟨ev_d_50_0, List.forall_mem_cons.mpr ⟨ev_d_50_1, List.forall_mem_cons.mpr ⟨ev_d_50_2, List.forall_mem_cons.mpr ⟨ev_d_50_3, fun _ h => absurd h List.not_mem_nil⟩⟩⟩⟩
def ev_c_51_0 : List (Nat × Instr × Nat) := [(0, .aload_n 0, 1), (1, .getfield 21, 3), (4, .iconst 0, 1), (5, .invokevirtual 206, 3), (8, .aload_n 0, 1), (9, .getfield 21, 3), (12, .iconst 1, 1), (13, .invokevirtual 206, 3), (16, .iadd, 1), (17, .aload_n 0, 1), (18, .getfield 21, 3), (21, .iconst 2, 1), (22, .invokevirtual 206, 3), (25, .iadd, 1), (26, .aload_n 0, 1), (27, .getfield 21, 3), (30, .iconst 3, 1), (31, .invokevirtual 206, 3)]
set_option maxRecDepth 100000 in
theorem ev_d_51_0 : ∀ q ∈ ev_c_51_0, decode prog_4_method_34_code q.1 = .ok (q.2.1, q.2.2) := by decide +kernel
def ev_c_51_1 : List (Nat × Instr × Nat) := [(34, .iadd, 1), (35, .istore_n 1, 1), (36, .iconst 0, 1), (37, .istore_n 2, 1), (38, .iconst 0, 1), (39, .istore_n 3, 1), (40, .iconst 0, 1), (41, .istore 4, 2), (43, .iload 4, 2), (45, .aload_n 0, 1), (46, .getfield 21, 3), (49, .getfield 107, 3), (52, .if_icmp .ge 72, 3), (55, .aload_n 0, 1), (56, .getfield 21, 3), (59, .getfield 75, 3), (62, .iload 4, 2)]
set_option maxRecDepth 100000 in
theorem ev_d_51_1 : ∀ q ∈ ev_c_51_1, decode prog_4_method_34_code q.1 = .ok (q.2.1, q.2.2) := by decide +kernel
def ev_c_51_2 : List (Nat × Instr × Nat) := [(64, .aaload, 1), (65, .astore 5, 2), (67, .iload_n 2, 1), (68, .aload 5, 2), (70, .getfield 79, 3), (73, .iconst 3, 1), (74, .if_icmp .ne 19, 3), (77, .aload_n 0, 1), (78, .getfield 12, 3), (81, .getfield 173, 3), (84, .aload 5, 2), (86, .getfield 200, 3), (89, .iaload, 1), (90, .goto 4, 3), (93, .iconst 0, 1), (94, .iadd, 1), (95, .istore_n 2, 1)]
set_option maxRecDepth 100000 in
theorem ev_d_51_2 : ∀ q ∈ ev_c_51_2, decode prog_4_method_34_code q.1 = .ok (q.2.1, q.2.2) := by decide +kernel
def ev_c_51_3 : List (Nat × Instr × Nat) := [(96, .iload_n 3, 1), (97, .aload 5, 2), (99, .getfield 209, 3), (102, .aload 5, 2), (104, .getfield 55, 3), (107, .iand, 1), (108, .ifCond .eq 7, 3), (111, .iconst 1, 1), (112, .goto 4, 3), (115, .iconst 0, 1), (116, .iadd, 1), (117, .istore_n 3, 1), (118, .iinc 4 1, 3), (121, .goto (-78), 3), (124, .aload_n 0, 1), (125, .getfield 21, 3)]
set_option maxRecDepth 100000 in
theorem ev_d_51_3 : ∀ q ∈ ev_c_51_3, decode prog_4_method_34_code q.1 = .ok (q.2.1, q.2.2) := by decide +kernel
def ev_c_51_4 : List (Nat × Instr × Nat) := [(128, .getfield 107, 3), (131, .iload_n 1, 1), (132, .isub, 1), (133, .invokestatic 212, 3), (136, .aload_n 0, 1), (137, .getfield 21, 3), (140, .getfield 194, 3), (143, .aload_n 0, 1), (144, .getfield 21, 3), (147, .getfield 197, 3), (150, .iadd, 1), (151, .iload_n 2, 1), (152, .isub, 1), (153, .invokestatic 212, 3), (156, .iadd, 1), (157, .iload_n 3, 1), (158, .iadd, 1), (159, .ireturn, 1)]
set_option maxRecDepth 100000 in
theorem ev_d_51_4 : ∀ q ∈ ev_c_51_4, decode prog_4_method_34_code q.1 = .ok (q.2.1, q.2.2) := by decide +kernel
def ev_c_51 : List (Nat × List (Nat × Instr × Nat)) := [(0, ev_c_51_0), (1, ev_c_51_1), (2, ev_c_51_2), (3, ev_c_51_3), (4, ev_c_51_4)]
set_option maxRecDepth 100000 in
theorem ev_d_51 : ∀ q ∈ ev_c_51, ∀ z ∈ q.2, decode prog_4_method_34_code z.1 = .ok (z.2.1, z.2.2) := List.forall_mem_cons.mpr ⟨ev_d_51_0, List.forall_mem_cons.mpr ⟨ev_d_51_1, List.forall_mem_cons.mpr ⟨ev_d_51_2, List.forall_mem_cons.mpr ⟨ev_d_51_3, List.forall_mem_cons.mpr ⟨ev_d_51_4, fun _ h => absurd h List.not_mem_nil⟩⟩⟩⟩⟩
def ev_c_52_0 : List (Nat × Instr × Nat) := [(0, .aload_n 0, 1), (1, .invokespecial 3, 3), (4, .aload_n 0, 1), (5, .iconst (-1), 1), (6, .putfield 9, 3), (9, .return_, 1)]
set_option maxRecDepth 100000 in
theorem ev_d_52_0 : ∀ q ∈ ev_c_52_0, decode prog_5_method_1_code q.1 = .ok (q.2.1, q.2.2) := by decide +kernel
def ev_c_52 : List (Nat × List (Nat × Instr × Nat)) := [(0, ev_c_52_0)]
set_option maxRecDepth 100000 in
theorem ev_d_52 : ∀ q ∈ ev_c_52, ∀ z ∈ q.2, decode prog_5_method_1_code z.1 = .ok (z.2.1, z.2.2) := List.forall_mem_cons.mpr ⟨ev_d_52_0, fun _ h => absurd h List.not_mem_nil⟩
def ev_c_53_0 : List (Nat × Instr × Nat) := [(0, .aload_n 0, 1), (1, .aload_n 1, 1), (2, .putfield 15, 3), (5, .aload_n 0, 1), (6, .iload_n 2, 1), (7, .aload_n 1, 1), (8, .arraylength, 1), (9, .invokestatic 19, 3), (12, .putfield 25, 3), (15, .aload_n 0, 1), (16, .iconst 0, 1), (17, .putfield 28, 3), (20, .aload_n 0, 1), (21, .iconst 0, 1), (22, .putfield 31, 3), (25, .aload_n 0, 1), (26, .iconst 0, 1), (27, .putfield 34, 3), (30, .aload_n 0, 1), (31, .iconst (-1), 1)]
set_option maxRecDepth 100000 in
theorem ev_d_53_0 : ∀ q ∈ ev_c_53_0, decode prog_5_method_2_code q.1 = .ok (q.2.1, q.2.2) := by decide +kernel
def ev_c_53_1 : List (Nat × Instr × Nat) := [(32, .putfield 9, 3), (35, .aload_n 0, 1), (36, .aload_n 3, 1), (37, .putfield 37, 3), (40, .aload_n 0, 1), (41, .getfield 37, 3), (44, .invokevirtual 41, 3), (47, .aload_n 0, 1), (48, .invokevirtual 46, 3), (51, .iconst 0, 1), (52, .istore 4, 2), (54, .iload 4, 2), (56, .aload_n 0, 1), (57, .getfield 25, 3), (60, .if_icmp .ge 32, 3), (63, .aload_n 0, 1)]
set_option maxRecDepth 100000 in
theorem ev_d_53_1 : ∀ q ∈ ev_c_53_1, decode prog_5_method_2_code q.1 = .ok (q.2.1, q.2.2) := by decide +kernel
def ev_c_53_2 : List (Nat × Instr × Nat) := [(64, .invokevirtual 49, 3), (67, .ifCond .ne 25, 3), (70, .aload_n 0, 1), (71, .getfield 31, 3), (74, .iconst 3, 1), (75, .if_icmp .ne 17, 3), (78, .aload_n 0, 1), (79, .invokevirtual 53, 3), (82, .aload_n 0, 1), (83, .invokevirtual 56, 3), (86, .iinc 4 1, 3), (89, .goto (-35), 3), (92, .aload_n 0, 1), (93, .invokevirtual 59, 3)]
set_option maxRecDepth 100000 in
theorem ev_d_53_2 : ∀ q ∈ ev_c_53_2, decode prog_5_method_2_code q.1 = .ok (q.2.1, q.2.2) := by decide +kernel
def ev_c_53_3 : List (Nat × Instr × Nat) := [(96, .return_, 1)]
set_option maxRecDepth 100000 in
theorem ev_d_53_3 : ∀ q ∈ ev_c_53_3, decode prog_5_method_2_code q.1 = .ok (q.2.1, q.2.2) := by decide +kernel
def ev_c_53 : List (Nat × List (Nat × Instr × Nat)) := [(0, ev_c_53_0), (1, ev_c_53_1), (2, ev_c_53_2), (3, ev_c_53_3)]
set_option maxRecDepth 100000 in
theorem ev_d_53 : ∀ q ∈ ev_c_53, ∀ z ∈ q.2, decode prog_5_method_2_code z.1 = .ok (z.2.1, z.2.2) := List.forall_mem_cons.mpr ⟨ev_d_53_0, List.forall_mem_cons.mpr ⟨ev_d_53_1, List.forall_mem_cons.mpr ⟨ev_d_53_2, List.forall_mem_cons.mpr ⟨ev_d_53_3, fun _ h => absurd h List.not_mem_nil⟩⟩⟩⟩
def ev_c_54_0 : List (Nat × Instr × Nat) := [(0, .aload_n 0, 1), (1, .getfield 34, 3), (4, .ifCond .eq 7, 3), (7, .iconst 1, 1), (8, .goto 4, 3), (11, .iconst 0, 1), (12, .ireturn, 1)]
set_option maxRecDepth 100000 in
theorem ev_d_54_0 : ∀ q ∈ ev_c_54_0, decode prog_5_method_3_code q.1 = .ok (q.2.1, q.2.2) := by decide +kernel
def ev_c_54 : List (Nat × List (Nat × Instr × Nat)) := [(0, ev_c_54_0)]
set_option maxRecDepth 100000 in
theorem ev_d_54 : ∀ q ∈ ev_c_54, ∀ z ∈ q.2, decode prog_5_method_3_code z.1 = .ok (z.2.1, z.2.2) := List.forall_mem_cons.mpr ⟨ev_d_54_0, fun _ h => absurd h List.not_mem_nil⟩
def ev_c_55_0 : List (Nat × Instr × Nat) := [(0, .aload_n 0, 1), (1, .getfield 34, 3), (4, .ifCond .ne 16, 3), (7, .aload_n 0, 1), (8, .iload_n 1, 1), (9, .putfield 34, 3), (12, .aload_n 0, 1), (13, .aload_n 0, 1), (14, .getfield 62, 3), (17, .putfield 9, 3), (20, .return_, 1)]
set_option maxRecDepth 100000 in
theorem ev_d_55_0 : ∀ q ∈ ev_c_55_0, decode prog_5_method_4_code q.1 = .ok (q.2.1, q.2.2) := by decide +kernel
def ev_c_55 : List (Nat × List (Nat × Instr × Nat)) := [(0, ev_c_55_0)]
set_option maxRecDepth 100000 in
theorem ev_d_55 : ∀ q ∈ ev_c_55, ∀ z ∈ q.2, decode prog_5_method_4_code z.1 = .ok (z.2.1, z.2.2) := List.forall_mem_cons.mpr ⟨ev_d_55_0, fun _ h => absurd h List.not_mem_nil⟩
def ev_c_56_0 : List (Nat × Instr × Nat) := [(0, .iload_n 1, 1), (1, .aload_n 0, 1), (2, .getfield 25, 3), (5, .if_icmp .ge 29, 3), (8, .aload_n 0, 1), (9, .getfield 15, 3), (12, .iload_n 1, 1), (13, .baload, 1), (14, .bipush 97, 2), (16, .if_icmp .lt 18, 3), (19, .aload_n 0, 1), (20, .getfield 15, 3), (23, .iload_n 1, 1), (24, .baload, 1), (25, .bipush 122, 2), (27, .if_icmp .gt 7, 3), (30, .iconst 1, 1), (31, .goto 4, 3)]
set_option maxRecDepth 100000 in
theorem ev_d_56_0 : ∀ q ∈ ev_c_56_0, decode prog_5_method_5_code q.1 = .ok (q.2.1, q.2.2) := by decide +kernel
def ev_c_56_1 : List (Nat × Instr × Nat) := [(34, .iconst 0, 1), (35, .ireturn, 1)]
set_option maxRecDepth 100000 in
theorem ev_d_56_1 : ∀ q ∈ ev_c_56_1, decode prog_5_method_5_code q.1 = .ok (q.2.1, q.2.2) := by decide +kernel
def ev_c_56 : List (Nat × List (Nat × Instr × Nat)) := [(0, ev_c_56_0), (1, ev_c_56_1)]
set_option maxRecDepth 100000 in
theorem ev_d_56 : ∀ q ∈ ev_c_56, ∀ z ∈ q.2, decode prog_5_method_5_code z.1 = .ok (z.2.1, z.2.2) := List.forall_mem_cons.mpr ⟨ev_d_56_0, List.forall_mem_cons.mpr ⟨ev_d_56_1, fun _ h => absurd h List.not_mem_nil⟩⟩
def ev_c_57_0 : List (Nat × Instr × Nat) := [(0, .iload_n 1, 1), (1, .aload_n 0, 1), (2, .getfield 25, 3), (5, .if_icmp .ge 29, 3), (8, .aload_n 0, 1), (9, .getfield 15, 3), (12, .iload_n 1, 1), (13, .baload, 1), (14, .bipush 48, 2), (16, .if_icmp .lt 18, 3), (19, .aload_n 0, 1), (20, .getfield 15, 3), (23, .iload_n 1, 1), (24, .baload, 1), (25, .bipush 57, 2), (27, .if_icmp .gt 7, 3), (30, .iconst 1, 1), (31, .goto 4, 3)]
set_option maxRecDepth 100000 in
theorem ev_d_57_0 : ∀ q ∈ ev_c_57_0, decode prog_5_method_6_code q.1 = .ok (q.2.1, q.2.2) := by decide +kernel
def ev_c_57_1 : List (Nat × Instr × Nat) := [(34, .iconst 0, 1), (35, .ireturn, 1)]
set_option maxRecDepth 100000 in
theorem ev_d_57_1 : ∀ q ∈ ev_c_57_1, decode prog_5_method_6_code q.1 = .ok (q.2.1, q.2.2) := by decide +kernel
def ev_c_57 : List (Nat × List (Nat × Instr × Nat)) := [(0, ev_c_57_0), (1, ev_c_57_1)]
set_option maxRecDepth 100000 in
theorem ev_d_57 : ∀ q ∈ ev_c_57, ∀ z ∈ q.2, decode prog_5_method_6_code z.1 = .ok (z.2.1, z.2.2) := List.forall_mem_cons.mpr ⟨ev_d_57_0, List.forall_mem_cons.mpr ⟨ev_d_57_1, fun _ h => absurd h List.not_mem_nil⟩⟩
def ev_c_58_0 : List (Nat × Instr × Nat) := [(0, .aload_n 0, 1), (1, .getfield 28, 3), (4, .aload_n 0, 1), (5, .getfield 25, 3), (8, .if_icmp .ge 30, 3), (11, .aload_n 0, 1), (12, .getfield 15, 3), (15, .aload_n 0, 1), (16, .getfield 28, 3), (19, .baload, 1), (20, .bipush 32, 2), (22, .if_icmp .ne 16, 3), (25, .aload_n 0, 1), (26, .dup, 1), (27, .getfield 28, 3), (30, .iconst 1, 1), (31, .iadd, 1)]
set_option maxRecDepth 100000 in
theorem ev_d_58_0 : ∀ q ∈ ev_c_58_0, decode prog_5_method_7_code q.1 = .ok (q.2.1, q.2.2) := by decide +kernel
def ev_c_58_1 : List (Nat × Instr × Nat) := [(32, .putfield 28, 3), (35, .goto (-35), 3), (38, .return_, 1)]
set_option maxRecDepth 100000 in
theorem ev_d_58_1 : ∀ q ∈ ev_c_58_1, decode prog_5_method_7_code q.1 = .ok (q.2.1, q.2.2) := by decide +kernel
def ev_c_58 : List (Nat × List (Nat × Instr × Nat)) := [(0, ev_c_58_0), (1, ev_c_58_1)]
set_option maxRecDepth 100000 in
theorem ev_d_58 : ∀ q ∈ ev_c_58, ∀ z ∈ q.2, decode prog_5_method_7_code z.1 = .ok (z.2.1, z.2.2) := List.forall_mem_cons.mpr ⟨ev_d_58_0, List.forall_mem_cons.mpr ⟨ev_d_58_1, fun _ h => absurd h List.not_mem_nil⟩⟩
def ev_c_59_0 : List (Nat × Instr × Nat) := [(0, .aload_n 0, 1), (1, .invokevirtual 49, 3), (4, .ifCond .eq 4, 3), (7, .return_, 1), (8, .aload_n 0, 1), (9, .invokevirtual 65, 3), (12, .aload_n 0, 1), (13, .aload_n 0, 1), (14, .getfield 28, 3), (17, .putfield 62, 3), (20, .aload_n 0, 1), (21, .getfield 28, 3), (24, .aload_n 0, 1), (25, .getfield 25, 3), (28, .if_icmp .lt 11, 3), (31, .aload_n 0, 1)]
set_option maxRecDepth 100000 in
theorem ev_d_59_0 : ∀ q ∈ ev_c_59_0, decode prog_5_method_8_code q.1 = .ok (q.2.1, q.2.2) := by decide +kernel
def ev_c_59_1 : List (Nat × Instr × Nat) := [(32, .iconst 0, 1), (33, .putfield 31, 3), (36, .goto 171, 3), (39, .aload_n 0, 1), (40, .aload_n 0, 1), (41, .getfield 28, 3), (44, .invokevirtual 68, 3), (47, .ifCond .eq 43, 3), (50, .aload_n 0, 1), (51, .iconst 1, 1), (52, .putfield 31, 3), (55, .aload_n 0, 1), (56, .getfield 28, 3), (59, .aload_n 0, 1), (60, .getfield 25, 3), (63, .if_icmp .ge 144, 3)]
set_option maxRecDepth 100000 in
theorem ev_d_59_1 : ∀ q ∈ ev_c_59_1, decode prog_5_method_8_code q.1 = .ok (q.2.1, q.2.2) := by decide +kernel
def ev_c_59_2 : List (Nat × Instr × Nat) := [(66, .aload_n 0, 1), (67, .aload_n 0, 1), (68, .getfield 28, 3), (71, .invokevirtual 68, 3), (74, .ifCond .eq 133, 3), (77, .aload_n 0, 1), (78, .dup, 1), (79, .getfield 28, 3), (82, .iconst 1, 1), (83, .iadd, 1), (84, .putfield 28, 3), (87, .goto (-32), 3), (90, .aload_n 0, 1), (91, .aload_n 0, 1), (92, .getfield 28, 3), (95, .invokevirtual 72, 3)]
set_option maxRecDepth 100000 in
theorem ev_d_59_2 : ∀ q ∈ ev_c_59_2, decode prog_5_method_8_code q.1 = .ok (q.2.1, q.2.2) := by decide +kernel
def ev_c_59_3 : List (Nat × Instr × Nat) := [(98, .ifCond .eq 72, 3), (101, .aload_n 0, 1), (102, .iconst 2, 1), (103, .putfield 31, 3), (106, .aload_n 0, 1), (107, .iconst 0, 1), (108, .putfield 75, 3), (111, .aload_n 0, 1), (112, .getfield 28, 3), (115, .aload_n 0, 1), (116, .getfield 25, 3), (119, .if_icmp .ge 88, 3), (122, .aload_n 0, 1), (123, .aload_n 0, 1), (124, .getfield 28, 3), (127, .invokevirtual 72, 3)]
set_option maxRecDepth 100000 in
theorem ev_d_59_3 : ∀ q ∈ ev_c_59_3, decode prog_5_method_8_code q.1 = .ok (q.2.1, q.2.2) := by decide +kernel
def ev_c_59_4 : List (Nat × Instr × Nat) := [(130, .ifCond .eq 77, 3), (133, .aload_n 0, 1), (134, .aload_n 0, 1), (135, .getfield 75, 3), (138, .bipush 10, 2), (140, .imul, 1), (141, .aload_n 0, 1), (142, .getfield 15, 3), (145, .aload_n 0, 1), (146, .getfield 28, 3), (149, .baload, 1), (150, .iadd, 1), (151, .bipush 48, 2), (153, .isub, 1), (154, .putfield 75, 3), (157, .aload_n 0, 1), (158, .dup, 1), (159, .getfield 28, 3)]
set_option maxRecDepth 100000 in
theorem ev_d_59_4 : ∀ q ∈ ev_c_59_4, decode prog_5_method_8_code q.1 = .ok (q.2.1, q.2.2) := by decide +kernel
def ev_c_59_5 : List (Nat × Instr × Nat) := [(162, .iconst 1, 1), (163, .iadd, 1), (164, .putfield 28, 3), (167, .goto (-56), 3), (170, .aload_n 0, 1), (171, .getfield 15, 3), (174, .aload_n 0, 1), (175, .getfield 28, 3), (178, .baload, 1), (179, .bipush 59, 2), (181, .if_icmp .ne 21, 3), (184, .aload_n 0, 1), (185, .iconst 3, 1), (186, .putfield 31, 3), (189, .aload_n 0, 1), (190, .dup, 1), (191, .getfield 28, 3)]
set_option maxRecDepth 100000 in
theorem ev_d_59_5 : ∀ q ∈ ev_c_59_5, decode prog_5_method_8_code q.1 = .ok (q.2.1, q.2.2) := by decide +kernel
def ev_c_59_6 : List (Nat × Instr × Nat) := [(194, .iconst 1, 1), (195, .iadd, 1), (196, .putfield 28, 3), (199, .goto 8, 3), (202, .aload_n 0, 1), (203, .iconst 1, 1), (204, .invokevirtual 78, 3), (207, .aload_n 0, 1), (208, .getfield 31, 3), (211, .iconst 1, 1), (212, .if_icmp .ne 8, 3), (215, .bipush 6, 2), (217, .goto 4, 3), (220, .iconst 2, 1), (221, .istore_n 1, 1), (222, .aload_n 0, 1), (223, .getfield 28, 3)]
set_option maxRecDepth 100000 in
theorem ev_d_59_6 : ∀ q ∈ ev_c_59_6, decode prog_5_method_8_code q.1 = .ok (q.2.1, q.2.2) := by decide +kernel
def ev_c_59_7 : List (Nat × Instr × Nat) := [(226, .aload_n 0, 1), (227, .getfield 62, 3), (230, .isub, 1), (231, .iload_n 1, 1), (232, .if_icmp .le 8, 3), (235, .aload_n 0, 1), (236, .iconst 1, 1), (237, .invokevirtual 78, 3), (240, .return_, 1)]
set_option maxRecDepth 100000 in
theorem ev_d_59_7 : ∀ q ∈ ev_c_59_7, decode prog_5_method_8_code q.1 = .ok (q.2.1, q.2.2) := by decide +kernel
def ev_c_59 : List (Nat × List (Nat × Instr × Nat)) := [(0, ev_c_59_0), (1, ev_c_59_1), (2, ev_c_59_2), (3, ev_c_59_3), (4, ev_c_59_4), (5, ev_c_59_5), (6, ev_c_59_6), (7, ev_c_59_7)]
set_option maxRecDepth 100000 in
theorem ev_d_59 : ∀ q ∈ ev_c_59, ∀ z ∈ q.2, decode prog_5_method_8_code z.1 = .ok (z.2.1, z.2.2) := List.forall_mem_cons.mpr ⟨ev_d_59_0, List.forall_mem_cons.mpr ⟨ev_d_59_1, List.forall_mem_cons.mpr ⟨ev_d_59_2, List.forall_mem_cons.mpr ⟨ev_d_59_3, List.forall_mem_cons.mpr ⟨ev_d_59_4, List.forall_mem_cons.mpr ⟨ev_d_59_5, List.forall_mem_cons.mpr ⟨ev_d_59_6, List.forall_mem_cons.mpr ⟨ev_d_59_7, fun _ h => absurd h List.not_mem_nil⟩⟩⟩⟩⟩⟩⟩⟩
def ev_c_60_0 : List (Nat × Instr × Nat) := [(0, .aload_n 0, 1), (1, .getfield 31, 3), (4, .iconst 1, 1), (5, .if_icmp .ne 19, 3), (8, .aload_n 0, 1), (9, .getfield 28, 3), (12, .aload_n 0, 1), (13, .getfield 62, 3), (16, .isub, 1), (17, .aload_n 1, 1), (18, .invokevirtual 82, 3), (21, .if_icmp .eq 5, 3), (24, .iconst 0, 1), (25, .ireturn, 1), (26, .iconst 0, 1), (27, .istore_n 2, 1), (28, .iload_n 2, 1), (29, .aload_n 1, 1), (30, .invokevirtual 82, 3)]
set_option maxRecDepth 100000 in
theorem ev_d_60_0 : ∀ q ∈ ev_c_60_0, decode prog_5_method_9_code q.1 = .ok (q.2.1, q.2.2) := by decide +kernel
def ev_c_60_1 : List (Nat × Instr × Nat) := [(33, .if_icmp .ge 30, 3), (36, .aload_n 0, 1), (37, .getfield 15, 3), (40, .aload_n 0, 1), (41, .getfield 62, 3), (44, .iload_n 2, 1), (45, .iadd, 1), (46, .baload, 1), (47, .aload_n 1, 1), (48, .iload_n 2, 1), (49, .invokevirtual 87, 3), (52, .if_icmp .eq 5, 3), (55, .iconst 0, 1), (56, .ireturn, 1), (57, .iinc 2 1, 3), (60, .goto (-32), 3), (63, .iconst 1, 1)]
set_option maxRecDepth 100000 in
theorem ev_d_60_1 : ∀ q ∈ ev_c_60_1, decode prog_5_method_9_code q.1 = .ok (q.2.1, q.2.2) := by decide +kernel
def ev_c_60_2 : List (Nat × Instr × Nat) := [(64, .ireturn, 1)]
set_option maxRecDepth 100000 in
theorem ev_d_60_2 : ∀ q ∈ ev_c_60_2, decode prog_5_method_9_code q.1 = .ok (q.2.1, q.2.2) := by decide +kernel
def ev_c_60 : List (Nat × List (Nat × Instr × Nat)) := [(0, ev_c_60_0), (1, ev_c_60_1), (2, ev_c_60_2)]
set_option maxRecDepth 100000 in
theorem ev_d_60 : ∀ q ∈ ev_c_60, ∀ z ∈ q.2, decode prog_5_method_9_code z.1 = .ok (z.2.1, z.2.2) := List.forall_mem_cons.mpr ⟨ev_d_60_0, List.forall_mem_cons.mpr ⟨ev_d_60_1, List.forall_mem_cons.mpr ⟨ev_d_60_2, fun _ h => absurd h List.not_mem_nil⟩⟩⟩
def ev_c_61_0 : List (Nat × Instr × Nat) := [(0, .aload_n 0, 1), (1, .invokevirtual 65, 3), (4, .aload_n 0, 1), (5, .invokevirtual 49, 3), (8, .ifCond .ne 18, 3), (11, .aload_n 0, 1), (12, .aload_n 0, 1), (13, .getfield 28, 3), (16, .invokevirtual 72, 3), (19, .ifCond .eq 7, 3), (22, .iconst 1, 1), (23, .goto 4, 3), (26, .iconst 0, 1), (27, .ireturn, 1)]
set_option maxRecDepth 100000 in
theorem ev_d_61_0 : ∀ q ∈ ev_c_61_0, decode prog_5_method_10_code q.1 = .ok (q.2.1, q.2.2) := by decide +kernel
def ev_c_61 : List (Nat × List (Nat × Instr × Nat)) := [(0, ev_c_61_0)]
set_option maxRecDepth 100000 in
theorem ev_d_61 : ∀ q ∈ ev_c_61, ∀ z ∈ q.2, decode prog_5_method_10_code z.1 = .ok (z.2.1, z.2.2) := List.forall_mem_cons.mpr ⟨ev_d_61_0, fun _ h => absurd h List.not_mem_nil⟩
def ev_c_62_0 : List (Nat × Instr × Nat) := [(0, .aload_n 0, 1), (1, .invokevirtual 56, 3), (4, .aload_n 0, 1), (5, .invokevirtual 49, 3), (8, .ifCond .ne 16, 3), (11, .aload_n 0, 1), (12, .getfield 31, 3), (15, .iconst 2, 1), (16, .if_icmp .eq 8, 3), (19, .aload_n 0, 1), (20, .iconst 1, 1), (21, .invokevirtual 78, 3), (24, .aload_n 0, 1), (25, .invokevirtual 49, 3), (28, .ifCond .ne 24, 3), (31, .aload_n 0, 1)]
set_option maxRecDepth 100000 in
theorem ev_d_62_0 : ∀ q ∈ ev_c_62_0, decode prog_5_method_11_code q.1 = .ok (q.2.1, q.2.2) := by decide +kernel
def ev_c_62_1 : List (Nat × Instr × Nat) := [(32, .getfield 75, 3), (35, .iload_n 1, 1), (36, .if_icmp .lt 11, 3), (39, .aload_n 0, 1), (40, .getfield 75, 3), (43, .iload_n 2, 1), (44, .if_icmp .le 8, 3), (47, .aload_n 0, 1), (48, .iconst 2, 1), (49, .invokevirtual 78, 3), (52, .aload_n 0, 1), (53, .invokevirtual 49, 3), (56, .ifCond .eq 7, 3), (59, .iconst (-1), 1), (60, .goto 7, 3), (63, .aload_n 0, 1)]
set_option maxRecDepth 100000 in
theorem ev_d_62_1 : ∀ q ∈ ev_c_62_1, decode prog_5_method_11_code q.1 = .ok (q.2.1, q.2.2) := by decide +kernel
def ev_c_62_2 : List (Nat × Instr × Nat) := [(64, .getfield 75, 3), (67, .ireturn, 1)]
set_option maxRecDepth 100000 in
theorem ev_d_62_2 : ∀ q ∈ ev_c_62_2, decode prog_5_method_11_code q.1 = .ok (q.2.1, q.2.2) := by decide +kernel
def ev_c_62 : List (Nat × List (Nat × Instr × Nat)) := [(0, ev_c_62_0), (1, ev_c_62_1), (2, ev_c_62_2)]
set_option maxRecDepth 100000 in
theorem ev_d_62 : ∀ q ∈ ev_c_62, ∀ z ∈ q.2, decode prog_5_method_11_code z.1 = .ok (z.2.1, z.2.2) := List.forall_mem_cons.mpr ⟨ev_d_62_0, List.forall_mem_cons.mpr ⟨ev_d_62_1, List.forall_mem_cons.mpr ⟨ev_d_62_2, fun _ h => absurd h List.not_mem_nil⟩⟩⟩
def ev_c_63_0 : List (Nat × Instr × Nat) := [(0, .aload_n 0, 1), (1, .invokevirtual 56, 3), (4, .aload_n 0, 1), (5, .ldc 91, 2), (7, .invokevirtual 93, 3), (10, .ifCond .ne 8, 3), (13, .aload_n 0, 1), (14, .iconst 1, 1), (15, .invokevirtual 78, 3), (18, .aload_n 0, 1), (19, .iconst 1, 1), (20, .bipush 8, 2), (22, .invokevirtual 97, 3), (25, .istore_n 1, 1), (26, .aload_n 0, 1), (27, .invokevirtual 49, 3), (30, .ifCond .ne 14, 3)]
set_option maxRecDepth 100000 in
theorem ev_d_63_0 : ∀ q ∈ ev_c_63_0, decode prog_5_method_12_code q.1 = .ok (q.2.1, q.2.2) := by decide +kernel
def ev_c_63_1 : List (Nat × Instr × Nat) := [(33, .aload_n 0, 1), (34, .getfield 37, 3), (37, .getfield 100, 3), (40, .iload_n 1, 1), (41, .putfield 104, 3), (44, .aload_n 0, 1), (45, .invokevirtual 56, 3), (48, .return_, 1)]
set_option maxRecDepth 100000 in
theorem ev_d_63_1 : ∀ q ∈ ev_c_63_1, decode prog_5_method_12_code q.1 = .ok (q.2.1, q.2.2) := by decide +kernel
def ev_c_63 : List (Nat × List (Nat × Instr × Nat)) := [(0, ev_c_63_0), (1, ev_c_63_1)]
set_option maxRecDepth 100000 in
theorem ev_d_63 : ∀ q ∈ ev_c_63, ∀ z ∈ q.2, decode prog_5_method_12_code z.1 = .ok (z.2.1, z.2.2) := List.forall_mem_cons.mpr ⟨ev_d_63_0, List.forall_mem_cons.mpr ⟨ev_d_63_1, fun _ h => absurd h List.not_mem_nil⟩⟩
def ev_c_64_0 : List (Nat × Instr × Nat) := [(0, .aload_n 0, 1), (1, .invokevirtual 49, 3), (4, .ifCond .eq 4, 3), (7, .return_, 1), (8, .aload_n 0, 1), (9, .getfield 37, 3), (12, .getfield 100, 3), (15, .astore_n 1, 1), (16, .aload_n 0, 1), (17, .getfield 31, 3), (20, .ifCond .eq 11, 3), (23, .aload_n 0, 1), (24, .iconst 1, 1), (25, .invokevirtual 78, 3), (28, .goto 29, 3), (31, .aload_n 1, 1)]
set_option maxRecDepth 100000 in
theorem ev_d_64_0 : ∀ q ∈ ev_c_64_0, decode prog_5_method_13_code q.1 = .ok (q.2.1, q.2.2) := by decide +kernel
def ev_c_64_1 : List (Nat × Instr × Nat) := [(32, .getfield 109, 3), (35, .ifCond .eq 17, 3), (38, .aload_n 1, 1), (39, .getfield 112, 3), (42, .ifCond .eq 10, 3), (45, .aload_n 1, 1), (46, .getfield 115, 3), (49, .ifCond .ne 8, 3), (52, .aload_n 0, 1), (53, .iconst 4, 1), (54, .invokevirtual 78, 3), (57, .return_, 1)]
set_option maxRecDepth 100000 in
theorem ev_d_64_1 : ∀ q ∈ ev_c_64_1, decode prog_5_method_13_code q.1 = .ok (q.2.1, q.2.2) := by decide +kernel
def ev_c_64 : List (Nat × List (Nat × Instr × Nat)) := [(0, ev_c_64_0), (1, ev_c_64_1)]
set_option maxRecDepth 100000 in
theorem ev_d_64 : ∀ q ∈ ev_c_64, ∀ z ∈ q.2, decode prog_5_method_13_code z.1 = .ok (z.2.1, z.2.2) := List.forall_mem_cons.mpr ⟨ev_d_64_0, List.forall_mem_cons.mpr ⟨ev_d_64_1, fun _ h => absurd h List.not_mem_nil⟩⟩
def ev_c_65_0 : List (Nat × Instr × Nat) := [(0, .aload_n 0, 1), (1, .invokevirtual 56, 3), (4, .aload_n 0, 1), (5, .invokevirtual 49, 3), (8, .ifCond .eq 4, 3), (11, .return_, 1), (12, .aload_n 0, 1), (13, .ldc 118, 2), (15, .invokevirtual 93, 3), (18, .ifCond .eq 10, 3), (21, .aload_n 0, 1), (22, .invokevirtual 120, 3), (25, .goto 136, 3), (28, .aload_n 0, 1), (29, .ldc 123, 2), (31, .invokevirtual 93, 3)]
set_option maxRecDepth 100000 in
theorem ev_d_65_0 : ∀ q ∈ ev_c_65_0, decode prog_5_method_14_code q.1 = .ok (q.2.1, q.2.2) := by decide +kernel
def ev_c_65_1 : List (Nat × Instr × Nat) := [(34, .ifCond .eq 10, 3), (37, .aload_n 0, 1), (38, .invokevirtual 125, 3), (41, .goto 120, 3), (44, .aload_n 0, 1), (45, .ldc 128, 2), (47, .invokevirtual 93, 3), (50, .ifCond .eq 10, 3), (53, .aload_n 0, 1), (54, .invokevirtual 130, 3), (57, .goto 104, 3), (60, .aload_n 0, 1), (61, .ldc 133, 2), (63, .invokevirtual 93, 3)]
set_option maxRecDepth 100000 in
theorem ev_d_65_1 : ∀ q ∈ ev_c_65_1, decode prog_5_method_14_code q.1 = .ok (q.2.1, q.2.2) := by decide +kernel
def ev_c_65_2 : List (Nat × Instr × Nat) := [(66, .ifCond .eq 10, 3), (69, .aload_n 0, 1), (70, .invokevirtual 135, 3), (73, .goto 88, 3), (76, .aload_n 0, 1), (77, .ldc 138, 2), (79, .invokevirtual 93, 3), (82, .ifCond .eq 10, 3), (85, .aload_n 0, 1), (86, .invokevirtual 140, 3), (89, .goto 72, 3), (92, .aload_n 0, 1), (93, .ldc 143, 2), (95, .invokevirtual 93, 3)]
set_option maxRecDepth 100000 in
theorem ev_d_65_2 : ∀ q ∈ ev_c_65_2, decode prog_5_method_14_code q.1 = .ok (q.2.1, q.2.2) := by decide +kernel
def ev_c_65_3 : List (Nat × Instr × Nat) := [(98, .ifCond .eq 10, 3), (101, .aload_n 0, 1), (102, .invokevirtual 145, 3), (105, .goto 56, 3), (108, .aload_n 0, 1), (109, .ldc 148, 2), (111, .invokevirtual 93, 3), (114, .ifCond .eq 10, 3), (117, .aload_n 0, 1), (118, .invokevirtual 150, 3), (121, .goto 40, 3), (124, .aload_n 0, 1), (125, .ldc 153, 2), (127, .invokevirtual 93, 3)]
set_option maxRecDepth 100000 in
theorem ev_d_65_3 : ∀ q ∈ ev_c_65_3, decode prog_5_method_14_code q.1 = .ok (q.2.1, q.2.2) := by decide +kernel
def ev_c_65_4 : List (Nat × Instr × Nat) := [(130, .ifCond .eq 10, 3), (133, .aload_n 0, 1), (134, .invokevirtual 155, 3), (137, .goto 24, 3), (140, .aload_n 0, 1), (141, .ldc 158, 2), (143, .invokevirtual 93, 3), (146, .ifCond .eq 10, 3), (149, .aload_n 0, 1), (150, .invokevirtual 160, 3), (153, .goto 8, 3), (156, .aload_n 0, 1), (157, .iconst 1, 1), (158, .invokevirtual 78, 3)]
set_option maxRecDepth 100000 in
theorem ev_d_65_4 : ∀ q ∈ ev_c_65_4, decode prog_5_method_14_code q.1 = .ok (q.2.1, q.2.2) := by decide +kernel
def ev_c_65_5 : List (Nat × Instr × Nat) := [(161, .return_, 1)]
set_option maxRecDepth 100000 in
theorem ev_d_65_5 : ∀ q ∈ ev_c_65_5, decode prog_5_method_14_code q.1 = .ok (q.2.1, q.2.2) := by decide +kernel
def ev_c_65 : List (Nat × List (Nat × Instr × Nat)) := [(0, ev_c_65_0), (1, ev_c_65_1), (2, ev_c_65_2), (3, ev_c_65_3), (4, ev_c_65_4), (5, ev_c_65_5)]
set_option maxRecDepth 100000 in
theorem ev_d_65 : ∀ q ∈ ev_c_65, ∀ z ∈ q.2, decode prog_5_method_14_code z.1 = .ok (z.2.1, z.2.2) := List.forall_mem_cons.mpr ⟨ev_d_65_0, List.forall_mem_cons.mpr ⟨ev_d_65_1, List.forall_mem_cons.mpr ⟨ev_d_65_2, List.forall_mem_cons.mpr ⟨ev_d_65_3, List.forall_mem_cons.mpr ⟨ev_d_65_4, List.forall_mem_cons.mpr ⟨ev_d_65_5, fun _ h => absurd h List.not_mem_nil⟩⟩⟩⟩⟩⟩
end
section
/-! code, by wip/gen/gen.py -/
def ev_c_66_0 : List (Nat × Instr × Nat) := [(0, .iload_n 1, 1), (1, .iload_n 2, 1), (2, .if_icmp .lt 8, 3), (5, .aload_n 0, 1), (6, .iconst 4, 1), (7, .invokevirtual 78, 3), (10, .return_, 1)]
set_option maxRecDepth 100000 in
theorem ev_d_66_0 : ∀ q ∈ ev_c_66_0, decode prog_5_method_15_code q.1 = .ok (q.2.1, q.2.2) := by decide +kernel
def ev_c_66 : List (Nat × List (Nat × Instr × Nat)) := [(0, ev_c_66_0)]
set_option maxRecDepth 100000 in
theorem ev_d_66 : ∀ q ∈ ev_c_66, ∀ z ∈ q.2, decode prog_5_method_15_code z.1 = .ok (z.2.1, z.2.2) := List.forall_mem_cons.mpr ⟨ev_d_66_0, fun _ h => absurd h List.not_mem_nil⟩
def ev_c_67_0 : List (Nat × Instr × Nat) := [(0, .aload_n 0, 1), (1, .aload_n 0, 1), (2, .getfield 37, 3), (5, .getfield 100, 3), (8, .getfield 109, 3), (11, .bipush 6, 2), (13, .invokevirtual 163, 3), (16, .aload_n 0, 1), (17, .iconst 0, 1), (18, .iconst 4, 1), (19, .invokevirtual 97, 3), (22, .istore_n 1, 1), (23, .aload_n 0, 1), (24, .invokevirtual 49, 3), (27, .ifCond .ne 14, 3), (30, .aload_n 0, 1), (31, .getfield 37, 3)]
set_option maxRecDepth 100000 in
theorem ev_d_67_0 : ∀ q ∈ ev_c_67_0, decode prog_5_method_16_code q.1 = .ok (q.2.1, q.2.2) := by decide +kernel
def ev_c_67_1 : List (Nat × Instr × Nat) := [(34, .getfield 100, 3), (37, .iload_n 1, 1), (38, .invokevirtual 167, 3), (41, .return_, 1)]
set_option maxRecDepth 100000 in
theorem ev_d_67_1 : ∀ q ∈ ev_c_67_1, decode prog_5_method_16_code q.1 = .ok (q.2.1, q.2.2) := by decide +kernel
def ev_c_67 : List (Nat × List (Nat × Instr × Nat)) := [(0, ev_c_67_0), (1, ev_c_67_1)]
set_option maxRecDepth 100000 in
theorem ev_d_67 : ∀ q ∈ ev_c_67, ∀ z ∈ q.2, decode prog_5_method_16_code z.1 = .ok (z.2.1, z.2.2) := List.forall_mem_cons.mpr ⟨ev_d_67_0, List.forall_mem_cons.mpr ⟨ev_d_67_1, fun _ h => absurd h List.not_mem_nil⟩⟩
def ev_c_68_0 : List (Nat × Instr × Nat) := [(0, .aload_n 0, 1), (1, .aload_n 0, 1), (2, .getfield 37, 3), (5, .getfield 100, 3), (8, .getfield 112, 3), (11, .iconst 4, 1), (12, .invokevirtual 163, 3), (15, .aload_n 0, 1), (16, .iconst 0, 1), (17, .bipush 99, 2), (19, .invokevirtual 97, 3), (22, .istore_n 1, 1), (23, .aload_n 0, 1), (24, .iconst 1, 1), (25, .bipush 99, 2), (27, .invokevirtual 97, 3), (30, .istore_n 2, 1), (31, .aload_n 0, 1)]
set_option maxRecDepth 100000 in
theorem ev_d_68_0 : ∀ q ∈ ev_c_68_0, decode prog_5_method_17_code q.1 = .ok (q.2.1, q.2.2) := by decide +kernel
def ev_c_68_1 : List (Nat × Instr × Nat) := [(32, .iconst 0, 1), (33, .bipush 9, 2), (35, .invokevirtual 97, 3), (38, .istore_n 3, 1), (39, .aload_n 0, 1), (40, .invokevirtual 49, 3), (43, .ifCond .ne 16, 3), (46, .aload_n 0, 1), (47, .getfield 37, 3), (50, .getfield 100, 3), (53, .iload_n 1, 1), (54, .iload_n 2, 1), (55, .iload_n 3, 1), (56, .invokevirtual 170, 3), (59, .return_, 1)]
set_option maxRecDepth 100000 in
theorem ev_d_68_1 : ∀ q ∈ ev_c_68_1, decode prog_5_method_17_code q.1 = .ok (q.2.1, q.2.2) := by decide +kernel
def ev_c_68 : List (Nat × List (Nat × Instr × Nat)) := [(0, ev_c_68_0), (1, ev_c_68_1)]
set_option maxRecDepth 100000 in
theorem ev_d_68 : ∀ q ∈ ev_c_68, ∀ z ∈ q.2, decode prog_5_method_17_code z.1 = .ok (z.2.1, z.2.2) := List.forall_mem_cons.mpr ⟨ev_d_68_0, List.forall_mem_cons.mpr ⟨ev_d_68_1, fun _ h => absurd h List.not_mem_nil⟩⟩
def ev_c_69_0 : List (Nat × Instr × Nat) := [(0, .aload_n 0, 1), (1, .aload_n 0, 1), (2, .getfield 37, 3), (5, .getfield 100, 3), (8, .getfield 115, 3), (11, .iconst 3, 1), (12, .invokevirtual 163, 3), (15, .aload_n 0, 1), (16, .iconst 1, 1), (17, .bipush 6, 2), (19, .invokevirtual 97, 3), (22, .istore_n 1, 1), (23, .aload_n 0, 1), (24, .invokevirtual 49, 3), (27, .ifCond .ne 14, 3), (30, .aload_n 0, 1), (31, .getfield 37, 3)]
set_option maxRecDepth 100000 in
theorem ev_d_69_0 : ∀ q ∈ ev_c_69_0, decode prog_5_method_18_code q.1 = .ok (q.2.1, q.2.2) := by decide +kernel
def ev_c_69_1 : List (Nat × Instr × Nat) := [(34, .getfield 100, 3), (37, .iload_n 1, 1), (38, .invokevirtual 174, 3), (41, .return_, 1)]
set_option maxRecDepth 100000 in
theorem ev_d_69_1 : ∀ q ∈ ev_c_69_1, decode prog_5_method_18_code q.1 = .ok (q.2.1, q.2.2) := by decide +kernel
def ev_c_69 : List (Nat × List (Nat × Instr × Nat)) := [(0, ev_c_69_0), (1, ev_c_69_1)]
set_option maxRecDepth 100000 in
theorem ev_d_69 : ∀ q ∈ ev_c_69, ∀ z ∈ q.2, decode prog_5_method_18_code z.1 = .ok (z.2.1, z.2.2) := List.forall_mem_cons.mpr ⟨ev_d_69_0, List.forall_mem_cons.mpr ⟨ev_d_69_1, fun _ h => absurd h List.not_mem_nil⟩⟩
def ev_c_70_0 : List (Nat × Instr × Nat) := [(0, .aload_n 0, 1), (1, .aload_n 0, 1), (2, .getfield 37, 3), (5, .getfield 177, 3), (8, .getfield 181, 3), (11, .bipush 12, 2), (13, .invokevirtual 163, 3), (16, .aload_n 0, 1), (17, .iconst 0, 1), (18, .aload_n 0, 1), (19, .getfield 37, 3), (22, .getfield 100, 3), (25, .getfield 112, 3), (28, .iconst 1, 1), (29, .isub, 1), (30, .invokevirtual 97, 3)]
set_option maxRecDepth 100000 in
theorem ev_d_70_0 : ∀ q ∈ ev_c_70_0, decode prog_5_method_19_code q.1 = .ok (q.2.1, q.2.2) := by decide +kernel
def ev_c_70_1 : List (Nat × Instr × Nat) := [(33, .istore_n 1, 1), (34, .aload_n 0, 1), (35, .iconst 0, 1), (36, .iconst 3, 1), (37, .invokevirtual 97, 3), (40, .istore_n 2, 1), (41, .aload_n 0, 1), (42, .iconst 0, 1), (43, .bipush 9, 2), (45, .invokevirtual 97, 3), (48, .istore_n 3, 1), (49, .iconst 0, 1), (50, .istore 4, 2), (52, .iconst 0, 1), (53, .istore 5, 2), (55, .iload 5, 2), (57, .bipush 6, 2), (59, .if_icmp .gt 78, 3), (62, .iload 5, 2)]
set_option maxRecDepth 100000 in
theorem ev_d_70_1 : ∀ q ∈ ev_c_70_1, decode prog_5_method_19_code q.1 = .ok (q.2.1, q.2.2) := by decide +kernel
def ev_c_70_2 : List (Nat × Instr × Nat) := [(64, .ifCond .eq 10, 3), (67, .aload_n 0, 1), (68, .invokevirtual 186, 3), (71, .ifCond .eq 66, 3), (74, .aload_n 0, 1), (75, .iconst 0, 1), (76, .aload_n 0, 1), (77, .getfield 37, 3), (80, .getfield 100, 3), (83, .getfield 109, 3), (86, .iconst 1, 1), (87, .isub, 1), (88, .invokevirtual 97, 3), (91, .istore 6, 2), (93, .aload_n 0, 1), (94, .invokevirtual 49, 3)]
set_option maxRecDepth 100000 in
theorem ev_d_70_2 : ∀ q ∈ ev_c_70_2, decode prog_5_method_19_code q.1 = .ok (q.2.1, q.2.2) := by decide +kernel
def ev_c_70_3 : List (Nat × Instr × Nat) := [(97, .ifCond .ne 18, 3), (100, .iload 4, 2), (102, .iload 6, 2), (104, .ishr, 1), (105, .iconst 1, 1), (106, .iand, 1), (107, .ifCond .eq 8, 3), (110, .aload_n 0, 1), (111, .iconst 3, 1), (112, .invokevirtual 78, 3), (115, .aload_n 0, 1), (116, .invokevirtual 49, 3), (119, .ifCond .ne 12, 3), (122, .iload 4, 2), (124, .iconst 1, 1), (125, .iload 6, 2), (127, .ishl, 1)]
set_option maxRecDepth 100000 in
theorem ev_d_70_3 : ∀ q ∈ ev_c_70_3, decode prog_5_method_19_code q.1 = .ok (q.2.1, q.2.2) := by decide +kernel
def ev_c_70_4 : List (Nat × Instr × Nat) := [(128, .ior, 1), (129, .istore 4, 2), (131, .iinc 5 1, 3), (134, .goto (-79), 3), (137, .aload_n 0, 1), (138, .invokevirtual 49, 3), (141, .ifCond .ne 19, 3), (144, .aload_n 0, 1), (145, .getfield 37, 3), (148, .getfield 177, 3), (151, .iload_n 1, 1), (152, .iload 4, 2), (154, .iload_n 2, 1), (155, .iload_n 3, 1), (156, .invokevirtual 189, 3), (159, .pop, 1)]
set_option maxRecDepth 100000 in
theorem ev_d_70_4 : ∀ q ∈ ev_c_70_4, decode prog_5_method_19_code q.1 = .ok (q.2.1, q.2.2) := by decide +kernel
def ev_c_70_5 : List (Nat × Instr × Nat) := [(160, .return_, 1)]
set_option maxRecDepth 100000 in
theorem ev_d_70_5 : ∀ q ∈ ev_c_70_5, decode prog_5_method_19_code q.1 = .ok (q.2.1, q.2.2) := by decide +kernel
def ev_c_70 : List (Nat × List (Nat × Instr × Nat)) := [(0, ev_c_70_0), (1, ev_c_70_1), (2, ev_c_70_2), (3, ev_c_70_3), (4, ev_c_70_4), (5, ev_c_70_5)]
set_option maxRecDepth 100000 in
theorem ev_d_70 : ∀ q ∈ ev_c_70, ∀ z ∈ q.2, decode prog_5_method_19_code z.1 = .ok (z.2.1, z.2.2) := List.forall_mem_cons.mpr ⟨ev_d_70_0, List.forall_mem_cons.mpr ⟨ev_d_70_1, List.forall_mem_cons.mpr ⟨ev_d_70_2, List.forall_mem_cons.mpr ⟨ev_d_70_3, List.forall_mem_cons.mpr ⟨ev_d_70_4, List.forall_mem_cons.mpr ⟨ev_d_70_5, fun _ h => absurd h List.not_mem_nil⟩⟩⟩⟩⟩⟩
def ev_c_71_0 : List (Nat × Instr × Nat) := [(0, .aload_n 0, 1), (1, .iconst 0, 1), (2, .aload_n 0, 1), (3, .getfield 37, 3), (6, .getfield 177, 3), (9, .getfield 181, 3), (12, .iconst 1, 1), (13, .isub, 1), (14, .invokevirtual 97, 3), (17, .istore_n 1, 1), (18, .aload_n 0, 1), (19, .iconst 0, 1), (20, .aload_n 0, 1), (21, .getfield 37, 3), (24, .getfield 100, 3), (27, .getfield 115, 3), (30, .iconst 1, 1), (31, .isub, 1)]
set_option maxRecDepth 100000 in
theorem ev_d_71_0 : ∀ q ∈ ev_c_71_0, decode prog_5_method_20_code q.1 = .ok (q.2.1, q.2.2) := by decide +kernel
def ev_c_71_1 : List (Nat × Instr × Nat) := [(32, .invokevirtual 97, 3), (35, .istore_n 2, 1), (36, .aload_n 0, 1), (37, .invokevirtual 49, 3), (40, .ifCond .eq 4, 3), (43, .return_, 1), (44, .aload_n 0, 1), (45, .getfield 37, 3), (48, .iload_n 1, 1), (49, .iload_n 2, 1), (50, .invokevirtual 193, 3), (53, .ifCond .eq 11, 3), (56, .aload_n 0, 1), (57, .iconst 3, 1), (58, .invokevirtual 78, 3), (61, .goto 16, 3)]
set_option maxRecDepth 100000 in
theorem ev_d_71_1 : ∀ q ∈ ev_c_71_1, decode prog_5_method_20_code q.1 = .ok (q.2.1, q.2.2) := by decide +kernel
def ev_c_71_2 : List (Nat × Instr × Nat) := [(64, .aload_n 0, 1), (65, .getfield 37, 3), (68, .getfield 177, 3), (71, .iload_n 1, 1), (72, .iload_n 2, 1), (73, .invokevirtual 196, 3), (76, .pop, 1), (77, .return_, 1)]
set_option maxRecDepth 100000 in
theorem ev_d_71_2 : ∀ q ∈ ev_c_71_2, decode prog_5_method_20_code q.1 = .ok (q.2.1, q.2.2) := by decide +kernel
def ev_c_71 : List (Nat × List (Nat × Instr × Nat)) := [(0, ev_c_71_0), (1, ev_c_71_1), (2, ev_c_71_2)]
set_option maxRecDepth 100000 in
theorem ev_d_71 : ∀ q ∈ ev_c_71, ∀ z ∈ q.2, decode prog_5_method_20_code z.1 = .ok (z.2.1, z.2.2) := List.forall_mem_cons.mpr ⟨ev_d_71_0, List.forall_mem_cons.mpr ⟨ev_d_71_1, List.forall_mem_cons.mpr ⟨ev_d_71_2, fun _ h => absurd h List.not_mem_nil⟩⟩⟩
def ev_c_72_0 : List (Nat × Instr × Nat) := [(0, .aload_n 0, 1), (1, .iconst 0, 1), (2, .aload_n 0, 1), (3, .getfield 37, 3), (6, .getfield 100, 3), (9, .getfield 115, 3), (12, .iconst 1, 1), (13, .isub, 1), (14, .invokevirtual 97, 3), (17, .istore_n 1, 1), (18, .aload_n 0, 1), (19, .iconst 0, 1), (20, .iconst 3, 1), (21, .invokevirtual 97, 3), (24, .istore_n 2, 1), (25, .aload_n 0, 1), (26, .invokevirtual 49, 3), (29, .ifCond .eq 4, 3)]
set_option maxRecDepth 100000 in
theorem ev_d_72_0 : ∀ q ∈ ev_c_72_0, decode prog_5_method_21_code q.1 = .ok (q.2.1, q.2.2) := by decide +kernel
def ev_c_72_1 : List (Nat × Instr × Nat) := [(32, .return_, 1), (33, .aload_n 0, 1), (34, .getfield 37, 3), (37, .iload_n 1, 1), (38, .iload_n 2, 1), (39, .invokevirtual 199, 3), (42, .ifCond .eq 11, 3), (45, .aload_n 0, 1), (46, .iconst 3, 1), (47, .invokevirtual 78, 3), (50, .goto 13, 3), (53, .aload_n 0, 1), (54, .getfield 37, 3), (57, .iload_n 1, 1), (58, .iload_n 2, 1), (59, .invokevirtual 202, 3), (62, .pop, 1), (63, .return_, 1)]
set_option maxRecDepth 100000 in
theorem ev_d_72_1 : ∀ q ∈ ev_c_72_1, decode prog_5_method_21_code q.1 = .ok (q.2.1, q.2.2) := by decide +kernel
def ev_c_72 : List (Nat × List (Nat × Instr × Nat)) := [(0, ev_c_72_0), (1, ev_c_72_1)]
set_option maxRecDepth 100000 in
theorem ev_d_72 : ∀ q ∈ ev_c_72, ∀ z ∈ q.2, decode prog_5_method_21_code z.1 = .ok (z.2.1, z.2.2) := List.forall_mem_cons.mpr ⟨ev_d_72_0, List.forall_mem_cons.mpr ⟨ev_d_72_1, fun _ h => absurd h List.not_mem_nil⟩⟩
def ev_c_73_0 : List (Nat × Instr × Nat) := [(0, .aload_n 0, 1), (1, .iconst 0, 1), (2, .aload_n 0, 1), (3, .getfield 37, 3), (6, .getfield 177, 3), (9, .getfield 181, 3), (12, .iconst 1, 1), (13, .isub, 1), (14, .invokevirtual 97, 3), (17, .istore_n 1, 1), (18, .aload_n 0, 1), (19, .invokevirtual 49, 3), (22, .ifCond .eq 4, 3), (25, .return_, 1), (26, .aload_n 0, 1), (27, .getfield 37, 3), (30, .iload_n 1, 1), (31, .invokevirtual 205, 3)]
set_option maxRecDepth 100000 in
theorem ev_d_73_0 : ∀ q ∈ ev_c_73_0, decode prog_5_method_22_code q.1 = .ok (q.2.1, q.2.2) := by decide +kernel
def ev_c_73_1 : List (Nat × Instr × Nat) := [(34, .ifCond .ne 11, 3), (37, .aload_n 0, 1), (38, .iconst 3, 1), (39, .invokevirtual 78, 3), (42, .goto 12, 3), (45, .aload_n 0, 1), (46, .getfield 37, 3), (49, .iload_n 1, 1), (50, .invokevirtual 208, 3), (53, .pop, 1), (54, .return_, 1)]
set_option maxRecDepth 100000 in
theorem ev_d_73_1 : ∀ q ∈ ev_c_73_1, decode prog_5_method_22_code q.1 = .ok (q.2.1, q.2.2) := by decide +kernel
def ev_c_73 : List (Nat × List (Nat × Instr × Nat)) := [(0, ev_c_73_0), (1, ev_c_73_1)]
set_option maxRecDepth 100000 in
theorem ev_d_73 : ∀ q ∈ ev_c_73, ∀ z ∈ q.2, decode prog_5_method_22_code z.1 = .ok (z.2.1, z.2.2) := List.forall_mem_cons.mpr ⟨ev_d_73_0, List.forall_mem_cons.mpr ⟨ev_d_73_1, fun _ h => absurd h List.not_mem_nil⟩⟩
def ev_c_74_0 : List (Nat × Instr × Nat) := [(0, .aload_n 0, 1), (1, .iconst 0, 1), (2, .bipush 9, 2), (4, .invokevirtual 97, 3), (7, .istore_n 1, 1), (8, .aload_n 0, 1), (9, .invokevirtual 49, 3), (12, .ifCond .ne 14, 3), (15, .aload_n 0, 1), (16, .getfield 37, 3), (19, .getfield 177, 3), (22, .iload_n 1, 1), (23, .putfield 212, 3), (26, .return_, 1)]
set_option maxRecDepth 100000 in
theorem ev_d_74_0 : ∀ q ∈ ev_c_74_0, decode prog_5_method_23_code q.1 = .ok (q.2.1, q.2.2) := by decide +kernel
def ev_c_74 : List (Nat × List (Nat × Instr × Nat)) := [(0, ev_c_74_0)]
set_option maxRecDepth 100000 in
theorem ev_d_74 : ∀ q ∈ ev_c_74, ∀ z ∈ q.2, decode prog_5_method_23_code z.1 = .ok (z.2.1, z.2.2) := List.forall_mem_cons.mpr ⟨ev_d_74_0, fun _ h => absurd h List.not_mem_nil⟩
def ev_c_75_0 : List (Nat × Instr × Nat) := [(0, .aload_n 0, 1), (1, .iconst 1, 1), (2, .bipush 50, 2), (4, .invokevirtual 97, 3), (7, .istore_n 1, 1), (8, .aload_n 0, 1), (9, .invokevirtual 49, 3), (12, .ifCond .ne 15, 3), (15, .aload_n 0, 1), (16, .getfield 37, 3), (19, .getfield 177, 3), (22, .iload_n 1, 1), (23, .invokevirtual 214, 3), (26, .pop, 1), (27, .return_, 1)]
set_option maxRecDepth 100000 in
theorem ev_d_75_0 : ∀ q ∈ ev_c_75_0, decode prog_5_method_24_code q.1 = .ok (q.2.1, q.2.2) := by decide +kernel
def ev_c_75 : List (Nat × List (Nat × Instr × Nat)) := [(0, ev_c_75_0)]
set_option maxRecDepth 100000 in
theorem ev_d_75 : ∀ q ∈ ev_c_75, ∀ z ∈ q.2, decode prog_5_method_24_code z.1 = .ok (z.2.1, z.2.2) := List.forall_mem_cons.mpr ⟨ev_d_75_0, fun _ h => absurd h List.not_mem_nil⟩
def ev_c_76_0 : List (Nat × Instr × Nat) := [(0, .aload_n 0, 1), (1, .invokespecial 3, 3), (4, .aload_n 0, 1), (5, .bipush 6, 2), (7, .newarray .int, 2), (9, .putfield 9, 3), (12, .aload_n 0, 1), (13, .iconst 4, 1), (14, .newarray .int, 2), (16, .putfield 15, 3), (19, .aload_n 0, 1), (20, .iconst 4, 1), (21, .newarray .int, 2), (23, .putfield 18, 3), (26, .aload_n 0, 1), (27, .iconst 4, 1), (28, .newarray .int, 2), (30, .putfield 21, 3)]
set_option maxRecDepth 100000 in
theorem ev_d_76_0 : ∀ q ∈ ev_c_76_0, decode prog_6_method_1_code q.1 = .ok (q.2.1, q.2.2) := by decide +kernel
def ev_c_76_1 : List (Nat × Instr × Nat) := [(33, .aload_n 0, 1), (34, .iconst 3, 1), (35, .newarray .int, 2), (37, .putfield 24, 3), (40, .return_, 1)]
set_option maxRecDepth 100000 in
theorem ev_d_76_1 : ∀ q ∈ ev_c_76_1, decode prog_6_method_1_code q.1 = .ok (q.2.1, q.2.2) := by decide +kernel
def ev_c_76 : List (Nat × List (Nat × Instr × Nat)) := [(0, ev_c_76_0), (1, ev_c_76_1)]
set_option maxRecDepth 100000 in
theorem ev_d_76 : ∀ q ∈ ev_c_76, ∀ z ∈ q.2, decode prog_6_method_1_code z.1 = .ok (z.2.1, z.2.2) := List.forall_mem_cons.mpr ⟨ev_d_76_0, List.forall_mem_cons.mpr ⟨ev_d_76_1, fun _ h => absurd h List.not_mem_nil⟩⟩
def ev_c_77_0 : List (Nat × Instr × Nat) := [(0, .aload_n 0, 1), (1, .iconst 0, 1), (2, .putfield 27, 3), (5, .aload_n 0, 1), (6, .iconst 0, 1), (7, .putfield 31, 3), (10, .aload_n 0, 1), (11, .iconst 0, 1), (12, .putfield 34, 3), (15, .aload_n 0, 1), (16, .iconst 0, 1), (17, .putfield 37, 3), (20, .return_, 1)]
set_option maxRecDepth 100000 in
theorem ev_d_77_0 : ∀ q ∈ ev_c_77_0, decode prog_6_method_2_code q.1 = .ok (q.2.1, q.2.2) := by decide +kernel
def ev_c_77 : List (Nat × List (Nat × Instr × Nat)) := [(0, ev_c_77_0)]
set_option maxRecDepth 100000 in
theorem ev_d_77 : ∀ q ∈ ev_c_77, ∀ z ∈ q.2, decode prog_6_method_2_code z.1 = .ok (z.2.1, z.2.2) := List.forall_mem_cons.mpr ⟨ev_d_77_0, fun _ h => absurd h List.not_mem_nil⟩
def ev_c_78_0 : List (Nat × Instr × Nat) := [(0, .aload_n 0, 1), (1, .getfield 9, 3), (4, .aload_n 0, 1), (5, .getfield 31, 3), (8, .iload_n 1, 1), (9, .iastore, 1), (10, .aload_n 0, 1), (11, .dup, 1), (12, .getfield 31, 3), (15, .iconst 1, 1), (16, .iadd, 1), (17, .putfield 31, 3), (20, .return_, 1)]
set_option maxRecDepth 100000 in
theorem ev_d_78_0 : ∀ q ∈ ev_c_78_0, decode prog_6_method_3_code q.1 = .ok (q.2.1, q.2.2) := by decide +kernel
def ev_c_78 : List (Nat × List (Nat × Instr × Nat)) := [(0, ev_c_78_0)]
set_option maxRecDepth 100000 in
theorem ev_d_78 : ∀ q ∈ ev_c_78, ∀ z ∈ q.2, decode prog_6_method_3_code z.1 = .ok (z.2.1, z.2.2) := List.forall_mem_cons.mpr ⟨ev_d_78_0, fun _ h => absurd h List.not_mem_nil⟩
def ev_c_79_0 : List (Nat × Instr × Nat) := [(0, .aload_n 0, 1), (1, .getfield 15, 3), (4, .aload_n 0, 1), (5, .getfield 34, 3), (8, .iload_n 1, 1), (9, .iastore, 1), (10, .aload_n 0, 1), (11, .getfield 18, 3), (14, .aload_n 0, 1), (15, .getfield 34, 3), (18, .iload_n 2, 1), (19, .iastore, 1), (20, .aload_n 0, 1), (21, .getfield 21, 3), (24, .aload_n 0, 1), (25, .getfield 34, 3), (28, .iload_n 3, 1), (29, .iastore, 1), (30, .aload_n 0, 1), (31, .dup, 1)]
set_option maxRecDepth 100000 in
theorem ev_d_79_0 : ∀ q ∈ ev_c_79_0, decode prog_6_method_4_code q.1 = .ok (q.2.1, q.2.2) := by decide +kernel
def ev_c_79_1 : List (Nat × Instr × Nat) := [(32, .getfield 34, 3), (35, .iconst 1, 1), (36, .iadd, 1), (37, .putfield 34, 3), (40, .return_, 1)]
set_option maxRecDepth 100000 in
theorem ev_d_79_1 : ∀ q ∈ ev_c_79_1, decode prog_6_method_4_code q.1 = .ok (q.2.1, q.2.2) := by decide +kernel
def ev_c_79 : List (Nat × List (Nat × Instr × Nat)) := [(0, ev_c_79_0), (1, ev_c_79_1)]
set_option maxRecDepth 100000 in
theorem ev_d_79 : ∀ q ∈ ev_c_79, ∀ z ∈ q.2, decode prog_6_method_4_code z.1 = .ok (z.2.1, z.2.2) := List.forall_mem_cons.mpr ⟨ev_d_79_0, List.forall_mem_cons.mpr ⟨ev_d_79_1, fun _ h => absurd h List.not_mem_nil⟩⟩
def ev_c_80_0 : List (Nat × Instr × Nat) := [(0, .aload_n 0, 1), (1, .getfield 24, 3), (4, .aload_n 0, 1), (5, .getfield 37, 3), (8, .iload_n 1, 1), (9, .iastore, 1), (10, .aload_n 0, 1), (11, .dup, 1), (12, .getfield 37, 3), (15, .iconst 1, 1), (16, .iadd, 1), (17, .putfield 37, 3), (20, .return_, 1)]
set_option maxRecDepth 100000 in
theorem ev_d_80_0 : ∀ q ∈ ev_c_80_0, decode prog_6_method_5_code q.1 = .ok (q.2.1, q.2.2) := by decide +kernel
def ev_c_80 : List (Nat × List (Nat × Instr × Nat)) := [(0, ev_c_80_0)]
set_option maxRecDepth 100000 in
theorem ev_d_80 : ∀ q ∈ ev_c_80, ∀ z ∈ q.2, decode prog_6_method_5_code z.1 = .ok (z.2.1, z.2.2) := List.forall_mem_cons.mpr ⟨ev_d_80_0, fun _ h => absurd h List.not_mem_nil⟩
def ev_c_81_0 : List (Nat × Instr × Nat) := [(0, .iconst 0, 1), (1, .istore_n 2, 1), (2, .iconst 0, 1), (3, .istore_n 3, 1), (4, .iload_n 3, 1), (5, .aload_n 0, 1), (6, .getfield 31, 3), (9, .if_icmp .ge 25, 3), (12, .aload_n 0, 1), (13, .getfield 9, 3), (16, .iload_n 3, 1), (17, .iaload, 1), (18, .iload_n 1, 1), (19, .if_icmp .gt 9, 3), (22, .iload_n 2, 1), (23, .iconst 1, 1), (24, .iload_n 3, 1), (25, .ishl, 1), (26, .ior, 1), (27, .istore_n 2, 1), (28, .iinc 3 1, 3), (31, .goto (-27), 3)]
set_option maxRecDepth 100000 in
theorem ev_d_81_0 : ∀ q ∈ ev_c_81_0, decode prog_6_method_7_code q.1 = .ok (q.2.1, q.2.2) := by decide +kernel
def ev_c_81_1 : List (Nat × Instr × Nat) := [(34, .iload_n 2, 1), (35, .ireturn, 1)]
set_option maxRecDepth 100000 in
theorem ev_d_81_1 : ∀ q ∈ ev_c_81_1, decode prog_6_method_7_code q.1 = .ok (q.2.1, q.2.2) := by decide +kernel
def ev_c_81 : List (Nat × List (Nat × Instr × Nat)) := [(0, ev_c_81_0), (1, ev_c_81_1)]
set_option maxRecDepth 100000 in
theorem ev_d_81 : ∀ q ∈ ev_c_81, ∀ z ∈ q.2, decode prog_6_method_7_code z.1 = .ok (z.2.1, z.2.2) := List.forall_mem_cons.mpr ⟨ev_d_81_0, List.forall_mem_cons.mpr ⟨ev_d_81_1, fun _ h => absurd h List.not_mem_nil⟩⟩
def ev_c_82_0 : List (Nat × Instr × Nat) := [(0, .aload_n 0, 1), (1, .invokespecial 3, 3), (4, .aload_n 0, 1), (5, .bipush 12, 2), (7, .anewarray 9, 3), (10, .putfield 11, 3), (13, .iconst 0, 1), (14, .istore_n 1, 1), (15, .iload_n 1, 1), (16, .bipush 12, 2), (18, .if_icmp .ge 22, 3), (21, .aload_n 0, 1), (22, .getfield 11, 3), (25, .iload_n 1, 1), (26, .new 9, 3), (29, .dup, 1), (30, .invokespecial 17, 3)]
set_option maxRecDepth 100000 in
theorem ev_d_82_0 : ∀ q ∈ ev_c_82_0, decode prog_7_method_1_code q.1 = .ok (q.2.1, q.2.2) := by decide +kernel
def ev_c_82_1 : List (Nat × Instr × Nat) := [(33, .aastore, 1), (34, .iinc 1 1, 3), (37, .goto (-22), 3), (40, .aload_n 0, 1), (41, .iconst 3, 1), (42, .newarray .int, 2), (44, .putfield 18, 3), (47, .aload_n 0, 1), (48, .bipush 18, 2), (50, .newarray .int, 2), (52, .putfield 22, 3), (55, .aload_n 0, 1), (56, .bipush 8, 2), (58, .newarray .int, 2), (60, .putfield 25, 3), (63, .aload_n 0, 1)]
set_option maxRecDepth 100000 in
theorem ev_d_82_1 : ∀ q ∈ ev_c_82_1, decode prog_7_method_1_code q.1 = .ok (q.2.1, q.2.2) := by decide +kernel
def ev_c_82_2 : List (Nat × Instr × Nat) := [(64, .iconst 4, 1), (65, .newarray .int, 2), (67, .putfield 28, 3), (70, .return_, 1)]
set_option maxRecDepth 100000 in
theorem ev_d_82_2 : ∀ q ∈ ev_c_82_2, decode prog_7_method_1_code q.1 = .ok (q.2.1, q.2.2) := by decide +kernel
def ev_c_82 : List (Nat × List (Nat × Instr × Nat)) := [(0, ev_c_82_0), (1, ev_c_82_1), (2, ev_c_82_2)]
set_option maxRecDepth 100000 in
theorem ev_d_82 : ∀ q ∈ ev_c_82, ∀ z ∈ q.2, decode prog_7_method_1_code z.1 = .ok (z.2.1, z.2.2) := List.forall_mem_cons.mpr ⟨ev_d_82_0, List.forall_mem_cons.mpr ⟨ev_d_82_1, List.forall_mem_cons.mpr ⟨ev_d_82_2, fun _ h => absurd h List.not_mem_nil⟩⟩⟩
def ev_c_83_0 : List (Nat × Instr × Nat) := [(0, .aload_n 0, 1), (1, .iconst 0, 1), (2, .putfield 31, 3), (5, .aload_n 0, 1), (6, .iconst 0, 1), (7, .putfield 35, 3), (10, .aload_n 0, 1), (11, .iconst 0, 1), (12, .putfield 38, 3), (15, .aload_n 0, 1), (16, .iconst 0, 1), (17, .putfield 41, 3), (20, .aload_n 0, 1), (21, .iconst 0, 1), (22, .putfield 44, 3), (25, .aload_n 0, 1), (26, .iconst 0, 1), (27, .putfield 47, 3), (30, .aload_n 0, 1), (31, .iconst 0, 1)]
set_option maxRecDepth 100000 in
theorem ev_d_83_0 : ∀ q ∈ ev_c_83_0, decode prog_7_method_2_code q.1 = .ok (q.2.1, q.2.2) := by decide +kernel
def ev_c_83_1 : List (Nat × Instr × Nat) := [(32, .putfield 50, 3), (35, .aload_n 0, 1), (36, .getfield 18, 3), (39, .iconst 0, 1), (40, .invokestatic 53, 3), (43, .aload_n 0, 1), (44, .getfield 22, 3), (47, .iconst (-1), 1), (48, .invokestatic 53, 3), (51, .aload_n 0, 1), (52, .getfield 25, 3), (55, .iconst (-1), 1), (56, .invokestatic 53, 3), (59, .aload_n 0, 1), (60, .getfield 28, 3), (63, .iconst (-1), 1)]
set_option maxRecDepth 100000 in
theorem ev_d_83_1 : ∀ q ∈ ev_c_83_1, decode prog_7_method_2_code q.1 = .ok (q.2.1, q.2.2) := by decide +kernel
def ev_c_83_2 : List (Nat × Instr × Nat) := [(64, .invokestatic 53, 3), (67, .return_, 1)]
set_option maxRecDepth 100000 in
theorem ev_d_83_2 : ∀ q ∈ ev_c_83_2, decode prog_7_method_2_code q.1 = .ok (q.2.1, q.2.2) := by decide +kernel
def ev_c_83 : List (Nat × List (Nat × Instr × Nat)) := [(0, ev_c_83_0), (1, ev_c_83_1), (2, ev_c_83_2)]
set_option maxRecDepth 100000 in
theorem ev_d_83 : ∀ q ∈ ev_c_83, ∀ z ∈ q.2, decode prog_7_method_2_code z.1 = .ok (z.2.1, z.2.2) := List.forall_mem_cons.mpr ⟨ev_d_83_0, List.forall_mem_cons.mpr ⟨ev_d_83_1, List.forall_mem_cons.mpr ⟨ev_d_83_2, fun _ h => absurd h List.not_mem_nil⟩⟩⟩
def ev_c_84_0 : List (Nat × Instr × Nat) := [(0, .aload_n 0, 1), (1, .aload_n 1, 1), (2, .getfield 31, 3), (5, .putfield 31, 3), (8, .aload_n 0, 1), (9, .aload_n 1, 1), (10, .getfield 35, 3), (13, .putfield 35, 3), (16, .aload_n 0, 1), (17, .aload_n 1, 1), (18, .getfield 38, 3), (21, .putfield 38, 3), (24, .aload_n 0, 1), (25, .aload_n 1, 1), (26, .getfield 41, 3), (29, .putfield 41, 3)]
set_option maxRecDepth 100000 in
theorem ev_d_84_0 : ∀ q ∈ ev_c_84_0, decode prog_7_method_3_code q.1 = .ok (q.2.1, q.2.2) := by decide +kernel
def ev_c_84_1 : List (Nat × Instr × Nat) := [(32, .aload_n 0, 1), (33, .aload_n 1, 1), (34, .getfield 44, 3), (37, .putfield 44, 3), (40, .aload_n 0, 1), (41, .aload_n 1, 1), (42, .getfield 47, 3), (45, .putfield 47, 3), (48, .aload_n 0, 1), (49, .aload_n 1, 1), (50, .getfield 50, 3), (53, .putfield 50, 3), (56, .iconst 0, 1), (57, .istore_n 2, 1), (58, .iload_n 2, 1), (59, .bipush 12, 2), (61, .if_icmp .ge 24, 3)]
set_option maxRecDepth 100000 in
theorem ev_d_84_1 : ∀ q ∈ ev_c_84_1, decode prog_7_method_3_code q.1 = .ok (q.2.1, q.2.2) := by decide +kernel
def ev_c_84_2 : List (Nat × Instr × Nat) := [(64, .aload_n 0, 1), (65, .getfield 11, 3), (68, .iload_n 2, 1), (69, .aaload, 1), (70, .aload_n 1, 1), (71, .getfield 11, 3), (74, .iload_n 2, 1), (75, .aaload, 1), (76, .invokevirtual 59, 3), (79, .iinc 2 1, 3), (82, .goto (-24), 3), (85, .aload_n 1, 1), (86, .getfield 18, 3), (89, .iconst 0, 1), (90, .aload_n 0, 1), (91, .getfield 18, 3), (94, .iconst 0, 1), (95, .iconst 3, 1)]
set_option maxRecDepth 100000 in
theorem ev_d_84_2 : ∀ q ∈ ev_c_84_2, decode prog_7_method_3_code q.1 = .ok (q.2.1, q.2.2) := by decide +kernel
def ev_c_84_3 : List (Nat × Instr × Nat) := [(96, .invokestatic 63, 3), (99, .aload_n 1, 1), (100, .getfield 22, 3), (103, .iconst 0, 1), (104, .aload_n 0, 1), (105, .getfield 22, 3), (108, .iconst 0, 1), (109, .bipush 18, 2), (111, .invokestatic 63, 3), (114, .aload_n 1, 1), (115, .getfield 25, 3), (118, .iconst 0, 1), (119, .aload_n 0, 1), (120, .getfield 25, 3), (123, .iconst 0, 1), (124, .bipush 8, 2), (126, .invokestatic 63, 3)]
set_option maxRecDepth 100000 in
theorem ev_d_84_3 : ∀ q ∈ ev_c_84_3, decode prog_7_method_3_code q.1 = .ok (q.2.1, q.2.2) := by decide +kernel
def ev_c_84_4 : List (Nat × Instr × Nat) := [(129, .aload_n 1, 1), (130, .getfield 28, 3), (133, .iconst 0, 1), (134, .aload_n 0, 1), (135, .getfield 28, 3), (138, .iconst 0, 1), (139, .iconst 4, 1), (140, .invokestatic 63, 3), (143, .return_, 1)]
set_option maxRecDepth 100000 in
theorem ev_d_84_4 : ∀ q ∈ ev_c_84_4, decode prog_7_method_3_code q.1 = .ok (q.2.1, q.2.2) := by decide +kernel
def ev_c_84 : List (Nat × List (Nat × Instr × Nat)) := [(0, ev_c_84_0), (1, ev_c_84_1), (2, ev_c_84_2), (3, ev_c_84_3), (4, ev_c_84_4)]
set_option maxRecDepth 100000 in
theorem ev_d_84 : ∀ q ∈ ev_c_84, ∀ z ∈ q.2, decode prog_7_method_3_code z.1 = .ok (z.2.1, z.2.2) := List.forall_mem_cons.mpr ⟨ev_d_84_0, List.forall_mem_cons.mpr ⟨ev_d_84_1, List.forall_mem_cons.mpr ⟨ev_d_84_2, List.forall_mem_cons.mpr ⟨ev_d_84_3, List.forall_mem_cons.mpr ⟨ev_d_84_4, fun _ h => absurd h List.not_mem_nil⟩⟩⟩⟩⟩
def ev_c_85_0 : List (Nat × Instr × Nat) := [(0, .aload_n 0, 1), (1, .getfield 50, 3), (4, .istore 5, 2), (6, .aload_n 0, 1), (7, .getfield 11, 3), (10, .iload 5, 2), (12, .aaload, 1), (13, .iload_n 1, 1), (14, .iload_n 2, 1), (15, .iload_n 3, 1), (16, .iload 4, 2), (18, .invokevirtual 69, 3), (21, .aload_n 0, 1), (22, .dup, 1), (23, .getfield 50, 3), (26, .iconst 1, 1), (27, .iadd, 1), (28, .putfield 50, 3), (31, .iload 5, 2)]
set_option maxRecDepth 100000 in
theorem ev_d_85_0 : ∀ q ∈ ev_c_85_0, decode prog_7_method_4_code q.1 = .ok (q.2.1, q.2.2) := by decide +kernel
def ev_c_85_1 : List (Nat × Instr × Nat) := [(33, .ireturn, 1)]
set_option maxRecDepth 100000 in
theorem ev_d_85_1 : ∀ q ∈ ev_c_85_1, decode prog_7_method_4_code q.1 = .ok (q.2.1, q.2.2) := by decide +kernel
def ev_c_85 : List (Nat × List (Nat × Instr × Nat)) := [(0, ev_c_85_0), (1, ev_c_85_1)]
set_option maxRecDepth 100000 in
theorem ev_d_85 : ∀ q ∈ ev_c_85, ∀ z ∈ q.2, decode prog_7_method_4_code z.1 = .ok (z.2.1, z.2.2) := List.forall_mem_cons.mpr ⟨ev_d_85_0, List.forall_mem_cons.mpr ⟨ev_d_85_1, fun _ h => absurd h List.not_mem_nil⟩⟩
def ev_c_86_0 : List (Nat × Instr × Nat) := [(0, .aload_n 0, 1), (1, .getfield 22, 3), (4, .iload_n 1, 1), (5, .bipush 6, 2), (7, .imul, 1), (8, .iload_n 2, 1), (9, .iadd, 1), (10, .iaload, 1), (11, .ireturn, 1)]
set_option maxRecDepth 100000 in
theorem ev_d_86_0 : ∀ q ∈ ev_c_86_0, decode prog_7_method_5_code q.1 = .ok (q.2.1, q.2.2) := by decide +kernel
def ev_c_86 : List (Nat × List (Nat × Instr × Nat)) := [(0, ev_c_86_0)]
set_option maxRecDepth 100000 in
theorem ev_d_86 : ∀ q ∈ ev_c_86, ∀ z ∈ q.2, decode prog_7_method_5_code z.1 = .ok (z.2.1, z.2.2) := List.forall_mem_cons.mpr ⟨ev_d_86_0, fun _ h => absurd h List.not_mem_nil⟩
def ev_c_87_0 : List (Nat × Instr × Nat) := [(0, .aload_n 0, 1), (1, .getfield 11, 3), (4, .aload_n 0, 1), (5, .getfield 22, 3), (8, .iload_n 1, 1), (9, .bipush 6, 2), (11, .imul, 1), (12, .iload_n 2, 1), (13, .iadd, 1), (14, .iaload, 1), (15, .aaload, 1), (16, .areturn, 1)]
set_option maxRecDepth 100000 in
theorem ev_d_87_0 : ∀ q ∈ ev_c_87_0, decode prog_7_method_6_code q.1 = .ok (q.2.1, q.2.2) := by decide +kernel
def ev_c_87 : List (Nat × List (Nat × Instr × Nat)) := [(0, ev_c_87_0)]
set_option maxRecDepth 100000 in
theorem ev_d_87 : ∀ q ∈ ev_c_87, ∀ z ∈ q.2, decode prog_7_method_6_code z.1 = .ok (z.2.1, z.2.2) := List.forall_mem_cons.mpr ⟨ev_d_87_0, fun _ h => absurd h List.not_mem_nil⟩
def ev_c_88_0 : List (Nat × Instr × Nat) := [(0, .aload_n 0, 1), (1, .getfield 28, 3), (4, .iload_n 1, 1), (5, .iaload, 1), (6, .iconst (-1), 1), (7, .if_icmp .eq 7, 3), (10, .iconst 1, 1), (11, .goto 4, 3), (14, .iconst 0, 1), (15, .ireturn, 1)]
set_option maxRecDepth 100000 in
theorem ev_d_88_0 : ∀ q ∈ ev_c_88_0, decode prog_7_method_7_code q.1 = .ok (q.2.1, q.2.2) := by decide +kernel
def ev_c_88 : List (Nat × List (Nat × Instr × Nat)) := [(0, ev_c_88_0)]
set_option maxRecDepth 100000 in
theorem ev_d_88 : ∀ q ∈ ev_c_88, ∀ z ∈ q.2, decode prog_7_method_7_code z.1 = .ok (z.2.1, z.2.2) := List.forall_mem_cons.mpr ⟨ev_d_88_0, fun _ h => absurd h List.not_mem_nil⟩
def ev_c_89_0 : List (Nat × Instr × Nat) := [(0, .iconst 0, 1), (1, .istore_n 2, 1), (2, .iconst 0, 1), (3, .istore_n 3, 1), (4, .iload_n 3, 1), (5, .aload_n 0, 1), (6, .getfield 50, 3), (9, .if_icmp .ge 25, 3), (12, .aload_n 0, 1), (13, .getfield 11, 3), (16, .iload_n 3, 1), (17, .aaload, 1), (18, .getfield 73, 3), (21, .iload_n 1, 1), (22, .if_icmp .ne 6, 3), (25, .iinc 2 1, 3), (28, .iinc 3 1, 3), (31, .goto (-27), 3)]
set_option maxRecDepth 100000 in
theorem ev_d_89_0 : ∀ q ∈ ev_c_89_0, decode prog_7_method_8_code q.1 = .ok (q.2.1, q.2.2) := by decide +kernel
def ev_c_89_1 : List (Nat × Instr × Nat) := [(34, .iload_n 2, 1), (35, .ireturn, 1)]
set_option maxRecDepth 100000 in
theorem ev_d_89_1 : ∀ q ∈ ev_c_89_1, decode prog_7_method_8_code q.1 = .ok (q.2.1, q.2.2) := by decide +kernel
def ev_c_89 : List (Nat × List (Nat × Instr × Nat)) := [(0, ev_c_89_0), (1, ev_c_89_1)]
set_option maxRecDepth 100000 in
theorem ev_d_89 : ∀ q ∈ ev_c_89, ∀ z ∈ q.2, decode prog_7_method_8_code z.1 = .ok (z.2.1, z.2.2) := List.forall_mem_cons.mpr ⟨ev_d_89_0, List.forall_mem_cons.mpr ⟨ev_d_89_1, fun _ h => absurd h List.not_mem_nil⟩⟩
def ev_c_90_0 : List (Nat × Instr × Nat) := [(0, .iconst 0, 1), (1, .istore_n 1, 1), (2, .iconst 0, 1), (3, .istore_n 2, 1), (4, .iload_n 2, 1), (5, .aload_n 0, 1), (6, .getfield 50, 3), (9, .if_icmp .ge 24, 3), (12, .aload_n 0, 1), (13, .getfield 11, 3), (16, .iload_n 2, 1), (17, .aaload, 1), (18, .invokevirtual 76, 3), (21, .ifCond .eq 6, 3), (24, .iinc 1 1, 3), (27, .iinc 2 1, 3), (30, .goto (-26), 3)]
set_option maxRecDepth 100000 in
theorem ev_d_90_0 : ∀ q ∈ ev_c_90_0, decode prog_7_method_9_code q.1 = .ok (q.2.1, q.2.2) := by decide +kernel
def ev_c_90_1 : List (Nat × Instr × Nat) := [(33, .iload_n 1, 1), (34, .ireturn, 1)]
set_option maxRecDepth 100000 in
theorem ev_d_90_1 : ∀ q ∈ ev_c_90_1, decode prog_7_method_9_code q.1 = .ok (q.2.1, q.2.2) := by decide +kernel
def ev_c_90 : List (Nat × List (Nat × Instr × Nat)) := [(0, ev_c_90_0), (1, ev_c_90_1)]
set_option maxRecDepth 100000 in
theorem ev_d_90 : ∀ q ∈ ev_c_90, ∀ z ∈ q.2, decode prog_7_method_9_code z.1 = .ok (z.2.1, z.2.2) := List.forall_mem_cons.mpr ⟨ev_d_90_0, List.forall_mem_cons.mpr ⟨ev_d_90_1, fun _ h => absurd h List.not_mem_nil⟩⟩
def ev_c_91_0 : List (Nat × Instr × Nat) := [(0, .iconst 0, 1), (1, .istore_n 2, 1), (2, .iconst 0, 1), (3, .istore_n 3, 1), (4, .iload_n 3, 1), (5, .aload_n 0, 1), (6, .getfield 50, 3), (9, .if_icmp .ge 25, 3), (12, .aload_n 0, 1), (13, .getfield 11, 3), (16, .iload_n 3, 1), (17, .aaload, 1), (18, .getfield 80, 3), (21, .iload_n 1, 1), (22, .if_icmp .ne 6, 3), (25, .iinc 2 1, 3), (28, .iinc 3 1, 3), (31, .goto (-27), 3)]
set_option maxRecDepth 100000 in
theorem ev_d_91_0 : ∀ q ∈ ev_c_91_0, decode prog_7_method_10_code q.1 = .ok (q.2.1, q.2.2) := by decide +kernel
def ev_c_91_1 : List (Nat × Instr × Nat) := [(34, .iload_n 2, 1), (35, .ireturn, 1)]
set_option maxRecDepth 100000 in
theorem ev_d_91_1 : ∀ q ∈ ev_c_91_1, decode prog_7_method_10_code q.1 = .ok (q.2.1, q.2.2) := by decide +kernel
def ev_c_91 : List (Nat × List (Nat × Instr × Nat)) := [(0, ev_c_91_0), (1, ev_c_91_1)]
set_option maxRecDepth 100000 in
theorem ev_d_91 : ∀ q ∈ ev_c_91, ∀ z ∈ q.2, decode prog_7_method_10_code z.1 = .ok (z.2.1, z.2.2) := List.forall_mem_cons.mpr ⟨ev_d_91_0, List.forall_mem_cons.mpr ⟨ev_d_91_1, fun _ h => absurd h List.not_mem_nil⟩⟩
def ev_c_92_0 : List (Nat × Instr × Nat) := [(0, .iconst 0, 1), (1, .istore_n 2, 1), (2, .iconst 0, 1), (3, .istore_n 3, 1), (4, .iload_n 3, 1), (5, .aload_n 0, 1), (6, .getfield 50, 3), (9, .if_icmp .ge 37, 3), (12, .aload_n 0, 1), (13, .getfield 11, 3), (16, .iload_n 3, 1), (17, .aaload, 1), (18, .getfield 80, 3), (21, .iload_n 1, 1), (22, .if_icmp .ne 18, 3), (25, .aload_n 0, 1), (26, .getfield 11, 3), (29, .iload_n 3, 1), (30, .aaload, 1), (31, .invokevirtual 76, 3)]
set_option maxRecDepth 100000 in
theorem ev_d_92_0 : ∀ q ∈ ev_c_92_0, decode prog_7_method_11_code q.1 = .ok (q.2.1, q.2.2) := by decide +kernel
def ev_c_92_1 : List (Nat × Instr × Nat) := [(34, .ifCond .eq 6, 3), (37, .iinc 2 1, 3), (40, .iinc 3 1, 3), (43, .goto (-39), 3), (46, .iload_n 2, 1), (47, .ireturn, 1)]
set_option maxRecDepth 100000 in
theorem ev_d_92_1 : ∀ q ∈ ev_c_92_1, decode prog_7_method_11_code q.1 = .ok (q.2.1, q.2.2) := by decide +kernel
def ev_c_92 : List (Nat × List (Nat × Instr × Nat)) := [(0, ev_c_92_0), (1, ev_c_92_1)]
set_option maxRecDepth 100000 in
theorem ev_d_92 : ∀ q ∈ ev_c_92, ∀ z ∈ q.2, decode prog_7_method_11_code z.1 = .ok (z.2.1, z.2.2) := List.forall_mem_cons.mpr ⟨ev_d_92_0, List.forall_mem_cons.mpr ⟨ev_d_92_1, fun _ h => absurd h List.not_mem_nil⟩⟩
def ev_c_93_0 : List (Nat × Instr × Nat) := [(0, .iconst 0, 1), (1, .istore_n 2, 1), (2, .iload_n 2, 1), (3, .aload_n 0, 1), (4, .getfield 50, 3), (7, .if_icmp .ge 36, 3), (10, .aload_n 0, 1), (11, .getfield 11, 3), (14, .iload_n 2, 1), (15, .aaload, 1), (16, .getfield 80, 3), (19, .iload_n 1, 1), (20, .if_icmp .ne 17, 3), (23, .aload_n 0, 1), (24, .getfield 11, 3), (27, .iload_n 2, 1), (28, .aaload, 1), (29, .invokevirtual 76, 3)]
set_option maxRecDepth 100000 in
theorem ev_d_93_0 : ∀ q ∈ ev_c_93_0, decode prog_7_method_12_code q.1 = .ok (q.2.1, q.2.2) := by decide +kernel
def ev_c_93_1 : List (Nat × Instr × Nat) := [(32, .ifCond .ne 5, 3), (35, .iload_n 2, 1), (36, .ireturn, 1), (37, .iinc 2 1, 3), (40, .goto (-38), 3), (43, .iconst (-1), 1), (44, .ireturn, 1)]
set_option maxRecDepth 100000 in
theorem ev_d_93_1 : ∀ q ∈ ev_c_93_1, decode prog_7_method_12_code q.1 = .ok (q.2.1, q.2.2) := by decide +kernel
def ev_c_93 : List (Nat × List (Nat × Instr × Nat)) := [(0, ev_c_93_0), (1, ev_c_93_1)]
set_option maxRecDepth 100000 in
theorem ev_d_93 : ∀ q ∈ ev_c_93, ∀ z ∈ q.2, decode prog_7_method_12_code z.1 = .ok (z.2.1, z.2.2) := List.forall_mem_cons.mpr ⟨ev_d_93_0, List.forall_mem_cons.mpr ⟨ev_d_93_1, fun _ h => absurd h List.not_mem_nil⟩⟩
def ev_c_94_0 : List (Nat × Instr × Nat) := [(0, .aload_n 0, 1), (1, .getfield 22, 3), (4, .iload_n 2, 1), (5, .bipush 6, 2), (7, .imul, 1), (8, .aload_n 0, 1), (9, .getfield 18, 3), (12, .iload_n 2, 1), (13, .iaload, 1), (14, .iadd, 1), (15, .iload_n 1, 1), (16, .iastore, 1), (17, .aload_n 0, 1), (18, .getfield 18, 3), (21, .iload_n 2, 1), (22, .dup2, 1), (23, .iaload, 1), (24, .iconst 1, 1), (25, .iadd, 1), (26, .iastore, 1), (27, .aload_n 0, 1), (28, .getfield 11, 3), (31, .iload_n 1, 1)]
set_option maxRecDepth 100000 in
theorem ev_d_94_0 : ∀ q ∈ ev_c_94_0, decode prog_7_method_17_code q.1 = .ok (q.2.1, q.2.2) := by decide +kernel
def ev_c_94_1 : List (Nat × Instr × Nat) := [(32, .aaload, 1), (33, .iconst 1, 1), (34, .iload_n 2, 1), (35, .invokevirtual 95, 3), (38, .aload_n 0, 1), (39, .getfield 18, 3), (42, .iload_n 2, 1), (43, .iaload, 1), (44, .ireturn, 1)]
set_option maxRecDepth 100000 in
theorem ev_d_94_1 : ∀ q ∈ ev_c_94_1, decode prog_7_method_17_code q.1 = .ok (q.2.1, q.2.2) := by decide +kernel
def ev_c_94 : List (Nat × List (Nat × Instr × Nat)) := [(0, ev_c_94_0), (1, ev_c_94_1)]
set_option maxRecDepth 100000 in
theorem ev_d_94 : ∀ q ∈ ev_c_94, ∀ z ∈ q.2, decode prog_7_method_17_code z.1 = .ok (z.2.1, z.2.2) := List.forall_mem_cons.mpr ⟨ev_d_94_0, List.forall_mem_cons.mpr ⟨ev_d_94_1, fun _ h => absurd h List.not_mem_nil⟩⟩
def ev_c_95_0 : List (Nat × Instr × Nat) := [(0, .aload_n 0, 1), (1, .getfield 25, 3), (4, .iload_n 2, 1), (5, .iload_n 1, 1), (6, .iastore, 1), (7, .aload_n 0, 1), (8, .getfield 11, 3), (11, .iload_n 1, 1), (12, .aaload, 1), (13, .iconst 2, 1), (14, .iload_n 2, 1), (15, .invokevirtual 95, 3), (18, .return_, 1)]
set_option maxRecDepth 100000 in
theorem ev_d_95_0 : ∀ q ∈ ev_c_95_0, decode prog_7_method_18_code q.1 = .ok (q.2.1, q.2.2) := by decide +kernel
def ev_c_95 : List (Nat × List (Nat × Instr × Nat)) := [(0, ev_c_95_0)]
set_option maxRecDepth 100000 in
theorem ev_d_95 : ∀ q ∈ ev_c_95, ∀ z ∈ q.2, decode prog_7_method_18_code z.1 = .ok (z.2.1, z.2.2) := List.forall_mem_cons.mpr ⟨ev_d_95_0, fun _ h => absurd h List.not_mem_nil⟩
def ev_c_96_0 : List (Nat × Instr × Nat) := [(0, .aload_n 0, 1), (1, .getfield 18, 3), (4, .iload_n 1, 1), (5, .iaload, 1), (6, .istore_n 2, 1), (7, .iconst 0, 1), (8, .istore_n 3, 1), (9, .iload_n 3, 1), (10, .iload_n 2, 1), (11, .if_icmp .ge 20, 3), (14, .aload_n 0, 1), (15, .iload_n 1, 1), (16, .iload_n 3, 1), (17, .invokevirtual 105, 3), (20, .iconst 0, 1), (21, .iconst (-1), 1), (22, .invokevirtual 95, 3), (25, .iinc 3 1, 3), (28, .goto (-19), 3), (31, .aload_n 0, 1)]
set_option maxRecDepth 100000 in
theorem ev_d_96_0 : ∀ q ∈ ev_c_96_0, decode prog_7_method_21_code q.1 = .ok (q.2.1, q.2.2) := by decide +kernel
def ev_c_96_1 : List (Nat × Instr × Nat) := [(32, .getfield 18, 3), (35, .iload_n 1, 1), (36, .iconst 0, 1), (37, .iastore, 1), (38, .iload_n 2, 1), (39, .ireturn, 1)]
set_option maxRecDepth 100000 in
theorem ev_d_96_1 : ∀ q ∈ ev_c_96_1, decode prog_7_method_21_code q.1 = .ok (q.2.1, q.2.2) := by decide +kernel
def ev_c_96 : List (Nat × List (Nat × Instr × Nat)) := [(0, ev_c_96_0), (1, ev_c_96_1)]
set_option maxRecDepth 100000 in
theorem ev_d_96 : ∀ q ∈ ev_c_96, ∀ z ∈ q.2, decode prog_7_method_21_code z.1 = .ok (z.2.1, z.2.2) := List.forall_mem_cons.mpr ⟨ev_d_96_0, List.forall_mem_cons.mpr ⟨ev_d_96_1, fun _ h => absurd h List.not_mem_nil⟩⟩
def ev_c_97_0 : List (Nat × Instr × Nat) := [(0, .bipush 7, 2), (2, .istore_n 1, 1), (3, .iload_n 1, 1), (4, .ifCond .lt 21, 3), (7, .aload_n 0, 1), (8, .getfield 25, 3), (11, .iload_n 1, 1), (12, .iaload, 1), (13, .iconst (-1), 1), (14, .if_icmp .eq 5, 3), (17, .iload_n 1, 1), (18, .ireturn, 1), (19, .iinc 1 (-1), 3), (22, .goto (-19), 3), (25, .iconst (-1), 1), (26, .ireturn, 1)]
set_option maxRecDepth 100000 in
theorem ev_d_97_0 : ∀ q ∈ ev_c_97_0, decode prog_7_method_22_code q.1 = .ok (q.2.1, q.2.2) := by decide +kernel
def ev_c_97 : List (Nat × List (Nat × Instr × Nat)) := [(0, ev_c_97_0)]
set_option maxRecDepth 100000 in
theorem ev_d_97 : ∀ q ∈ ev_c_97, ∀ z ∈ q.2, decode prog_7_method_22_code z.1 = .ok (z.2.1, z.2.2) := List.forall_mem_cons.mpr ⟨ev_d_97_0, fun _ h => absurd h List.not_mem_nil⟩
def ev_c_98_0 : List (Nat × Instr × Nat) := [(0, .aload_n 0, 1), (1, .getfield 47, 3), (4, .istore_n 2, 1), (5, .iconst 0, 1), (6, .istore_n 3, 1), (7, .iload_n 3, 1), (8, .iload_n 1, 1), (9, .if_icmp .ge 44, 3), (12, .aload_n 0, 1), (13, .iconst 1, 1), (14, .aload_n 0, 1), (15, .getfield 35, 3), (18, .iconst 3, 1), (19, .idiv, 1), (20, .iadd, 1), (21, .invokevirtual 109, 3), (24, .aload_n 0, 1), (25, .getfield 35, 3), (28, .bipush 7, 2), (30, .if_icmp .lt 7, 3)]
set_option maxRecDepth 100000 in
theorem ev_d_98_0 : ∀ q ∈ ev_c_98_0, decode prog_7_method_23_code q.1 = .ok (q.2.1, q.2.2) := by decide +kernel
def ev_c_98_1 : List (Nat × Instr × Nat) := [(33, .aload_n 0, 1), (34, .invokevirtual 113, 3), (37, .aload_n 0, 1), (38, .dup, 1), (39, .getfield 31, 3), (42, .iconst 1, 1), (43, .iadd, 1), (44, .putfield 31, 3), (47, .iinc 3 1, 3), (50, .goto (-43), 3), (53, .aload_n 0, 1), (54, .getfield 47, 3), (57, .iload_n 2, 1), (58, .isub, 1), (59, .ireturn, 1)]
set_option maxRecDepth 100000 in
theorem ev_d_98_1 : ∀ q ∈ ev_c_98_1, decode prog_7_method_23_code q.1 = .ok (q.2.1, q.2.2) := by decide +kernel
def ev_c_98 : List (Nat × List (Nat × Instr × Nat)) := [(0, ev_c_98_0), (1, ev_c_98_1)]
set_option maxRecDepth 100000 in
theorem ev_d_98 : ∀ q ∈ ev_c_98, ∀ z ∈ q.2, decode prog_7_method_23_code z.1 = .ok (z.2.1, z.2.2) := List.forall_mem_cons.mpr ⟨ev_d_98_0, List.forall_mem_cons.mpr ⟨ev_d_98_1, fun _ h => absurd h List.not_mem_nil⟩⟩
def ev_c_99_0 : List (Nat × Instr × Nat) := [(0, .iconst 0, 1), (1, .istore_n 2, 1), (2, .iload_n 2, 1), (3, .aload_n 0, 1), (4, .getfield 50, 3), (7, .if_icmp .ge 46, 3), (10, .aload_n 0, 1), (11, .getfield 11, 3), (14, .iload_n 2, 1), (15, .aaload, 1), (16, .getfield 73, 3), (19, .iconst 2, 1), (20, .if_icmp .ne 27, 3), (23, .aload_n 0, 1), (24, .getfield 11, 3), (27, .iload_n 2, 1), (28, .aaload, 1), (29, .iconst 0, 1), (30, .aload_n 0, 1), (31, .getfield 11, 3)]
set_option maxRecDepth 100000 in
theorem ev_d_99_0 : ∀ q ∈ ev_c_99_0, decode prog_7_method_24_code q.1 = .ok (q.2.1, q.2.2) := by decide +kernel
def ev_c_99_1 : List (Nat × Instr × Nat) := [(34, .iload_n 2, 1), (35, .aaload, 1), (36, .getfield 92, 3), (39, .iload_n 1, 1), (40, .isub, 1), (41, .invokestatic 116, 3), (44, .putfield 92, 3), (47, .iinc 2 1, 3), (50, .goto (-48), 3), (53, .return_, 1)]
set_option maxRecDepth 100000 in
theorem ev_d_99_1 : ∀ q ∈ ev_c_99_1, decode prog_7_method_24_code q.1 = .ok (q.2.1, q.2.2) := by decide +kernel
def ev_c_99 : List (Nat × List (Nat × Instr × Nat)) := [(0, ev_c_99_0), (1, ev_c_99_1)]
set_option maxRecDepth 100000 in
theorem ev_d_99 : ∀ q ∈ ev_c_99, ∀ z ∈ q.2, decode prog_7_method_24_code z.1 = .ok (z.2.1, z.2.2) := List.forall_mem_cons.mpr ⟨ev_d_99_0, List.forall_mem_cons.mpr ⟨ev_d_99_1, fun _ h => absurd h List.not_mem_nil⟩⟩
def ev_c_100_0 : List (Nat × Instr × Nat) := [(0, .aload_n 0, 1), (1, .invokevirtual 122, 3), (4, .istore_n 1, 1), (5, .iload_n 1, 1), (6, .iconst (-1), 1), (7, .if_icmp .ne 4, 3), (10, .return_, 1), (11, .aload_n 0, 1), (12, .getfield 11, 3), (15, .aload_n 0, 1), (16, .getfield 25, 3), (19, .iload_n 1, 1), (20, .iaload, 1), (21, .aaload, 1), (22, .astore_n 2, 1), (23, .aload_n 0, 1), (24, .getfield 25, 3), (27, .iload_n 1, 1), (28, .iconst (-1), 1), (29, .iastore, 1), (30, .aload_n 2, 1), (31, .iconst 0, 1)]
set_option maxRecDepth 100000 in
theorem ev_d_100_0 : ∀ q ∈ ev_c_100_0, decode prog_7_method_25_code q.1 = .ok (q.2.1, q.2.2) := by decide +kernel
def ev_c_100_1 : List (Nat × Instr × Nat) := [(32, .iconst (-1), 1), (33, .invokevirtual 95, 3), (36, .aload_n 2, 1), (37, .invokevirtual 126, 3), (40, .aload_n 0, 1), (41, .dup, 1), (42, .getfield 47, 3), (45, .iconst 1, 1), (46, .iadd, 1), (47, .putfield 47, 3), (50, .return_, 1)]
set_option maxRecDepth 100000 in
theorem ev_d_100_1 : ∀ q ∈ ev_c_100_1, decode prog_7_method_25_code q.1 = .ok (q.2.1, q.2.2) := by decide +kernel
def ev_c_100 : List (Nat × List (Nat × Instr × Nat)) := [(0, ev_c_100_0), (1, ev_c_100_1)]
set_option maxRecDepth 100000 in
theorem ev_d_100 : ∀ q ∈ ev_c_100, ∀ z ∈ q.2, decode prog_7_method_25_code z.1 = .ok (z.2.1, z.2.2) := List.forall_mem_cons.mpr ⟨ev_d_100_0, List.forall_mem_cons.mpr ⟨ev_d_100_1, fun _ h => absurd h List.not_mem_nil⟩⟩
def ev_c_101_0 : List (Nat × Instr × Nat) := [(0, .aload_n 0, 1), (1, .getfield 11, 3), (4, .iload_n 1, 1), (5, .aaload, 1), (6, .getfield 73, 3), (9, .iconst 2, 1), (10, .if_icmp .eq 5, 3), (13, .iconst (-1), 1), (14, .ireturn, 1), (15, .iload_n 2, 1), (16, .bipush 7, 2), (18, .if_icmp .lt 19, 3), (21, .aload_n 0, 1), (22, .aload_n 0, 1), (23, .getfield 11, 3), (26, .iload_n 1, 1), (27, .aaload, 1), (28, .getfield 99, 3), (31, .invokevirtual 129, 3)]
set_option maxRecDepth 100000 in
theorem ev_d_101_0 : ∀ q ∈ ev_c_101_0, decode prog_7_method_26_code q.1 = .ok (q.2.1, q.2.2) := by decide +kernel
def ev_c_101_1 : List (Nat × Instr × Nat) := [(34, .goto 5, 3), (37, .bipush 99, 2), (39, .istore_n 3, 1), (40, .iconst 0, 1), (41, .istore 4, 2), (43, .aload_n 0, 1), (44, .getfield 11, 3), (47, .iload_n 1, 1), (48, .aaload, 1), (49, .getfield 92, 3), (52, .istore 5, 2), (54, .iload 5, 2), (56, .ifCond .le 25, 3), (59, .iload 4, 2), (61, .iload_n 3, 1), (62, .if_icmp .gt 19, 3)]
set_option maxRecDepth 100000 in
theorem ev_d_101_1 : ∀ q ∈ ev_c_101_1, decode prog_7_method_26_code q.1 = .ok (q.2.1, q.2.2) := by decide +kernel
def ev_c_101_2 : List (Nat × Instr × Nat) := [(65, .iinc 4 1, 3), (68, .iload 5, 2), (70, .iconst 1, 1), (71, .iload_n 2, 1), (72, .iconst 3, 1), (73, .idiv, 1), (74, .iadd, 1), (75, .isub, 1), (76, .istore 5, 2), (78, .goto (-24), 3), (81, .iload 4, 2), (83, .iload_n 3, 1), (84, .if_icmp .gt 8, 3), (87, .iload 4, 2), (89, .goto 4, 3), (92, .iconst (-1), 1), (93, .ireturn, 1)]
set_option maxRecDepth 100000 in
theorem ev_d_101_2 : ∀ q ∈ ev_c_101_2, decode prog_7_method_26_code q.1 = .ok (q.2.1, q.2.2) := by decide +kernel
def ev_c_101 : List (Nat × List (Nat × Instr × Nat)) := [(0, ev_c_101_0), (1, ev_c_101_1), (2, ev_c_101_2)]
set_option maxRecDepth 100000 in
theorem ev_d_101 : ∀ q ∈ ev_c_101, ∀ z ∈ q.2, decode prog_7_method_26_code z.1 = .ok (z.2.1, z.2.2) := List.forall_mem_cons.mpr ⟨ev_d_101_0, List.forall_mem_cons.mpr ⟨ev_d_101_1, List.forall_mem_cons.mpr ⟨ev_d_101_2, fun _ h => absurd h List.not_mem_nil⟩⟩⟩
def ev_c_102_0 : List (Nat × Instr × Nat) := [(0, .iconst 1, 1), (1, .istore_n 2, 1), (2, .iload_n 1, 1), (3, .iconst 1, 1), (4, .iadd, 1), (5, .istore_n 3, 1), (6, .iload_n 3, 1), (7, .bipush 8, 2), (9, .if_icmp .ge 22, 3), (12, .aload_n 0, 1), (13, .getfield 25, 3), (16, .iload_n 3, 1), (17, .iaload, 1), (18, .iconst (-1), 1), (19, .if_icmp .eq 6, 3), (22, .iinc 2 1, 3), (25, .iinc 3 1, 3), (28, .goto (-22), 3), (31, .iload_n 2, 1)]
set_option maxRecDepth 100000 in
theorem ev_d_102_0 : ∀ q ∈ ev_c_102_0, decode prog_7_method_27_code q.1 = .ok (q.2.1, q.2.2) := by decide +kernel
def ev_c_102_1 : List (Nat × Instr × Nat) := [(32, .ireturn, 1)]
set_option maxRecDepth 100000 in
theorem ev_d_102_1 : ∀ q ∈ ev_c_102_1, decode prog_7_method_27_code q.1 = .ok (q.2.1, q.2.2) := by decide +kernel
def ev_c_102 : List (Nat × List (Nat × Instr × Nat)) := [(0, ev_c_102_0), (1, ev_c_102_1)]
set_option maxRecDepth 100000 in
theorem ev_d_102 : ∀ q ∈ ev_c_102, ∀ z ∈ q.2, decode prog_7_method_27_code z.1 = .ok (z.2.1, z.2.2) := List.forall_mem_cons.mpr ⟨ev_d_102_0, List.forall_mem_cons.mpr ⟨ev_d_102_1, fun _ h => absurd h List.not_mem_nil⟩⟩
def ev_c_103_0 : List (Nat × Instr × Nat) := [(0, .aload_n 0, 1), (1, .invokespecial 3, 3), (4, .aload_n 0, 1), (5, .bipush 100, 2), (7, .newarray .int, 2), (9, .putfield 9, 3), (12, .return_, 1)]
set_option maxRecDepth 100000 in
theorem ev_d_103_0 : ∀ q ∈ ev_c_103_0, decode prog_8_method_1_code q.1 = .ok (q.2.1, q.2.2) := by decide +kernel
def ev_c_103 : List (Nat × List (Nat × Instr × Nat)) := [(0, ev_c_103_0)]
set_option maxRecDepth 100000 in
theorem ev_d_103 : ∀ q ∈ ev_c_103, ∀ z ∈ q.2, decode prog_8_method_1_code z.1 = .ok (z.2.1, z.2.2) := List.forall_mem_cons.mpr ⟨ev_d_103_0, fun _ h => absurd h List.not_mem_nil⟩
def ev_c_104_0 : List (Nat × Instr × Nat) := [(0, .aload_n 0, 1), (1, .invokespecial 1, 3), (4, .aload_n 0, 1), (5, .sipush 500, 3), (8, .newarray .byte, 2), (10, .putfield 9, 3), (13, .aload_n 0, 1), (14, .iconst 0, 1), (15, .putfield 13, 3), (18, .aload_n 0, 1), (19, .iconst 0, 1), (20, .putfield 17, 3), (23, .aload_n 0, 1), (24, .iconst (-1), 1), (25, .putfield 20, 3), (28, .aload_n 0, 1), (29, .iconst 0, 1), (30, .putfield 23, 3)]
set_option maxRecDepth 100000 in
theorem ev_d_104_0 : ∀ q ∈ ev_c_104_0, decode prog_1_method_1_code q.1 = .ok (q.2.1, q.2.2) := by decide +kernel
def ev_c_104_1 : List (Nat × Instr × Nat) := [(33, .aload_n 0, 1), (34, .new 27, 3), (37, .dup, 1), (38, .invokespecial 29, 3), (41, .putfield 30, 3), (44, .aload_n 0, 1), (45, .new 27, 3), (48, .dup, 1), (49, .invokespecial 29, 3), (52, .putfield 34, 3), (55, .aload_n 0, 1), (56, .new 37, 3), (59, .dup, 1), (60, .invokespecial 39, 3), (63, .putfield 40, 3)]
set_option maxRecDepth 100000 in
theorem ev_d_104_1 : ∀ q ∈ ev_c_104_1, decode prog_1_method_1_code q.1 = .ok (q.2.1, q.2.2) := by decide +kernel
def ev_c_104_2 : List (Nat × Instr × Nat) := [(66, .aload_n 0, 1), (67, .new 44, 3), (70, .dup, 1), (71, .invokespecial 46, 3), (74, .putfield 47, 3), (77, .aload_n 0, 1), (78, .new 51, 3), (81, .dup, 1), (82, .invokespecial 53, 3), (85, .putfield 54, 3), (88, .return_, 1)]
set_option maxRecDepth 100000 in
theorem ev_d_104_2 : ∀ q ∈ ev_c_104_2, decode prog_1_method_1_code q.1 = .ok (q.2.1, q.2.2) := by decide +kernel
def ev_c_104 : List (Nat × List (Nat × Instr × Nat)) := [(0, ev_c_104_0), (1, ev_c_104_1), (2, ev_c_104_2)]
set_option maxRecDepth 100000 in
theorem ev_d_104 : ∀ q ∈ ev_c_104, ∀ z ∈ q.2, decode prog_1_method_1_code z.1 = .ok (z.2.1, z.2.2) := List.forall_mem_cons.mpr ⟨ev_d_104_0, List.forall_mem_cons.mpr ⟨ev_d_104_1, List.forall_mem_cons.mpr ⟨ev_d_104_2, fun _ h => absurd h List.not_mem_nil⟩⟩⟩
def ev_c_105_0 : List (Nat × Instr × Nat) := [(0, .aload_n 0, 1), (1, .getfield 13, 3), (4, .bipush 20, 2), (6, .iadd, 1), (7, .sipush 500, 3), (10, .if_icmp .le 5, 3), (13, .iconst (-1), 1), (14, .ireturn, 1), (15, .aload_n 0, 1), (16, .iload_n 1, 1), (17, .invokevirtual 58, 3), (20, .aload_n 0, 1), (21, .iload_n 2, 1), (22, .invokevirtual 58, 3), (25, .aload_n 0, 1), (26, .iload_n 3, 1), (27, .invokevirtual 58, 3), (30, .aload_n 0, 1), (31, .iload 4, 2)]
set_option maxRecDepth 100000 in
theorem ev_d_105_0 : ∀ q ∈ ev_c_105_0, decode prog_1_method_2_code q.1 = .ok (q.2.1, q.2.2) := by decide +kernel
def ev_c_105_1 : List (Nat × Instr × Nat) := [(33, .invokevirtual 58, 3), (36, .aload_n 0, 1), (37, .iload 5, 2), (39, .invokevirtual 58, 3), (42, .aload_n 0, 1), (43, .getfield 13, 3), (46, .ireturn, 1)]
set_option maxRecDepth 100000 in
theorem ev_d_105_1 : ∀ q ∈ ev_c_105_1, decode prog_1_method_2_code q.1 = .ok (q.2.1, q.2.2) := by decide +kernel
def ev_c_105 : List (Nat × List (Nat × Instr × Nat)) := [(0, ev_c_105_0), (1, ev_c_105_1)]
set_option maxRecDepth 100000 in
theorem ev_d_105 : ∀ q ∈ ev_c_105, ∀ z ∈ q.2, decode prog_1_method_2_code z.1 = .ok (z.2.1, z.2.2) := List.forall_mem_cons.mpr ⟨ev_d_105_0, List.forall_mem_cons.mpr ⟨ev_d_105_1, fun _ h => absurd h List.not_mem_nil⟩⟩
def ev_c_106_0 : List (Nat × Instr × Nat) := [(0, .iload_n 1, 1), (1, .ifCond .lt 11, 3), (4, .iload_n 1, 1), (5, .aload_n 0, 1), (6, .getfield 13, 3), (9, .if_icmp .le 13, 3), (12, .new 62, 3), (15, .dup, 1), (16, .ldc 64, 2), (18, .invokespecial 66, 3), (21, .athrow, 1), (22, .aload_n 0, 1), (23, .iconst 0, 1), (24, .putfield 13, 3), (27, .aload_n 0, 1), (28, .getfield 40, 3), (31, .aload_n 0, 1)]
set_option maxRecDepth 100000 in
theorem ev_d_106_0 : ∀ q ∈ ev_c_106_0, decode prog_1_method_3_code q.1 = .ok (q.2.1, q.2.2) := by decide +kernel
def ev_c_106_1 : List (Nat × Instr × Nat) := [(32, .getfield 9, 3), (35, .iload_n 1, 1), (36, .aload_n 0, 1), (37, .getfield 34, 3), (40, .invokevirtual 69, 3), (43, .aload_n 0, 1), (44, .aload_n 0, 1), (45, .getfield 40, 3), (48, .getfield 73, 3), (51, .putfield 17, 3), (54, .aload_n 0, 1), (55, .aload_n 0, 1), (56, .getfield 40, 3), (59, .getfield 76, 3), (62, .putfield 20, 3)]
set_option maxRecDepth 100000 in
theorem ev_d_106_1 : ∀ q ∈ ev_c_106_1, decode prog_1_method_3_code q.1 = .ok (q.2.1, q.2.2) := by decide +kernel
def ev_c_106_2 : List (Nat × Instr × Nat) := [(65, .aload_n 0, 1), (66, .getfield 17, 3), (69, .ifCond .eq 13, 3), (72, .new 77, 3), (75, .dup, 1), (76, .ldc 79, 2), (78, .invokespecial 81, 3), (81, .athrow, 1), (82, .aload_n 0, 1), (83, .getfield 30, 3), (86, .astore_n 2, 1), (87, .aload_n 0, 1), (88, .aload_n 0, 1), (89, .getfield 34, 3), (92, .putfield 30, 3), (95, .aload_n 0, 1)]
set_option maxRecDepth 100000 in
theorem ev_d_106_2 : ∀ q ∈ ev_c_106_2, decode prog_1_method_3_code q.1 = .ok (q.2.1, q.2.2) := by decide +kernel
def ev_c_106_3 : List (Nat × Instr × Nat) := [(96, .aload_n 2, 1), (97, .putfield 34, 3), (100, .aload_n 0, 1), (101, .iconst 1, 1), (102, .putfield 23, 3), (105, .aload_n 0, 1), (106, .getfield 47, 3), (109, .invokevirtual 82, 3), (112, .aload_n 0, 1), (113, .getfield 30, 3), (116, .getfield 85, 3), (119, .getfield 89, 3), (122, .ireturn, 1)]
set_option maxRecDepth 100000 in
theorem ev_d_106_3 : ∀ q ∈ ev_c_106_3, decode prog_1_method_3_code q.1 = .ok (q.2.1, q.2.2) := by decide +kernel
def ev_c_106 : List (Nat × List (Nat × Instr × Nat)) := [(0, ev_c_106_0), (1, ev_c_106_1), (2, ev_c_106_2), (3, ev_c_106_3)]
set_option maxRecDepth 100000 in
theorem ev_d_106 : ∀ q ∈ ev_c_106, ∀ z ∈ q.2, decode prog_1_method_3_code z.1 = .ok (z.2.1, z.2.2) := List.forall_mem_cons.mpr ⟨ev_d_106_0, List.forall_mem_cons.mpr ⟨ev_d_106_1, List.forall_mem_cons.mpr ⟨ev_d_106_2, List.forall_mem_cons.mpr ⟨ev_d_106_3, fun _ h => absurd h List.not_mem_nil⟩⟩⟩⟩
def ev_c_107_0 : List (Nat × Instr × Nat) := [(0, .aload_n 0, 1), (1, .invokevirtual 94, 3), (4, .iload_n 1, 1), (5, .iconst 0, 1), (6, .bipush 15, 2), (8, .invokestatic 97, 3), (11, .aload_n 0, 1), (12, .getfield 30, 3), (15, .getfield 101, 3), (18, .astore_n 2, 1), (19, .aload_n 0, 1), (20, .getfield 30, 3), (23, .getfield 85, 3), (26, .astore_n 3, 1), (27, .iload_n 1, 1), (28, .tableswitch 155 0 14 #[76, 81, 86, 91, 96, 101, 106, 111, 117, 123, 129, 135, 140, 145, 150], 76)]
set_option maxRecDepth 100000 in
theorem ev_d_107_0 : ∀ q ∈ ev_c_107_0, decode prog_1_method_7_code q.1 = .ok (q.2.1, q.2.2) := by decide +kernel
def ev_c_107_3 : List (Nat × Instr × Nat) := [(104, .aload_n 2, 1), (105, .getfield 105, 3), (108, .ireturn, 1), (109, .aload_n 2, 1), (110, .getfield 110, 3), (113, .ireturn, 1), (114, .aload_n 2, 1), (115, .getfield 113, 3), (118, .ireturn, 1), (119, .aload_n 2, 1), (120, .getfield 116, 3), (123, .ireturn, 1), (124, .aload_n 3, 1), (125, .getfield 89, 3)]
set_option maxRecDepth 100000 in
theorem ev_d_107_3 : ∀ q ∈ ev_c_107_3, decode prog_1_method_7_code q.1 = .ok (q.2.1, q.2.2) := by decide +kernel
def ev_c_107_4 : List (Nat × Instr × Nat) := [(128, .ireturn, 1), (129, .aload_n 3, 1), (130, .getfield 119, 3), (133, .ireturn, 1), (134, .aload_n 3, 1), (135, .getfield 122, 3), (138, .ireturn, 1), (139, .aload_n 3, 1), (140, .iconst 0, 1), (141, .invokevirtual 125, 3), (144, .ireturn, 1), (145, .aload_n 3, 1), (146, .iconst 1, 1), (147, .invokevirtual 125, 3), (150, .ireturn, 1), (151, .aload_n 3, 1), (152, .iconst 2, 1), (153, .invokevirtual 125, 3), (156, .ireturn, 1), (157, .aload_n 3, 1), (158, .iconst 3, 1), (159, .invokevirtual 125, 3)]
set_option maxRecDepth 100000 in
theorem ev_d_107_4 : ∀ q ∈ ev_c_107_4, decode prog_1_method_7_code q.1 = .ok (q.2.1, q.2.2) := by decide +kernel
def ev_c_107_5 : List (Nat × Instr × Nat) := [(162, .ireturn, 1), (163, .aload_n 3, 1), (164, .getfield 129, 3), (167, .ireturn, 1), (168, .aload_n 3, 1), (169, .getfield 132, 3), (172, .ireturn, 1), (173, .aload_n 3, 1), (174, .getfield 135, 3), (177, .ireturn, 1), (178, .aload_n 3, 1), (179, .getfield 138, 3), (182, .ireturn, 1), (183, .aload_n 3, 1), (184, .invokevirtual 141, 3), (187, .ireturn, 1)]
set_option maxRecDepth 100000 in
theorem ev_d_107_5 : ∀ q ∈ ev_c_107_5, decode prog_1_method_7_code q.1 = .ok (q.2.1, q.2.2) := by decide +kernel
def ev_c_107 : List (Nat × List (Nat × Instr × Nat)) := [(0, ev_c_107_0), (3, ev_c_107_3), (4, ev_c_107_4), (5, ev_c_107_5)]
set_option maxRecDepth 100000 in
theorem ev_d_107 : ∀ q ∈ ev_c_107, ∀ z ∈ q.2, decode prog_1_method_7_code z.1 = .ok (z.2.1, z.2.2) := List.forall_mem_cons.mpr ⟨ev_d_107_0, List.forall_mem_cons.mpr ⟨ev_d_107_3, List.forall_mem_cons.mpr ⟨ev_d_107_4, List.forall_mem_cons.mpr ⟨ev_d_107_5, fun _ h => absurd h List.not_mem_nil⟩⟩⟩⟩
def ev_c_108_0 : List (Nat × Instr × Nat) := [(0, .aload_n 0, 1), (1, .iload_n 1, 1), (2, .invokevirtual 157, 3), (5, .iload_n 2, 1), (6, .iconst 0, 1), (7, .bipush 6, 2), (9, .invokestatic 97, 3), (12, .iload_n 2, 1), (13, .tableswitch 122 0 5 #[39, 52, 65, 78, 90, 102], 39)]
set_option maxRecDepth 100000 in
theorem ev_d_108_0 : ∀ q ∈ ev_c_108_0, decode prog_1_method_9_code q.1 = .ok (q.2.1, q.2.2) := by decide +kernel
def ev_c_108_1 : List (Nat × Instr × Nat) := [(52, .aload_n 0, 1), (53, .getfield 30, 3), (56, .getfield 101, 3), (59, .getfield 160, 3), (62, .iload_n 1, 1), (63, .iaload, 1)]
set_option maxRecDepth 100000 in
theorem ev_d_108_1 : ∀ q ∈ ev_c_108_1, decode prog_1_method_9_code q.1 = .ok (q.2.1, q.2.2) := by decide +kernel
def ev_c_108_2 : List (Nat × Instr × Nat) := [(64, .ireturn, 1), (65, .aload_n 0, 1), (66, .getfield 30, 3), (69, .getfield 101, 3), (72, .getfield 163, 3), (75, .iload_n 1, 1), (76, .iaload, 1), (77, .ireturn, 1), (78, .aload_n 0, 1), (79, .getfield 30, 3), (82, .getfield 101, 3), (85, .getfield 166, 3), (88, .iload_n 1, 1), (89, .iaload, 1), (90, .ireturn, 1), (91, .aload_n 0, 1), (92, .getfield 30, 3), (95, .getfield 85, 3)]
set_option maxRecDepth 100000 in
theorem ev_d_108_2 : ∀ q ∈ ev_c_108_2, decode prog_1_method_9_code q.1 = .ok (q.2.1, q.2.2) := by decide +kernel
def ev_c_108_3 : List (Nat × Instr × Nat) := [(98, .iload_n 1, 1), (99, .invokevirtual 169, 3), (102, .ireturn, 1), (103, .aload_n 0, 1), (104, .getfield 30, 3), (107, .getfield 85, 3), (110, .iload_n 1, 1), (111, .invokevirtual 172, 3), (114, .ireturn, 1), (115, .aload_n 0, 1), (116, .getfield 30, 3), (119, .getfield 85, 3), (122, .iload_n 1, 1), (123, .invokevirtual 175, 3), (126, .ifCond .eq 7, 3)]
set_option maxRecDepth 100000 in
theorem ev_d_108_3 : ∀ q ∈ ev_c_108_3, decode prog_1_method_9_code q.1 = .ok (q.2.1, q.2.2) := by decide +kernel
def ev_c_108_4 : List (Nat × Instr × Nat) := [(129, .iconst 1, 1), (130, .goto 4, 3), (133, .iconst 0, 1), (134, .ireturn, 1), (135, .aload_n 0, 1), (136, .getfield 30, 3), (139, .iload_n 1, 1), (140, .invokevirtual 179, 3), (143, .ireturn, 1)]
set_option maxRecDepth 100000 in
theorem ev_d_108_4 : ∀ q ∈ ev_c_108_4, decode prog_1_method_9_code q.1 = .ok (q.2.1, q.2.2) := by decide +kernel
def ev_c_108 : List (Nat × List (Nat × Instr × Nat)) := [(0, ev_c_108_0), (1, ev_c_108_1), (2, ev_c_108_2), (3, ev_c_108_3), (4, ev_c_108_4)]
set_option maxRecDepth 100000 in
theorem ev_d_108 : ∀ q ∈ ev_c_108, ∀ z ∈ q.2, decode prog_1_method_9_code z.1 = .ok (z.2.1, z.2.2) := List.forall_mem_cons.mpr ⟨ev_d_108_0, List.forall_mem_cons.mpr ⟨ev_d_108_1, List.forall_mem_cons.mpr ⟨ev_d_108_2, List.forall_mem_cons.mpr ⟨ev_d_108_3, List.forall_mem_cons.mpr ⟨ev_d_108_4, fun _ h => absurd h List.not_mem_nil⟩⟩⟩⟩⟩
def ev_c_109_0 : List (Nat × Instr × Nat) := [(0, .aload_n 0, 1), (1, .iload_n 1, 1), (2, .invokevirtual 182, 3), (5, .iload_n 2, 1), (6, .iconst 0, 1), (7, .bipush 9, 2), (9, .invokestatic 97, 3), (12, .aload_n 0, 1), (13, .getfield 30, 3), (16, .getfield 85, 3), (19, .getfield 185, 3), (22, .iload_n 1, 1), (23, .aaload, 1), (24, .astore_n 3, 1), (25, .iload_n 2, 1), (26, .tableswitch 95 0 8 #[50, 55, 60, 65, 70, 75, 80, 85, 90], 50)]
set_option maxRecDepth 100000 in
theorem ev_d_109_0 : ∀ q ∈ ev_c_109_0, decode prog_1_method_10_code q.1 = .ok (q.2.1, q.2.2) := by decide +kernel
def ev_c_109_2 : List (Nat × Instr × Nat) := [(76, .aload_n 3, 1), (77, .getfield 189, 3), (80, .ireturn, 1), (81, .aload_n 3, 1), (82, .getfield 194, 3), (85, .ireturn, 1), (86, .aload_n 3, 1), (87, .getfield 195, 3), (90, .ireturn, 1), (91, .aload_n 3, 1), (92, .getfield 198, 3), (95, .ireturn, 1)]
set_option maxRecDepth 100000 in
theorem ev_d_109_2 : ∀ q ∈ ev_c_109_2, decode prog_1_method_10_code q.1 = .ok (q.2.1, q.2.2) := by decide +kernel
def ev_c_109_3 : List (Nat × Instr × Nat) := [(96, .aload_n 3, 1), (97, .getfield 201, 3), (100, .ireturn, 1), (101, .aload_n 3, 1), (102, .getfield 204, 3), (105, .ireturn, 1), (106, .aload_n 3, 1), (107, .getfield 207, 3), (110, .ireturn, 1), (111, .aload_n 3, 1), (112, .getfield 210, 3), (115, .ireturn, 1), (116, .aload_n 3, 1), (117, .getfield 213, 3), (120, .ireturn, 1), (121, .aload_n 3, 1), (122, .getfield 216, 3), (125, .ireturn, 1)]
set_option maxRecDepth 100000 in
theorem ev_d_109_3 : ∀ q ∈ ev_c_109_3, decode prog_1_method_10_code q.1 = .ok (q.2.1, q.2.2) := by decide +kernel
def ev_c_109 : List (Nat × List (Nat × Instr × Nat)) := [(0, ev_c_109_0), (2, ev_c_109_2), (3, ev_c_109_3)]
set_option maxRecDepth 100000 in
theorem ev_d_109 : ∀ q ∈ ev_c_109, ∀ z ∈ q.2, decode prog_1_method_10_code z.1 = .ok (z.2.1, z.2.2) := List.forall_mem_cons.mpr ⟨ev_d_109_0, List.forall_mem_cons.mpr ⟨ev_d_109_2, List.forall_mem_cons.mpr ⟨ev_d_109_3, fun _ h => absurd h List.not_mem_nil⟩⟩⟩
def ev_c_110_0 : List (Nat × Instr × Nat) := [(0, .aload_n 0, 1), (1, .iload_n 1, 1), (2, .invokevirtual 219, 3), (5, .iload_n 2, 1), (6, .iconst 0, 1), (7, .iconst 4, 1), (8, .invokestatic 97, 3), (11, .iload_n 2, 1), (12, .tableswitch 76 0 3 #[32, 45, 58, 67], 32)]
set_option maxRecDepth 100000 in
theorem ev_d_110_0 : ∀ q ∈ ev_c_110_0, decode prog_1_method_11_code q.1 = .ok (q.2.1, q.2.2) := by decide +kernel
def ev_c_110_1 : List (Nat × Instr × Nat) := [(44, .aload_n 0, 1), (45, .getfield 30, 3), (48, .getfield 101, 3), (51, .getfield 222, 3), (54, .iload_n 1, 1), (55, .iaload, 1), (56, .ireturn, 1), (57, .aload_n 0, 1), (58, .getfield 30, 3), (61, .getfield 85, 3)]
set_option maxRecDepth 100000 in
theorem ev_d_110_1 : ∀ q ∈ ev_c_110_1, decode prog_1_method_11_code q.1 = .ok (q.2.1, q.2.2) := by decide +kernel
def ev_c_110_2 : List (Nat × Instr × Nat) := [(64, .getfield 225, 3), (67, .iload_n 1, 1), (68, .iaload, 1), (69, .ireturn, 1), (70, .aload_n 0, 1), (71, .getfield 30, 3), (74, .iload_n 1, 1), (75, .invokevirtual 228, 3), (78, .ireturn, 1), (79, .aload_n 0, 1), (80, .getfield 30, 3), (83, .iload_n 1, 1), (84, .invokevirtual 231, 3), (87, .ireturn, 1), (88, .aload_n 0, 1), (89, .getfield 30, 3), (92, .iload_n 1, 1), (93, .invokevirtual 234, 3)]
set_option maxRecDepth 100000 in
theorem ev_d_110_2 : ∀ q ∈ ev_c_110_2, decode prog_1_method_11_code q.1 = .ok (q.2.1, q.2.2) := by decide +kernel
def ev_c_110_3 : List (Nat × Instr × Nat) := [(96, .ireturn, 1)]
set_option maxRecDepth 100000 in
theorem ev_d_110_3 : ∀ q ∈ ev_c_110_3, decode prog_1_method_11_code q.1 = .ok (q.2.1, q.2.2) := by decide +kernel
def ev_c_110 : List (Nat × List (Nat × Instr × Nat)) := [(0, ev_c_110_0), (1, ev_c_110_1), (2, ev_c_110_2), (3, ev_c_110_3)]
set_option maxRecDepth 100000 in
theorem ev_d_110 : ∀ q ∈ ev_c_110, ∀ z ∈ q.2, decode prog_1_method_11_code z.1 = .ok (z.2.1, z.2.2) := List.forall_mem_cons.mpr ⟨ev_d_110_0, List.forall_mem_cons.mpr ⟨ev_d_110_1, List.forall_mem_cons.mpr ⟨ev_d_110_2, List.forall_mem_cons.mpr ⟨ev_d_110_3, fun _ h => absurd h List.not_mem_nil⟩⟩⟩⟩
def ev_c_111_0 : List (Nat × Instr × Nat) := [(0, .aload_n 0, 1), (1, .iload_n 1, 1), (2, .invokevirtual 219, 3), (5, .iload_n 2, 1), (6, .ifCond .lt 34, 3), (9, .iload_n 2, 1), (10, .aload_n 0, 1), (11, .getfield 30, 3), (14, .getfield 85, 3), (17, .getfield 225, 3), (20, .iload_n 1, 1), (21, .iaload, 1), (22, .if_icmp .ge 18, 3), (25, .aload_n 0, 1), (26, .getfield 30, 3), (29, .getfield 85, 3)]
set_option maxRecDepth 100000 in
theorem ev_d_111_0 : ∀ q ∈ ev_c_111_0, decode prog_1_method_12_code q.1 = .ok (q.2.1, q.2.2) := by decide +kernel
def ev_c_111_1 : List (Nat × Instr × Nat) := [(32, .iload_n 1, 1), (33, .iload_n 2, 1), (34, .invokevirtual 237, 3), (37, .goto 4, 3), (40, .iconst (-1), 1), (41, .ireturn, 1)]
set_option maxRecDepth 100000 in
theorem ev_d_111_1 : ∀ q ∈ ev_c_111_1, decode prog_1_method_12_code q.1 = .ok (q.2.1, q.2.2) := by decide +kernel
def ev_c_111 : List (Nat × List (Nat × Instr × Nat)) := [(0, ev_c_111_0), (1, ev_c_111_1)]
set_option maxRecDepth 100000 in
theorem ev_d_111 : ∀ q ∈ ev_c_111, ∀ z ∈ q.2, decode prog_1_method_12_code z.1 = .ok (z.2.1, z.2.2) := List.forall_mem_cons.mpr ⟨ev_d_111_0, List.forall_mem_cons.mpr ⟨ev_d_111_1, fun _ h => absurd h List.not_mem_nil⟩⟩
def ev_c_112_0 : List (Nat × Instr × Nat) := [(0, .aload_n 0, 1), (1, .invokevirtual 94, 3), (4, .aload_n 0, 1), (5, .getfield 30, 3), (8, .getfield 101, 3), (11, .getfield 116, 3), (14, .aload_n 0, 1), (15, .getfield 30, 3), (18, .getfield 85, 3), (21, .iconst 2, 1), (22, .invokevirtual 125, 3), (25, .isub, 1), (26, .ireturn, 1)]
set_option maxRecDepth 100000 in
theorem ev_d_112_0 : ∀ q ∈ ev_c_112_0, decode prog_1_method_14_code q.1 = .ok (q.2.1, q.2.2) := by decide +kernel
def ev_c_112 : List (Nat × List (Nat × Instr × Nat)) := [(0, ev_c_112_0)]
set_option maxRecDepth 100000 in
theorem ev_d_112 : ∀ q ∈ ev_c_112, ∀ z ∈ q.2, decode prog_1_method_14_code z.1 = .ok (z.2.1, z.2.2) := List.forall_mem_cons.mpr ⟨ev_d_112_0, fun _ h => absurd h List.not_mem_nil⟩
def ev_c_113_0 : List (Nat × Instr × Nat) := [(0, .aload_n 0, 1), (1, .invokevirtual 94, 3), (4, .aload_n 0, 1), (5, .getfield 30, 3), (8, .invokevirtual 248, 3), (11, .ireturn, 1)]
set_option maxRecDepth 100000 in
theorem ev_d_113_0 : ∀ q ∈ ev_c_113_0, decode prog_1_method_16_code q.1 = .ok (q.2.1, q.2.2) := by decide +kernel
def ev_c_113 : List (Nat × List (Nat × Instr × Nat)) := [(0, ev_c_113_0)]
set_option maxRecDepth 100000 in
theorem ev_d_113 : ∀ q ∈ ev_c_113, ∀ z ∈ q.2, decode prog_1_method_16_code z.1 = .ok (z.2.1, z.2.2) := List.forall_mem_cons.mpr ⟨ev_d_113_0, fun _ h => absurd h List.not_mem_nil⟩
def ev_c_114_0 : List (Nat × Instr × Nat) := [(0, .aload_n 0, 1), (1, .iload_n 1, 1), (2, .invokevirtual 182, 3), (5, .aload_n 0, 1), (6, .getfield 30, 3), (9, .getfield 85, 3), (12, .getfield 185, 3), (15, .iload_n 1, 1), (16, .aaload, 1), (17, .invokevirtual 251, 3), (20, .ireturn, 1)]
set_option maxRecDepth 100000 in
theorem ev_d_114_0 : ∀ q ∈ ev_c_114_0, decode prog_1_method_17_code q.1 = .ok (q.2.1, q.2.2) := by decide +kernel
def ev_c_114 : List (Nat × List (Nat × Instr × Nat)) := [(0, ev_c_114_0)]
set_option maxRecDepth 100000 in
theorem ev_d_114 : ∀ q ∈ ev_c_114, ∀ z ∈ q.2, decode prog_1_method_17_code z.1 = .ok (z.2.1, z.2.2) := List.forall_mem_cons.mpr ⟨ev_d_114_0, fun _ h => absurd h List.not_mem_nil⟩
def ev_c_115_0 : List (Nat × Instr × Nat) := [(0, .aload_n 0, 1), (1, .iload_n 1, 1), (2, .invokevirtual 157, 3), (5, .aload_n 0, 1), (6, .getfield 30, 3), (9, .getfield 85, 3), (12, .iload_n 1, 1), (13, .invokevirtual 257, 3), (16, .ireturn, 1)]
set_option maxRecDepth 100000 in
theorem ev_d_115_0 : ∀ q ∈ ev_c_115_0, decode prog_1_method_19_code q.1 = .ok (q.2.1, q.2.2) := by decide +kernel
def ev_c_115 : List (Nat × List (Nat × Instr × Nat)) := [(0, ev_c_115_0)]
set_option maxRecDepth 100000 in
theorem ev_d_115 : ∀ q ∈ ev_c_115, ∀ z ∈ q.2, decode prog_1_method_19_code z.1 = .ok (z.2.1, z.2.2) := List.forall_mem_cons.mpr ⟨ev_d_115_0, fun _ h => absurd h List.not_mem_nil⟩
def ev_c_116_0 : List (Nat × Instr × Nat) := [(0, .aload_n 0, 1), (1, .iload_n 1, 1), (2, .invokevirtual 182, 3), (5, .aload_n 0, 1), (6, .iload_n 2, 1), (7, .invokevirtual 219, 3), (10, .aload_n 0, 1), (11, .getfield 30, 3), (14, .iload_n 1, 1), (15, .iload_n 2, 1), (16, .invokevirtual 260, 3), (19, .ireturn, 1)]
set_option maxRecDepth 100000 in
theorem ev_d_116_0 : ∀ q ∈ ev_c_116_0, decode prog_1_method_20_code q.1 = .ok (q.2.1, q.2.2) := by decide +kernel
def ev_c_116 : List (Nat × List (Nat × Instr × Nat)) := [(0, ev_c_116_0)]
set_option maxRecDepth 100000 in
theorem ev_d_116 : ∀ q ∈ ev_c_116, ∀ z ∈ q.2, decode prog_1_method_20_code z.1 = .ok (z.2.1, z.2.2) := List.forall_mem_cons.mpr ⟨ev_d_116_0, fun _ h => absurd h List.not_mem_nil⟩
def ev_c_117_0 : List (Nat × Instr × Nat) := [(0, .aload_n 0, 1), (1, .iload_n 1, 1), (2, .invokevirtual 219, 3), (5, .iload_n 2, 1), (6, .invokestatic 263, 3), (9, .aload_n 0, 1), (10, .getfield 30, 3), (13, .iload_n 1, 1), (14, .iload_n 2, 1), (15, .invokevirtual 266, 3), (18, .ireturn, 1)]
set_option maxRecDepth 100000 in
theorem ev_d_117_0 : ∀ q ∈ ev_c_117_0, decode prog_1_method_21_code q.1 = .ok (q.2.1, q.2.2) := by decide +kernel
def ev_c_117 : List (Nat × List (Nat × Instr × Nat)) := [(0, ev_c_117_0)]
set_option maxRecDepth 100000 in
theorem ev_d_117 : ∀ q ∈ ev_c_117, ∀ z ∈ q.2, decode prog_1_method_21_code z.1 = .ok (z.2.1, z.2.2) := List.forall_mem_cons.mpr ⟨ev_d_117_0, fun _ h => absurd h List.not_mem_nil⟩
def ev_c_118_0 : List (Nat × Instr × Nat) := [(0, .aload_n 0, 1), (1, .iload_n 1, 1), (2, .invokevirtual 182, 3), (5, .iload_n 2, 1), (6, .invokestatic 263, 3), (9, .aload_n 0, 1), (10, .getfield 30, 3), (13, .getfield 85, 3), (16, .getfield 185, 3), (19, .iload_n 1, 1), (20, .aaload, 1), (21, .iload_n 2, 1), (22, .invokevirtual 269, 3), (25, .ireturn, 1)]
set_option maxRecDepth 100000 in
theorem ev_d_118_0 : ∀ q ∈ ev_c_118_0, decode prog_1_method_22_code q.1 = .ok (q.2.1, q.2.2) := by decide +kernel
def ev_c_118 : List (Nat × List (Nat × Instr × Nat)) := [(0, ev_c_118_0)]
set_option maxRecDepth 100000 in
theorem ev_d_118 : ∀ q ∈ ev_c_118, ∀ z ∈ q.2, decode prog_1_method_22_code z.1 = .ok (z.2.1, z.2.2) := List.forall_mem_cons.mpr ⟨ev_d_118_0, fun _ h => absurd h List.not_mem_nil⟩
def ev_c_119_0 : List (Nat × Instr × Nat) := [(0, .aload_n 0, 1), (1, .iload_n 1, 1), (2, .invokevirtual 182, 3), (5, .aload_n 0, 1), (6, .getfield 30, 3), (9, .getfield 85, 3), (12, .getfield 185, 3), (15, .iload_n 1, 1), (16, .aaload, 1), (17, .invokevirtual 272, 3), (20, .ireturn, 1)]
set_option maxRecDepth 100000 in
theorem ev_d_119_0 : ∀ q ∈ ev_c_119_0, decode prog_1_method_23_code q.1 = .ok (q.2.1, q.2.2) := by decide +kernel
def ev_c_119 : List (Nat × List (Nat × Instr × Nat)) := [(0, ev_c_119_0)]
set_option maxRecDepth 100000 in
theorem ev_d_119 : ∀ q ∈ ev_c_119, ∀ z ∈ q.2, decode prog_1_method_23_code z.1 = .ok (z.2.1, z.2.2) := List.forall_mem_cons.mpr ⟨ev_d_119_0, fun _ h => absurd h List.not_mem_nil⟩
def ev_c_120_0 : List (Nat × Instr × Nat) := [(0, .aload_n 0, 1), (1, .iload_n 1, 1), (2, .invokevirtual 219, 3), (5, .iload_n 2, 1), (6, .invokestatic 263, 3), (9, .aload_n 0, 1), (10, .getfield 30, 3), (13, .iload_n 1, 1), (14, .aload_n 0, 1), (15, .getfield 30, 3), (18, .iload_n 1, 1), (19, .iload_n 2, 1), (20, .invokevirtual 275, 3), (23, .invokevirtual 278, 3), (26, .ireturn, 1)]
set_option maxRecDepth 100000 in
theorem ev_d_120_0 : ∀ q ∈ ev_c_120_0, decode prog_1_method_25_code q.1 = .ok (q.2.1, q.2.2) := by decide +kernel
def ev_c_120 : List (Nat × List (Nat × Instr × Nat)) := [(0, ev_c_120_0)]
set_option maxRecDepth 100000 in
theorem ev_d_120 : ∀ q ∈ ev_c_120, ∀ z ∈ q.2, decode prog_1_method_25_code z.1 = .ok (z.2.1, z.2.2) := List.forall_mem_cons.mpr ⟨ev_d_120_0, fun _ h => absurd h List.not_mem_nil⟩
def ev_c_121_0 : List (Nat × Instr × Nat) := [(0, .aload_n 0, 1), (1, .iload_n 1, 1), (2, .invokevirtual 219, 3), (5, .aload_n 0, 1), (6, .getfield 30, 3), (9, .iload_n 1, 1), (10, .invokevirtual 284, 3), (13, .ireturn, 1)]
set_option maxRecDepth 100000 in
theorem ev_d_121_0 : ∀ q ∈ ev_c_121_0, decode prog_1_method_27_code q.1 = .ok (q.2.1, q.2.2) := by decide +kernel
def ev_c_121 : List (Nat × List (Nat × Instr × Nat)) := [(0, ev_c_121_0)]
set_option maxRecDepth 100000 in
theorem ev_d_121 : ∀ q ∈ ev_c_121, ∀ z ∈ q.2, decode prog_1_method_27_code z.1 = .ok (z.2.1, z.2.2) := List.forall_mem_cons.mpr ⟨ev_d_121_0, fun _ h => absurd h List.not_mem_nil⟩
def ev_c_122_0 : List (Nat × Instr × Nat) := [(0, .aload_n 0, 1), (1, .iload_n 1, 1), (2, .invokevirtual 219, 3), (5, .iload_n 2, 1), (6, .invokestatic 263, 3), (9, .aload_n 0, 1), (10, .getfield 30, 3), (13, .iload_n 1, 1), (14, .iload_n 2, 1), (15, .invokevirtual 287, 3), (18, .ireturn, 1)]
set_option maxRecDepth 100000 in
theorem ev_d_122_0 : ∀ q ∈ ev_c_122_0, decode prog_1_method_28_code q.1 = .ok (q.2.1, q.2.2) := by decide +kernel
def ev_c_122 : List (Nat × List (Nat × Instr × Nat)) := [(0, ev_c_122_0)]
set_option maxRecDepth 100000 in
theorem ev_d_122 : ∀ q ∈ ev_c_122, ∀ z ∈ q.2, decode prog_1_method_28_code z.1 = .ok (z.2.1, z.2.2) := List.forall_mem_cons.mpr ⟨ev_d_122_0, fun _ h => absurd h List.not_mem_nil⟩
def ev_c_123_0 : List (Nat × Instr × Nat) := [(0, .aload_n 0, 1), (1, .iload_n 1, 1), (2, .invokevirtual 182, 3), (5, .aload_n 0, 1), (6, .getfield 30, 3), (9, .getfield 85, 3), (12, .iload_n 1, 1), (13, .aload_n 0, 1), (14, .getfield 30, 3), (17, .getfield 85, 3), (20, .getfield 122, 3), (23, .invokevirtual 303, 3), (26, .ireturn, 1)]
set_option maxRecDepth 100000 in
theorem ev_d_123_0 : ∀ q ∈ ev_c_123_0, decode prog_1_method_33_code q.1 = .ok (q.2.1, q.2.2) := by decide +kernel
def ev_c_123 : List (Nat × List (Nat × Instr × Nat)) := [(0, ev_c_123_0)]
set_option maxRecDepth 100000 in
theorem ev_d_123 : ∀ q ∈ ev_c_123, ∀ z ∈ q.2, decode prog_1_method_33_code z.1 = .ok (z.2.1, z.2.2) := List.forall_mem_cons.mpr ⟨ev_d_123_0, fun _ h => absurd h List.not_mem_nil⟩
def ev_c_124_0 : List (Nat × Instr × Nat) := [(0, .aload_n 0, 1), (1, .iload_n 1, 1), (2, .invokevirtual 182, 3), (5, .iload_n 2, 1), (6, .iconst 0, 1), (7, .bipush 9, 2), (9, .invokestatic 97, 3), (12, .aload_n 0, 1), (13, .getfield 30, 3), (16, .getfield 85, 3), (19, .iload_n 1, 1), (20, .iload_n 2, 1), (21, .invokevirtual 303, 3), (24, .ireturn, 1)]
set_option maxRecDepth 100000 in
theorem ev_d_124_0 : ∀ q ∈ ev_c_124_0, decode prog_1_method_34_code q.1 = .ok (q.2.1, q.2.2) := by decide +kernel
def ev_c_124 : List (Nat × List (Nat × Instr × Nat)) := [(0, ev_c_124_0)]
set_option maxRecDepth 100000 in
theorem ev_d_124 : ∀ q ∈ ev_c_124, ∀ z ∈ q.2, decode prog_1_method_34_code z.1 = .ok (z.2.1, z.2.2) := List.forall_mem_cons.mpr ⟨ev_d_124_0, fun _ h => absurd h List.not_mem_nil⟩
def ev_c_125_0 : List (Nat × Instr × Nat) := [(0, .aload_n 0, 1), (1, .invokevirtual 94, 3), (4, .iload_n 1, 1), (5, .iconst 0, 1), (6, .bipush 99, 2), (8, .invokestatic 97, 3), (11, .aload_n 0, 1), (12, .getfield 30, 3), (15, .getfield 85, 3), (18, .getfield 122, 3), (21, .bipush 7, 2), (23, .if_icmp .lt 21, 3), (26, .iload_n 1, 1), (27, .aload_n 0, 1), (28, .getfield 30, 3), (31, .getfield 85, 3)]
set_option maxRecDepth 100000 in
theorem ev_d_125_0 : ∀ q ∈ ev_c_125_0, decode prog_1_method_35_code q.1 = .ok (q.2.1, q.2.2) := by decide +kernel
def ev_c_125_1 : List (Nat × Instr × Nat) := [(34, .iconst 2, 1), (35, .invokevirtual 125, 3), (38, .invokestatic 306, 3), (41, .goto 4, 3), (44, .iconst 0, 1), (45, .ireturn, 1)]
set_option maxRecDepth 100000 in
theorem ev_d_125_1 : ∀ q ∈ ev_c_125_1, decode prog_1_method_35_code q.1 = .ok (q.2.1, q.2.2) := by decide +kernel
def ev_c_125 : List (Nat × List (Nat × Instr × Nat)) := [(0, ev_c_125_0), (1, ev_c_125_1)]
set_option maxRecDepth 100000 in
theorem ev_d_125 : ∀ q ∈ ev_c_125, ∀ z ∈ q.2, decode prog_1_method_35_code z.1 = .ok (z.2.1, z.2.2) := List.forall_mem_cons.mpr ⟨ev_d_125_0, List.forall_mem_cons.mpr ⟨ev_d_125_1, fun _ h => absurd h List.not_mem_nil⟩⟩
def ev_c_126_0 : List (Nat × Instr × Nat) := [(0, .aload_n 0, 1), (1, .iload_n 1, 1), (2, .invokevirtual 157, 3), (5, .iload_n 2, 1), (6, .iconst 0, 1), (7, .bipush 99, 2), (9, .invokestatic 97, 3), (12, .aload_n 0, 1), (13, .getfield 30, 3), (16, .iload_n 1, 1), (17, .iload_n 2, 1), (18, .invokevirtual 311, 3), (21, .ireturn, 1)]
set_option maxRecDepth 100000 in
theorem ev_d_126_0 : ∀ q ∈ ev_c_126_0, decode prog_1_method_36_code q.1 = .ok (q.2.1, q.2.2) := by decide +kernel
def ev_c_126 : List (Nat × List (Nat × Instr × Nat)) := [(0, ev_c_126_0)]
set_option maxRecDepth 100000 in
theorem ev_d_126 : ∀ q ∈ ev_c_126, ∀ z ∈ q.2, decode prog_1_method_36_code z.1 = .ok (z.2.1, z.2.2) := List.forall_mem_cons.mpr ⟨ev_d_126_0, fun _ h => absurd h List.not_mem_nil⟩
def ev_c_127_0 : List (Nat × Instr × Nat) := [(0, .aload_n 0, 1), (1, .iload_n 1, 1), (2, .invokevirtual 182, 3), (5, .iload_n 2, 1), (6, .invokestatic 263, 3), (9, .aload_n 0, 1), (10, .getfield 30, 3), (13, .getfield 85, 3), (16, .getfield 185, 3), (19, .iload_n 1, 1), (20, .aaload, 1), (21, .iload_n 2, 1), (22, .invokevirtual 320, 3), (25, .ireturn, 1)]
set_option maxRecDepth 100000 in
theorem ev_d_127_0 : ∀ q ∈ ev_c_127_0, decode prog_1_method_39_code q.1 = .ok (q.2.1, q.2.2) := by decide +kernel
def ev_c_127 : List (Nat × List (Nat × Instr × Nat)) := [(0, ev_c_127_0)]
set_option maxRecDepth 100000 in
theorem ev_d_127 : ∀ q ∈ ev_c_127, ∀ z ∈ q.2, decode prog_1_method_39_code z.1 = .ok (z.2.1, z.2.2) := List.forall_mem_cons.mpr ⟨ev_d_127_0, fun _ h => absurd h List.not_mem_nil⟩
def ev_c_128_0 : List (Nat × Instr × Nat) := [(0, .aload_n 0, 1), (1, .iload_n 1, 1), (2, .invokevirtual 182, 3), (5, .aload_n 0, 1), (6, .iload_n 2, 1), (7, .invokevirtual 219, 3), (10, .aload_n 0, 1), (11, .getfield 30, 3), (14, .iload_n 1, 1), (15, .iload_n 2, 1), (16, .invokevirtual 260, 3), (19, .ifCond .ne 7, 3), (22, .iconst 1, 1), (23, .goto 4, 3), (26, .iconst 0, 1), (27, .invokestatic 348, 3), (30, .aload_n 0, 1), (31, .getfield 47, 3)]
set_option maxRecDepth 100000 in
theorem ev_d_128_0 : ∀ q ∈ ev_c_128_0, decode prog_1_method_47_code q.1 = .ok (q.2.1, q.2.2) := by decide +kernel
def ev_c_128_1 : List (Nat × Instr × Nat) := [(34, .aload_n 0, 1), (35, .getfield 30, 3), (38, .getfield 85, 3), (41, .invokevirtual 352, 3), (44, .aload_n 0, 1), (45, .getfield 30, 3), (48, .getfield 85, 3), (51, .iload_n 1, 1), (52, .iload_n 2, 1), (53, .invokevirtual 356, 3), (56, .ireturn, 1)]
set_option maxRecDepth 100000 in
theorem ev_d_128_1 : ∀ q ∈ ev_c_128_1, decode prog_1_method_47_code q.1 = .ok (q.2.1, q.2.2) := by decide +kernel
def ev_c_128 : List (Nat × List (Nat × Instr × Nat)) := [(0, ev_c_128_0), (1, ev_c_128_1)]
set_option maxRecDepth 100000 in
theorem ev_d_128 : ∀ q ∈ ev_c_128, ∀ z ∈ q.2, decode prog_1_method_47_code z.1 = .ok (z.2.1, z.2.2) := List.forall_mem_cons.mpr ⟨ev_d_128_0, List.forall_mem_cons.mpr ⟨ev_d_128_1, fun _ h => absurd h List.not_mem_nil⟩⟩
def ev_c_129_0 : List (Nat × Instr × Nat) := [(0, .aload_n 0, 1), (1, .iload_n 1, 1), (2, .invokevirtual 219, 3), (5, .iload_n 2, 1), (6, .invokestatic 263, 3), (9, .aload_n 0, 1), (10, .getfield 30, 3), (13, .iload_n 1, 1), (14, .iload_n 2, 1), (15, .invokevirtual 266, 3), (18, .ifCond .ne 7, 3), (21, .iconst 1, 1), (22, .goto 4, 3), (25, .iconst 0, 1), (26, .invokestatic 348, 3), (29, .aload_n 0, 1), (30, .getfield 47, 3)]
set_option maxRecDepth 100000 in
theorem ev_d_129_0 : ∀ q ∈ ev_c_129_0, decode prog_1_method_48_code q.1 = .ok (q.2.1, q.2.2) := by decide +kernel
def ev_c_129_1 : List (Nat × Instr × Nat) := [(33, .aload_n 0, 1), (34, .getfield 30, 3), (37, .getfield 85, 3), (40, .invokevirtual 352, 3), (43, .aload_n 0, 1), (44, .getfield 30, 3), (47, .iload_n 1, 1), (48, .iload_n 2, 1), (49, .invokevirtual 359, 3), (52, .ireturn, 1)]
set_option maxRecDepth 100000 in
theorem ev_d_129_1 : ∀ q ∈ ev_c_129_1, decode prog_1_method_48_code q.1 = .ok (q.2.1, q.2.2) := by decide +kernel
def ev_c_129 : List (Nat × List (Nat × Instr × Nat)) := [(0, ev_c_129_0), (1, ev_c_129_1)]
set_option maxRecDepth 100000 in
theorem ev_d_129 : ∀ q ∈ ev_c_129, ∀ z ∈ q.2, decode prog_1_method_48_code z.1 = .ok (z.2.1, z.2.2) := List.forall_mem_cons.mpr ⟨ev_d_129_0, List.forall_mem_cons.mpr ⟨ev_d_129_1, fun _ h => absurd h List.not_mem_nil⟩⟩
end
section
/-! code, by wip/gen/gen.py -/
def ev_c_130_0 : List (Nat × Instr × Nat) := [(0, .aload_n 0, 1), (1, .invokevirtual 94, 3), (4, .aload_n 0, 1), (5, .getfield 47, 3), (8, .aload_n 0, 1), (9, .getfield 30, 3), (12, .getfield 85, 3), (15, .invokevirtual 352, 3), (18, .aload_n 0, 1), (19, .getfield 30, 3), (22, .invokevirtual 368, 3), (25, .ireturn, 1)]
set_option maxRecDepth 100000 in
theorem ev_d_130_0 : ∀ q ∈ ev_c_130_0, decode prog_1_method_50_code q.1 = .ok (q.2.1, q.2.2) := by decide +kernel
def ev_c_130 : List (Nat × List (Nat × Instr × Nat)) := [(0, ev_c_130_0)]
set_option maxRecDepth 100000 in
theorem ev_d_130 : ∀ q ∈ ev_c_130, ∀ z ∈ q.2, decode prog_1_method_50_code z.1 = .ok (z.2.1, z.2.2) := List.forall_mem_cons.mpr ⟨ev_d_130_0, fun _ h => absurd h List.not_mem_nil⟩
def ev_c_131_0 : List (Nat × Instr × Nat) := [(0, .aload_n 0, 1), (1, .iload_n 1, 1), (2, .invokevirtual 182, 3), (5, .iload_n 2, 1), (6, .invokestatic 263, 3), (9, .aload_n 0, 1), (10, .getfield 30, 3), (13, .getfield 85, 3), (16, .getfield 185, 3), (19, .iload_n 1, 1), (20, .aaload, 1), (21, .astore_n 3, 1), (22, .aload_n 3, 1), (23, .iload_n 2, 1), (24, .invokevirtual 269, 3), (27, .ifCond .ne 7, 3), (30, .iconst 1, 1), (31, .goto 4, 3)]
set_option maxRecDepth 100000 in
theorem ev_d_131_0 : ∀ q ∈ ev_c_131_0, decode prog_1_method_53_code q.1 = .ok (q.2.1, q.2.2) := by decide +kernel
def ev_c_131_1 : List (Nat × Instr × Nat) := [(34, .iconst 0, 1), (35, .invokestatic 348, 3), (38, .aload_n 0, 1), (39, .getfield 47, 3), (42, .aload_n 0, 1), (43, .getfield 30, 3), (46, .getfield 85, 3), (49, .invokevirtual 352, 3), (52, .aload_n 3, 1), (53, .iload_n 2, 1), (54, .invokevirtual 377, 3), (57, .aload_n 3, 1), (58, .getfield 204, 3), (61, .ireturn, 1)]
set_option maxRecDepth 100000 in
theorem ev_d_131_1 : ∀ q ∈ ev_c_131_1, decode prog_1_method_53_code q.1 = .ok (q.2.1, q.2.2) := by decide +kernel
def ev_c_131 : List (Nat × List (Nat × Instr × Nat)) := [(0, ev_c_131_0), (1, ev_c_131_1)]
set_option maxRecDepth 100000 in
theorem ev_d_131 : ∀ q ∈ ev_c_131, ∀ z ∈ q.2, decode prog_1_method_53_code z.1 = .ok (z.2.1, z.2.2) := List.forall_mem_cons.mpr ⟨ev_d_131_0, List.forall_mem_cons.mpr ⟨ev_d_131_1, fun _ h => absurd h List.not_mem_nil⟩⟩
def ev_c_132_0 : List (Nat × Instr × Nat) := [(0, .aload_n 0, 1), (1, .iload_n 1, 1), (2, .invokevirtual 182, 3), (5, .aload_n 0, 1), (6, .getfield 30, 3), (9, .getfield 85, 3), (12, .getfield 185, 3), (15, .iload_n 1, 1), (16, .aaload, 1), (17, .astore_n 2, 1), (18, .aload_n 2, 1), (19, .invokevirtual 272, 3), (22, .ifCond .ne 7, 3), (25, .iconst 1, 1), (26, .goto 4, 3), (29, .iconst 0, 1), (30, .invokestatic 348, 3)]
set_option maxRecDepth 100000 in
theorem ev_d_132_0 : ∀ q ∈ ev_c_132_0, decode prog_1_method_54_code q.1 = .ok (q.2.1, q.2.2) := by decide +kernel
def ev_c_132_1 : List (Nat × Instr × Nat) := [(33, .aload_n 0, 1), (34, .getfield 47, 3), (37, .aload_n 0, 1), (38, .getfield 30, 3), (41, .getfield 85, 3), (44, .invokevirtual 352, 3), (47, .aload_n 2, 1), (48, .invokevirtual 380, 3), (51, .ireturn, 1)]
set_option maxRecDepth 100000 in
theorem ev_d_132_1 : ∀ q ∈ ev_c_132_1, decode prog_1_method_54_code q.1 = .ok (q.2.1, q.2.2) := by decide +kernel
def ev_c_132 : List (Nat × List (Nat × Instr × Nat)) := [(0, ev_c_132_0), (1, ev_c_132_1)]
set_option maxRecDepth 100000 in
theorem ev_d_132 : ∀ q ∈ ev_c_132, ∀ z ∈ q.2, decode prog_1_method_54_code z.1 = .ok (z.2.1, z.2.2) := List.forall_mem_cons.mpr ⟨ev_d_132_0, List.forall_mem_cons.mpr ⟨ev_d_132_1, fun _ h => absurd h List.not_mem_nil⟩⟩
def ev_c_133_0 : List (Nat × Instr × Nat) := [(0, .aload_n 0, 1), (1, .iload_n 1, 1), (2, .invokevirtual 157, 3), (5, .aload_n 0, 1), (6, .getfield 30, 3), (9, .iload_n 1, 1), (10, .invokevirtual 383, 3), (13, .invokestatic 348, 3), (16, .aload_n 0, 1), (17, .getfield 47, 3), (20, .aload_n 0, 1), (21, .getfield 30, 3), (24, .getfield 85, 3), (27, .invokevirtual 352, 3), (30, .aload_n 0, 1), (31, .getfield 30, 3)]
set_option maxRecDepth 100000 in
theorem ev_d_133_0 : ∀ q ∈ ev_c_133_0, decode prog_1_method_55_code q.1 = .ok (q.2.1, q.2.2) := by decide +kernel
def ev_c_133_1 : List (Nat × Instr × Nat) := [(34, .iload_n 1, 1), (35, .invokevirtual 386, 3), (38, .ireturn, 1)]
set_option maxRecDepth 100000 in
theorem ev_d_133_1 : ∀ q ∈ ev_c_133_1, decode prog_1_method_55_code q.1 = .ok (q.2.1, q.2.2) := by decide +kernel
def ev_c_133 : List (Nat × List (Nat × Instr × Nat)) := [(0, ev_c_133_0), (1, ev_c_133_1)]
set_option maxRecDepth 100000 in
theorem ev_d_133 : ∀ q ∈ ev_c_133, ∀ z ∈ q.2, decode prog_1_method_55_code z.1 = .ok (z.2.1, z.2.2) := List.forall_mem_cons.mpr ⟨ev_d_133_0, List.forall_mem_cons.mpr ⟨ev_d_133_1, fun _ h => absurd h List.not_mem_nil⟩⟩
def ev_c_134_0 : List (Nat × Instr × Nat) := [(0, .aload_n 0, 1), (1, .invokevirtual 94, 3), (4, .iload_n 1, 1), (5, .iconst 1, 1), (6, .bipush 50, 2), (8, .invokestatic 97, 3), (11, .aload_n 0, 1), (12, .getfield 47, 3), (15, .aload_n 0, 1), (16, .getfield 30, 3), (19, .getfield 85, 3), (22, .invokevirtual 352, 3), (25, .aload_n 0, 1), (26, .getfield 30, 3), (29, .getfield 85, 3)]
set_option maxRecDepth 100000 in
theorem ev_d_134_0 : ∀ q ∈ ev_c_134_0, decode prog_1_method_56_code q.1 = .ok (q.2.1, q.2.2) := by decide +kernel
def ev_c_134_1 : List (Nat × Instr × Nat) := [(32, .iload_n 1, 1), (33, .invokevirtual 389, 3), (36, .ireturn, 1)]
set_option maxRecDepth 100000 in
theorem ev_d_134_1 : ∀ q ∈ ev_c_134_1, decode prog_1_method_56_code q.1 = .ok (q.2.1, q.2.2) := by decide +kernel
def ev_c_134 : List (Nat × List (Nat × Instr × Nat)) := [(0, ev_c_134_0), (1, ev_c_134_1)]
set_option maxRecDepth 100000 in
theorem ev_d_134 : ∀ q ∈ ev_c_134, ∀ z ∈ q.2, decode prog_1_method_56_code z.1 = .ok (z.2.1, z.2.2) := List.forall_mem_cons.mpr ⟨ev_d_134_0, List.forall_mem_cons.mpr ⟨ev_d_134_1, fun _ h => absurd h List.not_mem_nil⟩⟩
def ev_c_135_0 : List (Nat × Instr × Nat) := [(0, .aload_n 0, 1), (1, .invokevirtual 94, 3), (4, .iload_n 1, 1), (5, .iconst 0, 1), (6, .bipush 9, 2), (8, .invokestatic 97, 3), (11, .aload_n 0, 1), (12, .getfield 47, 3), (15, .aload_n 0, 1), (16, .getfield 30, 3), (19, .getfield 85, 3), (22, .invokevirtual 352, 3), (25, .aload_n 0, 1), (26, .getfield 30, 3), (29, .getfield 85, 3)]
set_option maxRecDepth 100000 in
theorem ev_d_135_0 : ∀ q ∈ ev_c_135_0, decode prog_1_method_57_code q.1 = .ok (q.2.1, q.2.2) := by decide +kernel
def ev_c_135_1 : List (Nat × Instr × Nat) := [(32, .getfield 122, 3), (35, .istore_n 2, 1), (36, .aload_n 0, 1), (37, .getfield 30, 3), (40, .getfield 85, 3), (43, .iload_n 1, 1), (44, .putfield 122, 3), (47, .iload_n 2, 1), (48, .ireturn, 1)]
set_option maxRecDepth 100000 in
theorem ev_d_135_1 : ∀ q ∈ ev_c_135_1, decode prog_1_method_57_code q.1 = .ok (q.2.1, q.2.2) := by decide +kernel
def ev_c_135 : List (Nat × List (Nat × Instr × Nat)) := [(0, ev_c_135_0), (1, ev_c_135_1)]
set_option maxRecDepth 100000 in
theorem ev_d_135 : ∀ q ∈ ev_c_135, ∀ z ∈ q.2, decode prog_1_method_57_code z.1 = .ok (z.2.1, z.2.2) := List.forall_mem_cons.mpr ⟨ev_d_135_0, List.forall_mem_cons.mpr ⟨ev_d_135_1, fun _ h => absurd h List.not_mem_nil⟩⟩
def ev_c_136_0 : List (Nat × Instr × Nat) := [(0, .aload_n 0, 1), (1, .getfield 47, 3), (4, .getfield 399, 3), (7, .ireturn, 1)]
set_option maxRecDepth 100000 in
theorem ev_d_136_0 : ∀ q ∈ ev_c_136_0, decode prog_1_method_60_code q.1 = .ok (q.2.1, q.2.2) := by decide +kernel
def ev_c_136 : List (Nat × List (Nat × Instr × Nat)) := [(0, ev_c_136_0)]
set_option maxRecDepth 100000 in
theorem ev_d_136 : ∀ q ∈ ev_c_136, ∀ z ∈ q.2, decode prog_1_method_60_code z.1 = .ok (z.2.1, z.2.2) := List.forall_mem_cons.mpr ⟨ev_d_136_0, fun _ h => absurd h List.not_mem_nil⟩
def ev_c_137_0 : List (Nat × Instr × Nat) := [(0, .aload_n 0, 1), (1, .invokevirtual 94, 3), (4, .iload_n 1, 1), (5, .invokestatic 410, 3), (8, .aload_n 0, 1), (9, .getfield 47, 3), (12, .iload_n 1, 1), (13, .aload_n 0, 1), (14, .getfield 30, 3), (17, .getfield 85, 3), (20, .invokevirtual 413, 3), (23, .aload_n 0, 1), (24, .getfield 30, 3), (27, .getfield 85, 3), (30, .getfield 119, 3)]
set_option maxRecDepth 100000 in
theorem ev_d_137_0 : ∀ q ∈ ev_c_137_0, decode prog_1_method_61_code q.1 = .ok (q.2.1, q.2.2) := by decide +kernel
def ev_c_137_1 : List (Nat × Instr × Nat) := [(33, .ireturn, 1)]
set_option maxRecDepth 100000 in
theorem ev_d_137_1 : ∀ q ∈ ev_c_137_1, decode prog_1_method_61_code q.1 = .ok (q.2.1, q.2.2) := by decide +kernel
def ev_c_137 : List (Nat × List (Nat × Instr × Nat)) := [(0, ev_c_137_0), (1, ev_c_137_1)]
set_option maxRecDepth 100000 in
theorem ev_d_137 : ∀ q ∈ ev_c_137, ∀ z ∈ q.2, decode prog_1_method_61_code z.1 = .ok (z.2.1, z.2.2) := List.forall_mem_cons.mpr ⟨ev_d_137_0, List.forall_mem_cons.mpr ⟨ev_d_137_1, fun _ h => absurd h List.not_mem_nil⟩⟩
def ev_c_138_0 : List (Nat × Instr × Nat) := [(0, .iload_n 1, 1), (1, .invokestatic 410, 3), (4, .aload_n 0, 1), (5, .getfield 47, 3), (8, .getfield 417, 3), (11, .iload_n 1, 1), (12, .baload, 1), (13, .ifCond .ne 14, 3), (16, .new 402, 3), (19, .dup, 1), (20, .ldc_w 421, 3), (23, .invokespecial 406, 3), (26, .athrow, 1), (27, .aload_n 0, 1), (28, .getfield 47, 3), (31, .iload_n 1, 1)]
set_option maxRecDepth 100000 in
theorem ev_d_138_0 : ∀ q ∈ ev_c_138_0, decode prog_1_method_62_code q.1 = .ok (q.2.1, q.2.2) := by decide +kernel
def ev_c_138_1 : List (Nat × Instr × Nat) := [(32, .aload_n 0, 1), (33, .getfield 30, 3), (36, .getfield 85, 3), (39, .invokevirtual 423, 3), (42, .aload_n 0, 1), (43, .getfield 30, 3), (46, .getfield 85, 3), (49, .getfield 119, 3), (52, .ireturn, 1)]
set_option maxRecDepth 100000 in
theorem ev_d_138_1 : ∀ q ∈ ev_c_138_1, decode prog_1_method_62_code q.1 = .ok (q.2.1, q.2.2) := by decide +kernel
def ev_c_138 : List (Nat × List (Nat × Instr × Nat)) := [(0, ev_c_138_0), (1, ev_c_138_1)]
set_option maxRecDepth 100000 in
theorem ev_d_138 : ∀ q ∈ ev_c_138, ∀ z ∈ q.2, decode prog_1_method_62_code z.1 = .ok (z.2.1, z.2.2) := List.forall_mem_cons.mpr ⟨ev_d_138_0, List.forall_mem_cons.mpr ⟨ev_d_138_1, fun _ h => absurd h List.not_mem_nil⟩⟩
def ev_c_139_0 : List (Nat × Instr × Nat) := [(0, .aload_n 0, 1), (1, .getfield 23, 3), (4, .ifCond .ne 14, 3), (7, .new 402, 3), (10, .dup, 1), (11, .ldc_w 426, 3), (14, .invokespecial 406, 3), (17, .athrow, 1), (18, .return_, 1)]
set_option maxRecDepth 100000 in
theorem ev_d_139_0 : ∀ q ∈ ev_c_139_0, decode prog_1_method_63_code q.1 = .ok (q.2.1, q.2.2) := by decide +kernel
def ev_c_139 : List (Nat × List (Nat × Instr × Nat)) := [(0, ev_c_139_0)]
set_option maxRecDepth 100000 in
theorem ev_d_139 : ∀ q ∈ ev_c_139, ∀ z ∈ q.2, decode prog_1_method_63_code z.1 = .ok (z.2.1, z.2.2) := List.forall_mem_cons.mpr ⟨ev_d_139_0, fun _ h => absurd h List.not_mem_nil⟩
def ev_c_140_0 : List (Nat × Instr × Nat) := [(0, .aload_n 0, 1), (1, .invokevirtual 94, 3), (4, .iload_n 1, 1), (5, .ifCond .lt 17, 3), (8, .iload_n 1, 1), (9, .aload_n 0, 1), (10, .getfield 30, 3), (13, .getfield 85, 3), (16, .getfield 89, 3), (19, .if_icmp .lt 14, 3), (22, .new 62, 3), (25, .dup, 1), (26, .ldc_w 428, 3), (29, .invokespecial 66, 3)]
set_option maxRecDepth 100000 in
theorem ev_d_140_0 : ∀ q ∈ ev_c_140_0, decode prog_1_method_64_code q.1 = .ok (q.2.1, q.2.2) := by decide +kernel
def ev_c_140_1 : List (Nat × Instr × Nat) := [(32, .athrow, 1), (33, .return_, 1)]
set_option maxRecDepth 100000 in
theorem ev_d_140_1 : ∀ q ∈ ev_c_140_1, decode prog_1_method_64_code q.1 = .ok (q.2.1, q.2.2) := by decide +kernel
def ev_c_140 : List (Nat × List (Nat × Instr × Nat)) := [(0, ev_c_140_0), (1, ev_c_140_1)]
set_option maxRecDepth 100000 in
theorem ev_d_140 : ∀ q ∈ ev_c_140, ∀ z ∈ q.2, decode prog_1_method_64_code z.1 = .ok (z.2.1, z.2.2) := List.forall_mem_cons.mpr ⟨ev_d_140_0, List.forall_mem_cons.mpr ⟨ev_d_140_1, fun _ h => absurd h List.not_mem_nil⟩⟩
def ev_c_141_0 : List (Nat × Instr × Nat) := [(0, .aload_n 0, 1), (1, .invokevirtual 94, 3), (4, .iload_n 1, 1), (5, .ifCond .lt 17, 3), (8, .iload_n 1, 1), (9, .aload_n 0, 1), (10, .getfield 30, 3), (13, .getfield 101, 3), (16, .getfield 113, 3), (19, .if_icmp .lt 14, 3), (22, .new 62, 3), (25, .dup, 1), (26, .ldc_w 430, 3), (29, .invokespecial 66, 3)]
set_option maxRecDepth 100000 in
theorem ev_d_141_0 : ∀ q ∈ ev_c_141_0, decode prog_1_method_65_code q.1 = .ok (q.2.1, q.2.2) := by decide +kernel
def ev_c_141_1 : List (Nat × Instr × Nat) := [(32, .athrow, 1), (33, .return_, 1)]
set_option maxRecDepth 100000 in
theorem ev_d_141_1 : ∀ q ∈ ev_c_141_1, decode prog_1_method_65_code q.1 = .ok (q.2.1, q.2.2) := by decide +kernel
def ev_c_141 : List (Nat × List (Nat × Instr × Nat)) := [(0, ev_c_141_0), (1, ev_c_141_1)]
set_option maxRecDepth 100000 in
theorem ev_d_141 : ∀ q ∈ ev_c_141, ∀ z ∈ q.2, decode prog_1_method_65_code z.1 = .ok (z.2.1, z.2.2) := List.forall_mem_cons.mpr ⟨ev_d_141_0, List.forall_mem_cons.mpr ⟨ev_d_141_1, fun _ h => absurd h List.not_mem_nil⟩⟩
def ev_c_142_0 : List (Nat × Instr × Nat) := [(0, .aload_n 0, 1), (1, .invokevirtual 94, 3), (4, .iload_n 1, 1), (5, .ifCond .lt 17, 3), (8, .iload_n 1, 1), (9, .aload_n 0, 1), (10, .getfield 30, 3), (13, .getfield 101, 3), (16, .getfield 110, 3), (19, .if_icmp .lt 14, 3), (22, .new 62, 3), (25, .dup, 1), (26, .ldc_w 432, 3), (29, .invokespecial 66, 3)]
set_option maxRecDepth 100000 in
theorem ev_d_142_0 : ∀ q ∈ ev_c_142_0, decode prog_1_method_66_code q.1 = .ok (q.2.1, q.2.2) := by decide +kernel
def ev_c_142_1 : List (Nat × Instr × Nat) := [(32, .athrow, 1), (33, .return_, 1)]
set_option maxRecDepth 100000 in
theorem ev_d_142_1 : ∀ q ∈ ev_c_142_1, decode prog_1_method_66_code q.1 = .ok (q.2.1, q.2.2) := by decide +kernel
def ev_c_142 : List (Nat × List (Nat × Instr × Nat)) := [(0, ev_c_142_0), (1, ev_c_142_1)]
set_option maxRecDepth 100000 in
theorem ev_d_142 : ∀ q ∈ ev_c_142, ∀ z ∈ q.2, decode prog_1_method_66_code z.1 = .ok (z.2.1, z.2.2) := List.forall_mem_cons.mpr ⟨ev_d_142_0, List.forall_mem_cons.mpr ⟨ev_d_142_1, fun _ h => absurd h List.not_mem_nil⟩⟩
def ev_c_143_0 : List (Nat × Instr × Nat) := [(0, .iload_n 0, 1), (1, .ifCond .lt 8, 3), (4, .iload_n 0, 1), (5, .iconst 2, 1), (6, .if_icmp .lt 14, 3), (9, .new 62, 3), (12, .dup, 1), (13, .ldc_w 434, 3), (16, .invokespecial 66, 3), (19, .athrow, 1), (20, .return_, 1)]
set_option maxRecDepth 100000 in
theorem ev_d_143_0 : ∀ q ∈ ev_c_143_0, decode prog_1_method_67_code q.1 = .ok (q.2.1, q.2.2) := by decide +kernel
def ev_c_143 : List (Nat × List (Nat × Instr × Nat)) := [(0, ev_c_143_0)]
set_option maxRecDepth 100000 in
theorem ev_d_143 : ∀ q ∈ ev_c_143, ∀ z ∈ q.2, decode prog_1_method_67_code z.1 = .ok (z.2.1, z.2.2) := List.forall_mem_cons.mpr ⟨ev_d_143_0, fun _ h => absurd h List.not_mem_nil⟩
def ev_c_144_0 : List (Nat × Instr × Nat) := [(0, .iload_n 0, 1), (1, .iconst 0, 1), (2, .iconst 3, 1), (3, .invokestatic 97, 3), (6, .return_, 1)]
set_option maxRecDepth 100000 in
theorem ev_d_144_0 : ∀ q ∈ ev_c_144_0, decode prog_1_method_68_code q.1 = .ok (q.2.1, q.2.2) := by decide +kernel
def ev_c_144 : List (Nat × List (Nat × Instr × Nat)) := [(0, ev_c_144_0)]
set_option maxRecDepth 100000 in
theorem ev_d_144 : ∀ q ∈ ev_c_144, ∀ z ∈ q.2, decode prog_1_method_68_code z.1 = .ok (z.2.1, z.2.2) := List.forall_mem_cons.mpr ⟨ev_d_144_0, fun _ h => absurd h List.not_mem_nil⟩
def ev_c_145_0 : List (Nat × Instr × Nat) := [(0, .iload_n 0, 1), (1, .iload_n 1, 1), (2, .if_icmp .lt 8, 3), (5, .iload_n 0, 1), (6, .iload_n 2, 1), (7, .if_icmp .le 14, 3), (10, .new 77, 3), (13, .dup, 1), (14, .ldc_w 436, 3), (17, .invokespecial 81, 3), (20, .athrow, 1), (21, .return_, 1)]
set_option maxRecDepth 100000 in
theorem ev_d_145_0 : ∀ q ∈ ev_c_145_0, decode prog_1_method_69_code q.1 = .ok (q.2.1, q.2.2) := by decide +kernel
def ev_c_145 : List (Nat × List (Nat × Instr × Nat)) := [(0, ev_c_145_0)]
set_option maxRecDepth 100000 in
theorem ev_d_145 : ∀ q ∈ ev_c_145, ∀ z ∈ q.2, decode prog_1_method_69_code z.1 = .ok (z.2.1, z.2.2) := List.forall_mem_cons.mpr ⟨ev_d_145_0, fun _ h => absurd h List.not_mem_nil⟩
def ev_c_146_0 : List (Nat × Instr × Nat) := [(0, .iload_n 0, 1), (1, .ifCond .ne 14, 3), (4, .new 77, 3), (7, .dup, 1), (8, .ldc_w 438, 3), (11, .invokespecial 81, 3), (14, .athrow, 1), (15, .return_, 1)]
set_option maxRecDepth 100000 in
theorem ev_d_146_0 : ∀ q ∈ ev_c_146_0, decode prog_1_method_70_code q.1 = .ok (q.2.1, q.2.2) := by decide +kernel
def ev_c_146 : List (Nat × List (Nat × Instr × Nat)) := [(0, ev_c_146_0)]
set_option maxRecDepth 100000 in
theorem ev_d_146 : ∀ q ∈ ev_c_146, ∀ z ∈ q.2, decode prog_1_method_70_code z.1 = .ok (z.2.1, z.2.2) := List.forall_mem_cons.mpr ⟨ev_d_146_0, fun _ h => absurd h List.not_mem_nil⟩
def ev_c_147_0 : List (Nat × Instr × Nat) := [(0, .bipush 24, 2), (2, .istore_n 2, 1), (3, .iload_n 2, 1), (4, .ifCond .lt 32, 3), (7, .aload_n 0, 1), (8, .getfield 9, 3), (11, .aload_n 0, 1), (12, .getfield 13, 3), (15, .iload_n 1, 1), (16, .iload_n 2, 1), (17, .ishr, 1), (18, .i2b, 1), (19, .bastore, 1), (20, .aload_n 0, 1), (21, .dup, 1), (22, .getfield 13, 3), (25, .iconst 1, 1), (26, .iadd, 1), (27, .putfield 13, 3), (30, .iinc 2 (-8), 3)]
set_option maxRecDepth 100000 in
theorem ev_d_147_0 : ∀ q ∈ ev_c_147_0, decode prog_1_method_71_code q.1 = .ok (q.2.1, q.2.2) := by decide +kernel
def ev_c_147_1 : List (Nat × Instr × Nat) := [(33, .goto (-30), 3), (36, .return_, 1)]
set_option maxRecDepth 100000 in
theorem ev_d_147_1 : ∀ q ∈ ev_c_147_1, decode prog_1_method_71_code q.1 = .ok (q.2.1, q.2.2) := by decide +kernel
def ev_c_147 : List (Nat × List (Nat × Instr × Nat)) := [(0, ev_c_147_0), (1, ev_c_147_1)]
set_option maxRecDepth 100000 in
theorem ev_d_147 : ∀ q ∈ ev_c_147, ∀ z ∈ q.2, decode prog_1_method_71_code z.1 = .ok (z.2.1, z.2.2) := List.forall_mem_cons.mpr ⟨ev_d_147_0, List.forall_mem_cons.mpr ⟨ev_d_147_1, fun _ h => absurd h List.not_mem_nil⟩⟩
def ev_c_148_0 : List (Nat × Instr × Nat) := [(0, .aload_n 0, 1), (1, .invokespecial 1, 3), (4, .aload_n 0, 1), (5, .new 7, 3), (8, .dup, 1), (9, .invokespecial 9, 3), (12, .putfield 10, 3), (15, .return_, 1)]
set_option maxRecDepth 100000 in
theorem ev_d_148_0 : ∀ q ∈ ev_c_148_0, decode prog_10_method_1_code q.1 = .ok (q.2.1, q.2.2) := by decide +kernel
def ev_c_148 : List (Nat × List (Nat × Instr × Nat)) := [(0, ev_c_148_0)]
set_option maxRecDepth 100000 in
theorem ev_d_148 : ∀ q ∈ ev_c_148, ∀ z ∈ q.2, decode prog_10_method_1_code z.1 = .ok (z.2.1, z.2.2) := List.forall_mem_cons.mpr ⟨ev_d_148_0, fun _ h => absurd h List.not_mem_nil⟩
def ev_c_149_0 : List (Nat × Instr × Nat) := [(0, .iconst 0, 1), (1, .istore_n 2, 1), (2, .iconst 0, 1), (3, .istore_n 3, 1), (4, .iload_n 3, 1), (5, .aload_n 0, 1), (6, .getfield 10, 3), (9, .invokevirtual 58, 3), (12, .if_icmp .ge 30, 3), (15, .aload_n 0, 1), (16, .getfield 10, 3), (19, .iload_n 3, 1), (20, .invokevirtual 62, 3), (23, .checkcast 66, 3), (26, .getfield 76, 3), (29, .iload_n 1, 1), (30, .if_icmp .ne 6, 3)]
set_option maxRecDepth 100000 in
theorem ev_d_149_0 : ∀ q ∈ ev_c_149_0, decode prog_10_method_3_code q.1 = .ok (q.2.1, q.2.2) := by decide +kernel
def ev_c_149_1 : List (Nat × Instr × Nat) := [(33, .iinc 2 1, 3), (36, .iinc 3 1, 3), (39, .goto (-35), 3), (42, .iload_n 2, 1), (43, .ireturn, 1)]
set_option maxRecDepth 100000 in
theorem ev_d_149_1 : ∀ q ∈ ev_c_149_1, decode prog_10_method_3_code q.1 = .ok (q.2.1, q.2.2) := by decide +kernel
def ev_c_149 : List (Nat × List (Nat × Instr × Nat)) := [(0, ev_c_149_0), (1, ev_c_149_1)]
set_option maxRecDepth 100000 in
theorem ev_d_149 : ∀ q ∈ ev_c_149, ∀ z ∈ q.2, decode prog_10_method_3_code z.1 = .ok (z.2.1, z.2.2) := List.forall_mem_cons.mpr ⟨ev_d_149_0, List.forall_mem_cons.mpr ⟨ev_d_149_1, fun _ h => absurd h List.not_mem_nil⟩⟩
def ev_c_150_0 : List (Nat × Instr × Nat) := [(0, .iconst 0, 1), (1, .istore_n 3, 1), (2, .iconst 0, 1), (3, .istore 4, 2), (5, .iload 4, 2), (7, .aload_n 0, 1), (8, .getfield 42, 3), (11, .arraylength, 1), (12, .if_icmp .ge 37, 3), (15, .iload_n 1, 1), (16, .iload 4, 2), (18, .ishr, 1), (19, .iconst 1, 1), (20, .iand, 1), (21, .iconst 1, 1), (22, .if_icmp .ne 21, 3), (25, .aload_n 0, 1), (26, .getfield 42, 3), (29, .iload 4, 2), (31, .iaload, 1)]
set_option maxRecDepth 100000 in
theorem ev_d_150_0 : ∀ q ∈ ev_c_150_0, decode prog_10_method_6_code q.1 = .ok (q.2.1, q.2.2) := by decide +kernel
def ev_c_150_1 : List (Nat × Instr × Nat) := [(32, .iload_n 2, 1), (33, .if_icmp .gt 10, 3), (36, .iload_n 3, 1), (37, .iconst 1, 1), (38, .iload 4, 2), (40, .ishl, 1), (41, .ior, 1), (42, .istore_n 3, 1), (43, .iinc 4 1, 3), (46, .goto (-41), 3), (49, .iload_n 3, 1), (50, .ireturn, 1)]
set_option maxRecDepth 100000 in
theorem ev_d_150_1 : ∀ q ∈ ev_c_150_1, decode prog_10_method_6_code q.1 = .ok (q.2.1, q.2.2) := by decide +kernel
def ev_c_150 : List (Nat × List (Nat × Instr × Nat)) := [(0, ev_c_150_0), (1, ev_c_150_1)]
set_option maxRecDepth 100000 in
theorem ev_d_150 : ∀ q ∈ ev_c_150, ∀ z ∈ q.2, decode prog_10_method_6_code z.1 = .ok (z.2.1, z.2.2) := List.forall_mem_cons.mpr ⟨ev_d_150_0, List.forall_mem_cons.mpr ⟨ev_d_150_1, fun _ h => absurd h List.not_mem_nil⟩⟩
def ev_c_151_0 : List (Nat × Instr × Nat) := [(0, .iconst 0, 1), (1, .istore_n 3, 1), (2, .iconst 0, 1), (3, .istore 4, 2), (5, .iload 4, 2), (7, .aload_n 0, 1), (8, .getfield 10, 3), (11, .invokevirtual 58, 3), (14, .if_icmp .ge 62, 3), (17, .aload_n 0, 1), (18, .getfield 10, 3), (21, .iload 4, 2), (23, .invokevirtual 62, 3), (26, .checkcast 66, 3), (29, .getfield 76, 3)]
set_option maxRecDepth 100000 in
theorem ev_d_151_0 : ∀ q ∈ ev_c_151_0, decode prog_10_method_7_code q.1 = .ok (q.2.1, q.2.2) := by decide +kernel
def ev_c_151_1 : List (Nat × Instr × Nat) := [(32, .iload_n 1, 1), (33, .if_icmp .ne 37, 3), (36, .iload_n 3, 1), (37, .aload_n 0, 1), (38, .getfield 10, 3), (41, .iload 4, 2), (43, .invokevirtual 62, 3), (46, .checkcast 66, 3), (49, .getfield 94, 3), (52, .aload_n 0, 1), (53, .getfield 10, 3), (56, .iload 4, 2), (58, .invokevirtual 62, 3), (61, .checkcast 66, 3)]
set_option maxRecDepth 100000 in
theorem ev_d_151_1 : ∀ q ∈ ev_c_151_1, decode prog_10_method_7_code q.1 = .ok (q.2.1, q.2.2) := by decide +kernel
def ev_c_151_2 : List (Nat × Instr × Nat) := [(64, .getfield 97, 3), (67, .ior, 1), (68, .ior, 1), (69, .istore_n 3, 1), (70, .iinc 4 1, 3), (73, .goto (-68), 3), (76, .aload_n 0, 1), (77, .iload_n 3, 1), (78, .iload_n 2, 1), (79, .invokevirtual 100, 3), (82, .ireturn, 1)]
set_option maxRecDepth 100000 in
theorem ev_d_151_2 : ∀ q ∈ ev_c_151_2, decode prog_10_method_7_code q.1 = .ok (q.2.1, q.2.2) := by decide +kernel
def ev_c_151 : List (Nat × List (Nat × Instr × Nat)) := [(0, ev_c_151_0), (1, ev_c_151_1), (2, ev_c_151_2)]
set_option maxRecDepth 100000 in
theorem ev_d_151 : ∀ q ∈ ev_c_151, ∀ z ∈ q.2, decode prog_10_method_7_code z.1 = .ok (z.2.1, z.2.2) := List.forall_mem_cons.mpr ⟨ev_d_151_0, List.forall_mem_cons.mpr ⟨ev_d_151_1, List.forall_mem_cons.mpr ⟨ev_d_151_2, fun _ h => absurd h List.not_mem_nil⟩⟩⟩
def ev_c_152_0 : List (Nat × Instr × Nat) := [(0, .aload_n 0, 1), (1, .iload_n 1, 1), (2, .iload_n 2, 1), (3, .invokevirtual 103, 3), (6, .istore_n 3, 1), (7, .iconst 0, 1), (8, .istore 4, 2), (10, .iconst 0, 1), (11, .istore 5, 2), (13, .iload 5, 2), (15, .aload_n 0, 1), (16, .getfield 10, 3), (19, .invokevirtual 58, 3), (22, .if_icmp .ge 126, 3), (25, .aload_n 0, 1), (26, .getfield 10, 3), (29, .iload 5, 2), (31, .invokevirtual 62, 3)]
set_option maxRecDepth 100000 in
theorem ev_d_152_0 : ∀ q ∈ ev_c_152_0, decode prog_10_method_8_code q.1 = .ok (q.2.1, q.2.2) := by decide +kernel
def ev_c_152_1 : List (Nat × Instr × Nat) := [(34, .checkcast 66, 3), (37, .astore 6, 2), (39, .aload 6, 2), (41, .getfield 76, 3), (44, .iload_n 1, 1), (45, .if_icmp .eq 6, 3), (48, .goto 94, 3), (51, .aload 6, 2), (53, .getfield 97, 3), (56, .istore 7, 2), (58, .aload 6, 2), (60, .dup, 1), (61, .getfield 97, 3)]
set_option maxRecDepth 100000 in
theorem ev_d_152_1 : ∀ q ∈ ev_c_152_1, decode prog_10_method_8_code q.1 = .ok (q.2.1, q.2.2) := by decide +kernel
def ev_c_152_2 : List (Nat × Instr × Nat) := [(64, .iload_n 3, 1), (65, .aload 6, 2), (67, .getfield 94, 3), (70, .iconst (-1), 1), (71, .ixor, 1), (72, .iand, 1), (73, .ior, 1), (74, .putfield 97, 3), (77, .aload 6, 2), (79, .getfield 97, 3), (82, .iload 7, 2), (84, .if_icmp .eq 6, 3), (87, .iinc 4 1, 3), (90, .aload 6, 2), (92, .iconst 0, 1), (93, .aload 6, 2), (95, .getfield 106, 3)]
set_option maxRecDepth 100000 in
theorem ev_d_152_2 : ∀ q ∈ ev_c_152_2, decode prog_10_method_8_code q.1 = .ok (q.2.1, q.2.2) := by decide +kernel
def ev_c_152_3 : List (Nat × Instr × Nat) := [(98, .iconst 1, 1), (99, .isub, 1), (100, .iload_n 2, 1), (101, .isub, 1), (102, .iload_n 2, 1), (103, .isub, 1), (104, .invokestatic 109, 3), (107, .putfield 106, 3), (110, .aload 6, 2), (112, .bipush 9, 2), (114, .putfield 112, 3), (117, .aload 6, 2), (119, .bipush 9, 2), (121, .aload 6, 2), (123, .getfield 115, 3), (126, .iconst 1, 1), (127, .iadd, 1)]
set_option maxRecDepth 100000 in
theorem ev_d_152_3 : ∀ q ∈ ev_c_152_3, decode prog_10_method_8_code q.1 = .ok (q.2.1, q.2.2) := by decide +kernel
def ev_c_152_4 : List (Nat × Instr × Nat) := [(128, .iload_n 2, 1), (129, .iadd, 1), (130, .invokestatic 82, 3), (133, .putfield 115, 3), (136, .aload 6, 2), (138, .iconst (-1), 1), (139, .putfield 76, 3), (142, .iinc 5 1, 3), (145, .goto (-132), 3), (148, .aload_n 0, 1), (149, .dup, 1), (150, .getfield 33, 3), (153, .iconst 1, 1), (154, .iadd, 1), (155, .putfield 33, 3), (158, .iload 4, 2)]
set_option maxRecDepth 100000 in
theorem ev_d_152_4 : ∀ q ∈ ev_c_152_4, decode prog_10_method_8_code q.1 = .ok (q.2.1, q.2.2) := by decide +kernel
def ev_c_152_5 : List (Nat × Instr × Nat) := [(160, .ireturn, 1)]
set_option maxRecDepth 100000 in
theorem ev_d_152_5 : ∀ q ∈ ev_c_152_5, decode prog_10_method_8_code q.1 = .ok (q.2.1, q.2.2) := by decide +kernel
def ev_c_152 : List (Nat × List (Nat × Instr × Nat)) := [(0, ev_c_152_0), (1, ev_c_152_1), (2, ev_c_152_2), (3, ev_c_152_3), (4, ev_c_152_4), (5, ev_c_152_5)]
set_option maxRecDepth 100000 in
theorem ev_d_152 : ∀ q ∈ ev_c_152, ∀ z ∈ q.2, decode prog_10_method_8_code z.1 = .ok (z.2.1, z.2.2) := List.forall_mem_cons.mpr ⟨ev_d_152_0, List.forall_mem_cons.mpr ⟨ev_d_152_1, List.forall_mem_cons.mpr ⟨ev_d_152_2, List.forall_mem_cons.mpr ⟨ev_d_152_3, List.forall_mem_cons.mpr ⟨ev_d_152_4, List.forall_mem_cons.mpr ⟨ev_d_152_5, fun _ h => absurd h List.not_mem_nil⟩⟩⟩⟩⟩⟩
def ev_c_153_0 : List (Nat × Instr × Nat) := [(0, .aload_n 0, 1), (1, .invokespecial 1, 3), (4, .aload_n 0, 1), (5, .iconst (-1), 1), (6, .putfield 7, 3), (9, .aload_n 0, 1), (10, .iconst (-1), 1), (11, .putfield 13, 3), (14, .return_, 1)]
set_option maxRecDepth 100000 in
theorem ev_d_153_0 : ∀ q ∈ ev_c_153_0, decode prog_11_method_1_code q.1 = .ok (q.2.1, q.2.2) := by decide +kernel
def ev_c_153 : List (Nat × List (Nat × Instr × Nat)) := [(0, ev_c_153_0)]
set_option maxRecDepth 100000 in
theorem ev_d_153 : ∀ q ∈ ev_c_153, ∀ z ∈ q.2, decode prog_11_method_1_code z.1 = .ok (z.2.1, z.2.2) := List.forall_mem_cons.mpr ⟨ev_d_153_0, fun _ h => absurd h List.not_mem_nil⟩
def ev_c_154_0 : List (Nat × Instr × Nat) := [(0, .aload_n 1, 1), (1, .iconst 5, 1), (2, .iaload, 1), (3, .istore_n 3, 1), (4, .aload_n 1, 1), (5, .iload_n 3, 1), (6, .iconst 4, 1), (7, .idiv, 1), (8, .aload_n 1, 1), (9, .iload_n 3, 1), (10, .iconst 4, 1), (11, .idiv, 1), (12, .iaload, 1), (13, .bipush 8, 2), (15, .ishl, 1), (16, .iload_n 2, 1), (17, .ior, 1), (18, .iastore, 1), (19, .aload_n 1, 1), (20, .iconst 5, 1), (21, .dup2, 1), (22, .iaload, 1), (23, .iconst 1, 1), (24, .iadd, 1), (25, .iastore, 1), (26, .aload_n 1, 1), (27, .bipush 6, 2), (29, .dup2, 1), (30, .iaload, 1), (31, .iconst 1, 1)]
set_option maxRecDepth 100000 in
theorem ev_d_154_0 : ∀ q ∈ ev_c_154_0, decode method_2_code q.1 = .ok (q.2.1, q.2.2) := by decide +kernel
def ev_c_154_1 : List (Nat × Instr × Nat) := [(32, .iadd, 1), (33, .iastore, 1), (34, .aload_n 1, 1), (35, .iconst 5, 1), (36, .iaload, 1), (37, .bipush 20, 2), (39, .if_icmp .ne 8, 3), (42, .aload_n 0, 1), (43, .aload_n 1, 1), (44, .invokestatic 7, 3), (47, .return_, 1)]
set_option maxRecDepth 100000 in
theorem ev_d_154_1 : ∀ q ∈ ev_c_154_1, decode method_2_code q.1 = .ok (q.2.1, q.2.2) := by decide +kernel
def ev_c_154 : List (Nat × List (Nat × Instr × Nat)) := [(0, ev_c_154_0), (1, ev_c_154_1)]
set_option maxRecDepth 100000 in
theorem ev_d_154 : ∀ q ∈ ev_c_154, ∀ z ∈ q.2, decode method_2_code z.1 = .ok (z.2.1, z.2.2) := List.forall_mem_cons.mpr ⟨ev_d_154_0, List.forall_mem_cons.mpr ⟨ev_d_154_1, fun _ h => absurd h List.not_mem_nil⟩⟩
def ev_c_155_0 : List (Nat × Instr × Nat) := [(0, .aload_n 0, 1), (1, .aload_n 1, 1), (2, .iconst 0, 1), (3, .iaload, 1), (4, .aload_n 1, 1), (5, .iconst 1, 1), (6, .iaload, 1), (7, .aload_n 1, 1), (8, .iconst 2, 1), (9, .iaload, 1), (10, .aload_n 1, 1), (11, .iconst 3, 1), (12, .iaload, 1), (13, .aload_n 1, 1), (14, .iconst 4, 1), (15, .iaload, 1), (16, .invokevirtual 13, 3), (19, .istore_n 2, 1), (20, .aload_n 1, 1), (21, .iconst 5, 1), (22, .iconst 0, 1), (23, .iastore, 1), (24, .return_, 1)]
set_option maxRecDepth 100000 in
theorem ev_d_155_0 : ∀ q ∈ ev_c_155_0, decode method_3_code q.1 = .ok (q.2.1, q.2.2) := by decide +kernel
def ev_c_155 : List (Nat × List (Nat × Instr × Nat)) := [(0, ev_c_155_0)]
set_option maxRecDepth 100000 in
theorem ev_d_155 : ∀ q ∈ ev_c_155, ∀ z ∈ q.2, decode method_3_code z.1 = .ok (z.2.1, z.2.2) := List.forall_mem_cons.mpr ⟨ev_d_155_0, fun _ h => absurd h List.not_mem_nil⟩
def ev_c_156_0 : List (Nat × Instr × Nat) := [(0, .aload_n 1, 1), (1, .bipush 6, 2), (3, .iaload, 1), (4, .istore_n 2, 1), (5, .aload_n 1, 1), (6, .iconst 5, 1), (7, .iaload, 1), (8, .ifCond .le 13, 3), (11, .aload_n 0, 1), (12, .aload_n 1, 1), (13, .bipush 32, 2), (15, .invokestatic 21, 3), (18, .goto (-13), 3), (21, .aload_n 1, 1), (22, .bipush 6, 2), (24, .iconst 0, 1), (25, .iastore, 1), (26, .iload_n 2, 1), (27, .ireturn, 1)]
set_option maxRecDepth 100000 in
theorem ev_d_156_0 : ∀ q ∈ ev_c_156_0, decode method_5_code q.1 = .ok (q.2.1, q.2.2) := by decide +kernel
def ev_c_156 : List (Nat × List (Nat × Instr × Nat)) := [(0, ev_c_156_0)]
set_option maxRecDepth 100000 in
theorem ev_d_156 : ∀ q ∈ ev_c_156, ∀ z ∈ q.2, decode method_5_code z.1 = .ok (z.2.1, z.2.2) := List.forall_mem_cons.mpr ⟨ev_d_156_0, fun _ h => absurd h List.not_mem_nil⟩
def ev_c_157_0 : List (Nat × Instr × Nat) := [(0, .iload_n 1, 1), (1, .aload_n 0, 1), (2, .arraylength, 1), (3, .if_icmp .ge 9, 3), (6, .aload_n 0, 1), (7, .iload_n 1, 1), (8, .iaload, 1), (9, .goto 4, 3), (12, .iconst 0, 1), (13, .ireturn, 1)]
set_option maxRecDepth 100000 in
theorem ev_d_157_0 : ∀ q ∈ ev_c_157_0, decode method_7_code q.1 = .ok (q.2.1, q.2.2) := by decide +kernel
def ev_c_157 : List (Nat × List (Nat × Instr × Nat)) := [(0, ev_c_157_0)]
set_option maxRecDepth 100000 in
theorem ev_d_157 : ∀ q ∈ ev_c_157, ∀ z ∈ q.2, decode method_7_code z.1 = .ok (z.2.1, z.2.2) := List.forall_mem_cons.mpr ⟨ev_d_157_0, fun _ h => absurd h List.not_mem_nil⟩
def ev_c_158_0 : List (Nat × Instr × Nat) := [(0, .new 25, 3), (3, .dup, 1), (4, .invokespecial 27, 3), (7, .astore_n 1, 1), (8, .aload_n 0, 1), (9, .iconst 0, 1), (10, .invokestatic 28, 3), (13, .istore_n 2, 1), (14, .aload_n 1, 1), (15, .iconst 1, 1), (16, .iload_n 2, 1), (17, .iconst 3, 1), (18, .iand, 1), (19, .iadd, 1), (20, .putfield 32, 3), (23, .aload_n 1, 1), (24, .iconst 1, 1), (25, .iload_n 2, 1), (26, .iconst 2, 1), (27, .iushr, 1), (28, .iconst 3, 1), (29, .iand, 1), (30, .iadd, 1), (31, .newarray .int, 2)]
set_option maxRecDepth 100000 in
theorem ev_d_158_0 : ∀ q ∈ ev_c_158_0, decode method_8_code q.1 = .ok (q.2.1, q.2.2) := by decide +kernel
def ev_c_158_1 : List (Nat × Instr × Nat) := [(33, .putfield 36, 3), (36, .iconst 0, 1), (37, .istore_n 3, 1), (38, .iload_n 3, 1), (39, .aload_n 1, 1), (40, .getfield 36, 3), (43, .arraylength, 1), (44, .if_icmp .ge 29, 3), (47, .aload_n 1, 1), (48, .getfield 36, 3), (51, .iload_n 3, 1), (52, .aload_n 0, 1), (53, .iconst 1, 1), (54, .invokestatic 28, 3), (57, .iconst 3, 1), (58, .iload_n 3, 1), (59, .imul, 1), (60, .iushr, 1), (61, .bipush 7, 2), (63, .iand, 1)]
set_option maxRecDepth 100000 in
theorem ev_d_158_1 : ∀ q ∈ ev_c_158_1, decode method_8_code q.1 = .ok (q.2.1, q.2.2) := by decide +kernel
def ev_c_158_2 : List (Nat × Instr × Nat) := [(64, .iconst 5, 1), (65, .irem, 1), (66, .iastore, 1), (67, .iinc 3 1, 3), (70, .goto (-32), 3), (73, .aload_n 1, 1), (74, .iconst 1, 1), (75, .iload_n 2, 1), (76, .iconst 4, 1), (77, .iushr, 1), (78, .iconst 1, 1), (79, .iand, 1), (80, .iadd, 1), (81, .anewarray 40, 3), (84, .putfield 41, 3), (87, .iconst 0, 1), (88, .istore_n 3, 1), (89, .iload_n 3, 1), (90, .aload_n 1, 1), (91, .getfield 41, 3), (94, .arraylength, 1), (95, .if_icmp .ge 61, 3)]
set_option maxRecDepth 100000 in
theorem ev_d_158_2 : ∀ q ∈ ev_c_158_2, decode method_8_code q.1 = .ok (q.2.1, q.2.2) := by decide +kernel
def ev_c_158_3 : List (Nat × Instr × Nat) := [(98, .aload_n 0, 1), (99, .iconst 2, 1), (100, .iload_n 3, 1), (101, .iadd, 1), (102, .invokestatic 28, 3), (105, .istore 4, 2), (107, .aload_n 1, 1), (108, .getfield 41, 3), (111, .iload_n 3, 1), (112, .iconst 4, 1), (113, .newarray .int, 2), (115, .dup, 1), (116, .iconst 0, 1), (117, .iload 4, 2), (119, .bipush 7, 2), (121, .iand, 1), (122, .iastore, 1), (123, .dup, 1), (124, .iconst 1, 1), (125, .iconst 1, 1), (126, .iload 4, 2)]
set_option maxRecDepth 100000 in
theorem ev_d_158_3 : ∀ q ∈ ev_c_158_3, decode method_8_code q.1 = .ok (q.2.1, q.2.2) := by decide +kernel
def ev_c_158_4 : List (Nat × Instr × Nat) := [(128, .iconst 3, 1), (129, .iushr, 1), (130, .bipush 15, 2), (132, .iand, 1), (133, .iadd, 1), (134, .iastore, 1), (135, .dup, 1), (136, .iconst 2, 1), (137, .iload 4, 2), (139, .bipush 7, 2), (141, .iushr, 1), (142, .iconst 3, 1), (143, .iand, 1), (144, .iastore, 1), (145, .dup, 1), (146, .iconst 3, 1), (147, .iconst (-1), 1), (148, .iastore, 1), (149, .aastore, 1), (150, .iinc 3 1, 3), (153, .goto (-64), 3), (156, .aload_n 1, 1), (157, .iconst 1, 1), (158, .iload_n 2, 1), (159, .iconst 5, 1)]
set_option maxRecDepth 100000 in
theorem ev_d_158_4 : ∀ q ∈ ev_c_158_4, decode method_8_code q.1 = .ok (q.2.1, q.2.2) := by decide +kernel
def ev_c_158_5 : List (Nat × Instr × Nat) := [(160, .iushr, 1), (161, .iconst 1, 1), (162, .iand, 1), (163, .iadd, 1), (164, .newarray .int, 2), (166, .putfield 45, 3), (169, .iconst 0, 1), (170, .istore_n 3, 1), (171, .iload_n 3, 1), (172, .aload_n 1, 1), (173, .getfield 45, 3), (176, .arraylength, 1), (177, .if_icmp .ge 27, 3), (180, .aload_n 1, 1), (181, .getfield 45, 3), (184, .iload_n 3, 1), (185, .iconst 1, 1), (186, .iload_n 2, 1), (187, .bipush 6, 2), (189, .iconst 2, 1), (190, .iload_n 3, 1), (191, .imul, 1)]
set_option maxRecDepth 100000 in
theorem ev_d_158_5 : ∀ q ∈ ev_c_158_5, decode method_8_code q.1 = .ok (q.2.1, q.2.2) := by decide +kernel
def ev_c_158_6 : List (Nat × Instr × Nat) := [(192, .iadd, 1), (193, .iushr, 1), (194, .iconst 3, 1), (195, .iand, 1), (196, .iadd, 1), (197, .iastore, 1), (198, .iinc 3 1, 3), (201, .goto (-30), 3), (204, .aload_n 1, 1), (205, .iload_n 2, 1), (206, .bipush 10, 2), (208, .iushr, 1), (209, .bipush 15, 2), (211, .iand, 1), (212, .bipush 10, 2), (214, .irem, 1), (215, .putfield 48, 3), (218, .iconst 1, 1), (219, .iload_n 2, 1), (220, .bipush 14, 2), (222, .iushr, 1), (223, .iconst 3, 1)]
set_option maxRecDepth 100000 in
theorem ev_d_158_6 : ∀ q ∈ ev_c_158_6, decode method_8_code q.1 = .ok (q.2.1, q.2.2) := by decide +kernel
def ev_c_158_7 : List (Nat × Instr × Nat) := [(224, .iand, 1), (225, .iadd, 1), (226, .istore_n 3, 1), (227, .iconst 0, 1), (228, .istore 4, 2), (230, .iload 4, 2), (232, .iload_n 3, 1), (233, .if_icmp .ge 104, 3), (236, .aload_n 0, 1), (237, .iconst 4, 1), (238, .iload 4, 2), (240, .iadd, 1), (241, .invokestatic 28, 3), (244, .istore 5, 2), (246, .new 51, 3), (249, .dup, 1), (250, .invokespecial 53, 3), (253, .astore 6, 2), (255, .aload 6, 2)]
set_option maxRecDepth 100000 in
theorem ev_d_158_7 : ∀ q ∈ ev_c_158_7, decode method_8_code q.1 = .ok (q.2.1, q.2.2) := by decide +kernel
def ev_c_158_8 : List (Nat × Instr × Nat) := [(257, .iload 5, 2), (259, .iconst 1, 1), (260, .iand, 1), (261, .aload_n 1, 1), (262, .getfield 41, 3), (265, .arraylength, 1), (266, .irem, 1), (267, .putfield 54, 3), (270, .aload 6, 2), (272, .iconst 1, 1), (273, .iload 5, 2), (275, .iconst 1, 1), (276, .iushr, 1), (277, .bipush 15, 2), (279, .iand, 1), (280, .iconst 1, 1), (281, .aload_n 1, 1), (282, .getfield 36, 3), (285, .arraylength, 1), (286, .ishl, 1), (287, .iconst 1, 1)]
set_option maxRecDepth 100000 in
theorem ev_d_158_8 : ∀ q ∈ ev_c_158_8, decode method_8_code q.1 = .ok (q.2.1, q.2.2) := by decide +kernel
def ev_c_158_9 : List (Nat × Instr × Nat) := [(288, .isub, 1), (289, .irem, 1), (290, .iadd, 1), (291, .putfield 57, 3), (294, .aload 6, 2), (296, .iload 5, 2), (298, .iconst 5, 1), (299, .iushr, 1), (300, .iconst 3, 1), (301, .iand, 1), (302, .putfield 60, 3), (305, .aload 6, 2), (307, .iload 5, 2), (309, .bipush 7, 2), (311, .iushr, 1), (312, .bipush 7, 2), (314, .iand, 1), (315, .bipush 6, 2), (317, .irem, 1), (318, .putfield 63, 3)]
set_option maxRecDepth 100000 in
theorem ev_d_158_9 : ∀ q ∈ ev_c_158_9, decode method_8_code q.1 = .ok (q.2.1, q.2.2) := by decide +kernel
def ev_c_158_10 : List (Nat × Instr × Nat) := [(321, .aload_n 1, 1), (322, .getfield 66, 3), (325, .aload 6, 2), (327, .invokevirtual 70, 3), (330, .pop, 1), (331, .iinc 4 1, 3), (334, .goto (-104), 3), (337, .aload_n 1, 1), (338, .areturn, 1)]
set_option maxRecDepth 100000 in
theorem ev_d_158_10 : ∀ q ∈ ev_c_158_10, decode method_8_code q.1 = .ok (q.2.1, q.2.2) := by decide +kernel
def ev_c_158 : List (Nat × List (Nat × Instr × Nat)) := [(0, ev_c_158_0), (1, ev_c_158_1), (2, ev_c_158_2), (3, ev_c_158_3), (4, ev_c_158_4), (5, ev_c_158_5), (6, ev_c_158_6), (7, ev_c_158_7), (8, ev_c_158_8), (9, ev_c_158_9), (10, ev_c_158_10)]
set_option maxRecDepth 100000 in
theorem ev_d_158 : ∀ q ∈ ev_c_158, ∀ z ∈ q.2, decode method_8_code z.1 = .ok (z.2.1, z.2.2) := List.forall_mem_cons.mpr ⟨ev_d_158_0, List.forall_mem_cons.mpr ⟨ev_d_158_1, List.forall_mem_cons.mpr ⟨ev_d_158_2, List.forall_mem_cons.mpr ⟨ev_d_158_3, List.forall_mem_cons.mpr ⟨ev_d_158_4, List.forall_mem_cons.mpr ⟨ev_d_158_5, List.forall_mem_cons.mpr ⟨ev_d_158_6, List.forall_mem_cons.mpr ⟨ev_d_158_7, List.forall_mem_cons.mpr ⟨ev_d_158_8, List.forall_mem_cons.mpr ⟨ev_d_158_9, List.forall_mem_cons.mpr ⟨ev_d_158_10, fun _ h => absurd h List.not_mem_nil⟩⟩⟩⟩⟩⟩⟩⟩⟩⟩⟩
def ev_c_159_0 : List (Nat × Instr × Nat) := [(0, .new 76, 3), (3, .dup, 1), (4, .ldc 78, 2), (6, .invokespecial 80, 3), (9, .aload_n 0, 1), (10, .getfield 32, 3), (13, .invokevirtual 83, 3), (16, .astore_n 1, 1), (17, .iconst 0, 1), (18, .istore_n 2, 1), (19, .iload_n 2, 1), (20, .aload_n 0, 1), (21, .getfield 36, 3), (24, .arraylength, 1), (25, .if_icmp .ge 25, 3), (28, .aload_n 1, 1), (29, .ldc 86, 2), (31, .invokevirtual 88, 3)]
set_option maxRecDepth 100000 in
theorem ev_d_159_0 : ∀ q ∈ ev_c_159_0, decode method_9_code q.1 = .ok (q.2.1, q.2.2) := by decide +kernel
def ev_c_159_1 : List (Nat × Instr × Nat) := [(34, .aload_n 0, 1), (35, .getfield 36, 3), (38, .iload_n 2, 1), (39, .iaload, 1), (40, .invokevirtual 83, 3), (43, .pop, 1), (44, .iinc 2 1, 3), (47, .goto (-28), 3), (50, .iconst 0, 1), (51, .istore_n 2, 1), (52, .iload_n 2, 1), (53, .aload_n 0, 1), (54, .getfield 41, 3), (57, .arraylength, 1), (58, .if_icmp .ge 59, 3), (61, .aload_n 1, 1), (62, .ldc 91, 2)]
set_option maxRecDepth 100000 in
theorem ev_d_159_1 : ∀ q ∈ ev_c_159_1, decode method_9_code q.1 = .ok (q.2.1, q.2.2) := by decide +kernel
def ev_c_159_2 : List (Nat × Instr × Nat) := [(64, .invokevirtual 88, 3), (67, .aload_n 0, 1), (68, .getfield 41, 3), (71, .iload_n 2, 1), (72, .aaload, 1), (73, .iconst 0, 1), (74, .iaload, 1), (75, .invokevirtual 83, 3), (78, .bipush 32, 2), (80, .invokevirtual 93, 3), (83, .aload_n 0, 1), (84, .getfield 41, 3), (87, .iload_n 2, 1), (88, .aaload, 1), (89, .iconst 1, 1), (90, .iaload, 1), (91, .invokevirtual 83, 3), (94, .bipush 32, 2)]
set_option maxRecDepth 100000 in
theorem ev_d_159_2 : ∀ q ∈ ev_c_159_2, decode method_9_code q.1 = .ok (q.2.1, q.2.2) := by decide +kernel
def ev_c_159_3 : List (Nat × Instr × Nat) := [(96, .invokevirtual 93, 3), (99, .aload_n 0, 1), (100, .getfield 41, 3), (103, .iload_n 2, 1), (104, .aaload, 1), (105, .iconst 2, 1), (106, .iaload, 1), (107, .invokevirtual 83, 3), (110, .pop, 1), (111, .iinc 2 1, 3), (114, .goto (-62), 3), (117, .iconst 0, 1), (118, .istore_n 2, 1), (119, .iload_n 2, 1), (120, .aload_n 0, 1), (121, .getfield 45, 3), (124, .arraylength, 1), (125, .if_icmp .ge 25, 3)]
set_option maxRecDepth 100000 in
theorem ev_d_159_3 : ∀ q ∈ ev_c_159_3, decode method_9_code q.1 = .ok (q.2.1, q.2.2) := by decide +kernel
def ev_c_159_4 : List (Nat × Instr × Nat) := [(128, .aload_n 1, 1), (129, .ldc 96, 2), (131, .invokevirtual 88, 3), (134, .aload_n 0, 1), (135, .getfield 45, 3), (138, .iload_n 2, 1), (139, .iaload, 1), (140, .invokevirtual 83, 3), (143, .pop, 1), (144, .iinc 2 1, 3), (147, .goto (-28), 3), (150, .iconst 0, 1), (151, .istore_n 2, 1), (152, .iload_n 2, 1), (153, .aload_n 0, 1), (154, .getfield 66, 3), (157, .invokevirtual 98, 3)]
set_option maxRecDepth 100000 in
theorem ev_d_159_4 : ∀ q ∈ ev_c_159_4, decode method_9_code q.1 = .ok (q.2.1, q.2.2) := by decide +kernel
def ev_c_159_5 : List (Nat × Instr × Nat) := [(160, .if_icmp .ge 103, 3), (163, .aload_n 0, 1), (164, .getfield 66, 3), (167, .iload_n 2, 1), (168, .invokevirtual 102, 3), (171, .checkcast 51, 3), (174, .astore_n 3, 1), (175, .aload_n 1, 1), (176, .ldc 106, 2), (178, .invokevirtual 88, 3), (181, .aload_n 3, 1), (182, .getfield 54, 3), (185, .invokevirtual 83, 3), (188, .bipush 32, 2), (190, .invokevirtual 93, 3)]
set_option maxRecDepth 100000 in
theorem ev_d_159_5 : ∀ q ∈ ev_c_159_5, decode method_9_code q.1 = .ok (q.2.1, q.2.2) := by decide +kernel
def ev_c_159_6 : List (Nat × Instr × Nat) := [(193, .aload_n 3, 1), (194, .getfield 60, 3), (197, .invokevirtual 83, 3), (200, .bipush 32, 2), (202, .invokevirtual 93, 3), (205, .aload_n 3, 1), (206, .getfield 63, 3), (209, .invokevirtual 83, 3), (212, .pop, 1), (213, .iconst 0, 1), (214, .istore 4, 2), (216, .iload 4, 2), (218, .aload_n 0, 1), (219, .getfield 36, 3), (222, .arraylength, 1), (223, .if_icmp .ge 34, 3)]
set_option maxRecDepth 100000 in
theorem ev_d_159_6 : ∀ q ∈ ev_c_159_6, decode method_9_code q.1 = .ok (q.2.1, q.2.2) := by decide +kernel
def ev_c_159_7 : List (Nat × Instr × Nat) := [(226, .aload_n 3, 1), (227, .getfield 57, 3), (230, .iload 4, 2), (232, .ishr, 1), (233, .iconst 1, 1), (234, .iand, 1), (235, .iconst 1, 1), (236, .if_icmp .ne 15, 3), (239, .aload_n 1, 1), (240, .bipush 32, 2), (242, .invokevirtual 93, 3), (245, .iload 4, 2), (247, .invokevirtual 83, 3), (250, .pop, 1), (251, .iinc 4 1, 3), (254, .goto (-38), 3)]
set_option maxRecDepth 100000 in
theorem ev_d_159_7 : ∀ q ∈ ev_c_159_7, decode method_9_code q.1 = .ok (q.2.1, q.2.2) := by decide +kernel
def ev_c_159_8 : List (Nat × Instr × Nat) := [(257, .iinc 2 1, 3), (260, .goto (-108), 3), (263, .aload_n 1, 1), (264, .ldc 108, 2), (266, .invokevirtual 88, 3), (269, .aload_n 0, 1), (270, .getfield 48, 3), (273, .invokevirtual 83, 3), (276, .pop, 1), (277, .iconst 0, 1), (278, .istore_n 2, 1), (279, .iload_n 2, 1), (280, .aload_n 0, 1), (281, .getfield 66, 3), (284, .invokevirtual 98, 3), (287, .if_icmp .ge 87, 3)]
set_option maxRecDepth 100000 in
theorem ev_d_159_8 : ∀ q ∈ ev_c_159_8, decode method_9_code q.1 = .ok (q.2.1, q.2.2) := by decide +kernel
def ev_c_159_9 : List (Nat × Instr × Nat) := [(290, .iload_n 2, 1), (291, .iconst 2, 1), (292, .if_icmp .ge 82, 3), (295, .aload_n 0, 1), (296, .iconst 0, 1), (297, .invokevirtual 110, 3), (300, .aload_n 0, 1), (301, .getfield 45, 3), (304, .iconst 0, 1), (305, .iaload, 1), (306, .if_icmp .ne 6, 3), (309, .goto 59, 3), (312, .aload_n 1, 1), (313, .ldc 114, 2), (315, .invokevirtual 88, 3), (318, .iload_n 2, 1), (319, .invokevirtual 83, 3)]
set_option maxRecDepth 100000 in
theorem ev_d_159_9 : ∀ q ∈ ev_c_159_9, decode method_9_code q.1 = .ok (q.2.1, q.2.2) := by decide +kernel
def ev_c_159_10 : List (Nat × Instr × Nat) := [(322, .ldc 116, 2), (324, .invokevirtual 88, 3), (327, .pop, 1), (328, .aload_n 0, 1), (329, .getfield 66, 3), (332, .iload_n 2, 1), (333, .invokevirtual 102, 3), (336, .checkcast 51, 3), (339, .iconst 0, 1), (340, .putfield 118, 3), (343, .aload_n 0, 1), (344, .getfield 66, 3), (347, .iload_n 2, 1), (348, .invokevirtual 102, 3), (351, .checkcast 51, 3)]
set_option maxRecDepth 100000 in
theorem ev_d_159_10 : ∀ q ∈ ev_c_159_10, decode method_9_code q.1 = .ok (q.2.1, q.2.2) := by decide +kernel
def ev_c_159_11 : List (Nat × Instr × Nat) := [(354, .aload_n 0, 1), (355, .dup, 1), (356, .getfield 121, 3), (359, .dup_x1, 1), (360, .iconst 1, 1), (361, .iadd, 1), (362, .putfield 121, 3), (365, .putfield 124, 3), (368, .iinc 2 1, 3), (371, .goto (-92), 3), (374, .aload_n 1, 1), (375, .ldc 127, 2), (377, .invokevirtual 88, 3), (380, .pop, 1), (381, .aload_n 0, 1), (382, .iconst 0, 1), (383, .iconst 0, 1)]
set_option maxRecDepth 100000 in
theorem ev_d_159_11 : ∀ q ∈ ev_c_159_11, decode method_9_code q.1 = .ok (q.2.1, q.2.2) := by decide +kernel
def ev_c_159_12 : List (Nat × Instr × Nat) := [(384, .invokevirtual 129, 3), (387, .istore_n 2, 1), (388, .aload_n 1, 1), (389, .invokevirtual 133, 3), (392, .areturn, 1)]
set_option maxRecDepth 100000 in
theorem ev_d_159_12 : ∀ q ∈ ev_c_159_12, decode method_9_code q.1 = .ok (q.2.1, q.2.2) := by decide +kernel
def ev_c_159 : List (Nat × List (Nat × Instr × Nat)) := [(0, ev_c_159_0), (1, ev_c_159_1), (2, ev_c_159_2), (3, ev_c_159_3), (4, ev_c_159_4), (5, ev_c_159_5), (6, ev_c_159_6), (7, ev_c_159_7), (8, ev_c_159_8), (9, ev_c_159_9), (10, ev_c_159_10), (11, ev_c_159_11), (12, ev_c_159_12)]
set_option maxRecDepth 100000 in
theorem ev_d_159 : ∀ q ∈ ev_c_159, ∀ z ∈ q.2, decode method_9_code z.1 = .ok (z.2.1, z.2.2) := List.forall_mem_cons.mpr ⟨ev_d_159_0, List.forall_mem_cons.mpr ⟨ev_d_159_1, List.forall_mem_cons.mpr ⟨ev_d_159_2, List.forall_mem_cons.mpr ⟨ev_d_159_3, List.forall_mem_cons.mpr ⟨ev_d_159_4, List.forall_mem_cons.mpr ⟨ev_d_159_5, List.forall_mem_cons.mpr ⟨ev_d_159_6, List.forall_mem_cons.mpr ⟨ev_d_159_7, List.forall_mem_cons.mpr ⟨ev_d_159_8, List.forall_mem_cons.mpr ⟨ev_d_159_9, List.forall_mem_cons.mpr ⟨ev_d_159_10, List.forall_mem_cons.mpr ⟨ev_d_159_11, List.forall_mem_cons.mpr ⟨ev_d_159_12, fun _ h => absurd h List.not_mem_nil⟩⟩⟩⟩⟩⟩⟩⟩⟩⟩⟩⟩⟩
def ev_c_160_0 : List (Nat × Instr × Nat) := [(0, .iconst 0, 1), (1, .istore_n 3, 1), (2, .iload_n 3, 1), (3, .aload_n 2, 1), (4, .invokeinterface 137 1, 5), (9, .if_icmp .ge 21, 3), (12, .aload_n 0, 1), (13, .aload_n 1, 1), (14, .aload_n 2, 1), (15, .iload_n 3, 1), (16, .invokeinterface 142 2, 5), (21, .invokestatic 21, 3), (24, .iinc 3 1, 3), (27, .goto (-25), 3), (30, .aload_n 0, 1), (31, .aload_n 1, 1)]
set_option maxRecDepth 100000 in
theorem ev_d_160_0 : ∀ q ∈ ev_c_160_0, decode method_10_code q.1 = .ok (q.2.1, q.2.2) := by decide +kernel
def ev_c_160_1 : List (Nat × Instr × Nat) := [(32, .invokestatic 146, 3), (35, .ireturn, 1)]
set_option maxRecDepth 100000 in
theorem ev_d_160_1 : ∀ q ∈ ev_c_160_1, decode method_10_code q.1 = .ok (q.2.1, q.2.2) := by decide +kernel
def ev_c_160 : List (Nat × List (Nat × Instr × Nat)) := [(0, ev_c_160_0), (1, ev_c_160_1)]
set_option maxRecDepth 100000 in
theorem ev_d_160 : ∀ q ∈ ev_c_160, ∀ z ∈ q.2, decode method_10_code z.1 = .ok (z.2.1, z.2.2) := List.forall_mem_cons.mpr ⟨ev_d_160_0, List.forall_mem_cons.mpr ⟨ev_d_160_1, fun _ h => absurd h List.not_mem_nil⟩⟩
def ev_c_161_0 : List (Nat × Instr × Nat) := [(0, .iconst 0, 1), (1, .istore_n 1, 1), (2, .iload_n 1, 1), (3, .aload_n 0, 1), (4, .iconst 4, 1), (5, .invokevirtual 200, 3), (8, .if_icmp .ge 72, 3), (11, .aload_n 0, 1), (12, .iload_n 1, 1), (13, .iconst 1, 1), (14, .invokevirtual 177, 3), (17, .aload_n 0, 1), (18, .iload_n 1, 1), (19, .bipush 6, 2), (21, .invokevirtual 177, 3), (24, .iand, 1), (25, .ifCond .eq 5, 3), (28, .iconst 0, 1), (29, .ireturn, 1), (30, .aload_n 0, 1), (31, .iload_n 1, 1)]
set_option maxRecDepth 100000 in
theorem ev_d_161_0 : ∀ q ∈ ev_c_161_0, decode method_13_code q.1 = .ok (q.2.1, q.2.2) := by decide +kernel
def ev_c_161_1 : List (Nat × Instr × Nat) := [(32, .bipush 8, 2), (34, .invokevirtual 177, 3), (37, .iconst 3, 1), (38, .if_icmp .ne 36, 3), (41, .aload_n 0, 1), (42, .iload_n 1, 1), (43, .iconst 3, 1), (44, .invokevirtual 177, 3), (47, .aload_n 0, 1), (48, .iload_n 1, 1), (49, .iconst 4, 1), (50, .invokevirtual 177, 3), (53, .iadd, 1), (54, .aload_n 0, 1), (55, .iload_n 1, 1), (56, .iconst 5, 1), (57, .invokevirtual 177, 3), (60, .iadd, 1), (61, .aload_n 0, 1), (62, .iload_n 1, 1), (63, .bipush 6, 2)]
set_option maxRecDepth 100000 in
theorem ev_d_161_1 : ∀ q ∈ ev_c_161_1, decode method_13_code q.1 = .ok (q.2.1, q.2.2) := by decide +kernel
def ev_c_161_2 : List (Nat × Instr × Nat) := [(65, .invokevirtual 177, 3), (68, .iadd, 1), (69, .ifCond .eq 5, 3), (72, .iconst 0, 1), (73, .ireturn, 1), (74, .iinc 1 1, 3), (77, .goto (-75), 3), (80, .iconst 1, 1), (81, .ireturn, 1)]
set_option maxRecDepth 100000 in
theorem ev_d_161_2 : ∀ q ∈ ev_c_161_2, decode method_13_code q.1 = .ok (q.2.1, q.2.2) := by decide +kernel
def ev_c_161 : List (Nat × List (Nat × Instr × Nat)) := [(0, ev_c_161_0), (1, ev_c_161_1), (2, ev_c_161_2)]
set_option maxRecDepth 100000 in
theorem ev_d_161 : ∀ q ∈ ev_c_161, ∀ z ∈ q.2, decode method_13_code z.1 = .ok (z.2.1, z.2.2) := List.forall_mem_cons.mpr ⟨ev_d_161_0, List.forall_mem_cons.mpr ⟨ev_d_161_1, List.forall_mem_cons.mpr ⟨ev_d_161_2, fun _ h => absurd h List.not_mem_nil⟩⟩⟩
def ev_c_162_0 : List (Nat × Instr × Nat) := [(0, .aload_n 1, 1), (1, .lconst 0, 1), (2, .invokestatic 316, 3), (5, .iconst 0, 1), (6, .istore_n 2, 1), (7, .iload_n 2, 1), (8, .bipush 16, 2), (10, .if_icmp .ge 18, 3), (13, .aload_n 1, 1), (14, .iload_n 2, 1), (15, .aload_n 0, 1), (16, .iload_n 2, 1), (17, .invokevirtual 200, 3), (20, .i2l, 1), (21, .lastore, 1), (22, .iinc 2 1, 3), (25, .goto (-18), 3), (28, .iconst 0, 1), (29, .istore_n 2, 1), (30, .iload_n 2, 1), (31, .aload_n 0, 1)]
set_option maxRecDepth 100000 in
theorem ev_d_162_0 : ∀ q ∈ ev_c_162_0, decode method_14_code q.1 = .ok (q.2.1, q.2.2) := by decide +kernel
def ev_c_162_1 : List (Nat × Instr × Nat) := [(32, .iconst 4, 1), (33, .invokevirtual 200, 3), (36, .if_icmp .ge 47, 3), (39, .iconst 0, 1), (40, .istore_n 3, 1), (41, .iload_n 3, 1), (42, .bipush 10, 2), (44, .if_icmp .ge 33, 3), (47, .aload_n 1, 1), (48, .bipush 20, 2), (50, .iload_n 2, 1), (51, .iadd, 1), (52, .ldc2_w 320, 3), (55, .aload_n 1, 1), (56, .bipush 20, 2), (58, .iload_n 2, 1), (59, .iadd, 1), (60, .laload, 1), (61, .lmul, 1), (62, .aload_n 0, 1), (63, .iload_n 2, 1)]
set_option maxRecDepth 100000 in
theorem ev_d_162_1 : ∀ q ∈ ev_c_162_1, decode method_14_code q.1 = .ok (q.2.1, q.2.2) := by decide +kernel
def ev_c_162_2 : List (Nat × Instr × Nat) := [(64, .iload_n 3, 1), (65, .invokevirtual 177, 3), (68, .i2l, 1), (69, .ladd, 1), (70, .lastore, 1), (71, .iinc 3 1, 3), (74, .goto (-33), 3), (77, .iinc 2 1, 3), (80, .goto (-50), 3), (83, .iconst 0, 1), (84, .istore_n 2, 1), (85, .iload_n 2, 1), (86, .aload_n 0, 1), (87, .iconst 1, 1), (88, .invokevirtual 200, 3), (91, .if_icmp .ge 47, 3), (94, .iconst 0, 1), (95, .istore_n 3, 1)]
set_option maxRecDepth 100000 in
theorem ev_d_162_2 : ∀ q ∈ ev_c_162_2, decode method_14_code q.1 = .ok (q.2.1, q.2.2) := by decide +kernel
def ev_c_162_3 : List (Nat × Instr × Nat) := [(96, .iload_n 3, 1), (97, .bipush 7, 2), (99, .if_icmp .ge 33, 3), (102, .aload_n 1, 1), (103, .bipush 40, 2), (105, .iload_n 2, 1), (106, .iadd, 1), (107, .ldc2_w 320, 3), (110, .aload_n 1, 1), (111, .bipush 40, 2), (113, .iload_n 2, 1), (114, .iadd, 1), (115, .laload, 1), (116, .lmul, 1), (117, .aload_n 0, 1), (118, .iload_n 2, 1), (119, .iload_n 3, 1), (120, .invokevirtual 183, 3), (123, .i2l, 1), (124, .ladd, 1), (125, .lastore, 1), (126, .iinc 3 1, 3)]
set_option maxRecDepth 100000 in
theorem ev_d_162_3 : ∀ q ∈ ev_c_162_3, decode method_14_code q.1 = .ok (q.2.1, q.2.2) := by decide +kernel
def ev_c_162_4 : List (Nat × Instr × Nat) := [(129, .goto (-33), 3), (132, .iinc 2 1, 3), (135, .goto (-50), 3), (138, .iconst 0, 1), (139, .istore_n 2, 1), (140, .iload_n 2, 1), (141, .aload_n 0, 1), (142, .iconst 2, 1), (143, .invokevirtual 200, 3), (146, .if_icmp .ge 47, 3), (149, .iconst 0, 1), (150, .istore_n 3, 1), (151, .iload_n 3, 1), (152, .bipush 6, 2), (154, .if_icmp .ge 33, 3), (157, .aload_n 1, 1), (158, .bipush 50, 2)]
set_option maxRecDepth 100000 in
theorem ev_d_162_4 : ∀ q ∈ ev_c_162_4, decode method_14_code q.1 = .ok (q.2.1, q.2.2) := by decide +kernel
def ev_c_162_5 : List (Nat × Instr × Nat) := [(160, .iload_n 2, 1), (161, .iadd, 1), (162, .ldc2_w 320, 3), (165, .aload_n 1, 1), (166, .bipush 50, 2), (168, .iload_n 2, 1), (169, .iadd, 1), (170, .laload, 1), (171, .lmul, 1), (172, .aload_n 0, 1), (173, .iload_n 2, 1), (174, .iload_n 3, 1), (175, .invokevirtual 240, 3), (178, .i2l, 1), (179, .ladd, 1), (180, .lastore, 1), (181, .iinc 3 1, 3), (184, .goto (-33), 3), (187, .iinc 2 1, 3), (190, .goto (-50), 3)]
set_option maxRecDepth 100000 in
theorem ev_d_162_5 : ∀ q ∈ ev_c_162_5, decode method_14_code q.1 = .ok (q.2.1, q.2.2) := by decide +kernel
def ev_c_162_6 : List (Nat × Instr × Nat) := [(193, .return_, 1)]
set_option maxRecDepth 100000 in
theorem ev_d_162_6 : ∀ q ∈ ev_c_162_6, decode method_14_code q.1 = .ok (q.2.1, q.2.2) := by decide +kernel
def ev_c_162 : List (Nat × List (Nat × Instr × Nat)) := [(0, ev_c_162_0), (1, ev_c_162_1), (2, ev_c_162_2), (3, ev_c_162_3), (4, ev_c_162_4), (5, ev_c_162_5), (6, ev_c_162_6)]
set_option maxRecDepth 100000 in
theorem ev_d_162 : ∀ q ∈ ev_c_162, ∀ z ∈ q.2, decode method_14_code z.1 = .ok (z.2.1, z.2.2) := List.forall_mem_cons.mpr ⟨ev_d_162_0, List.forall_mem_cons.mpr ⟨ev_d_162_1, List.forall_mem_cons.mpr ⟨ev_d_162_2, List.forall_mem_cons.mpr ⟨ev_d_162_3, List.forall_mem_cons.mpr ⟨ev_d_162_4, List.forall_mem_cons.mpr ⟨ev_d_162_5, List.forall_mem_cons.mpr ⟨ev_d_162_6, fun _ h => absurd h List.not_mem_nil⟩⟩⟩⟩⟩⟩⟩
def ev_c_163_0 : List (Nat × Instr × Nat) := [(0, .aload_n 0, 1), (1, .invokespecial 1, 3), (4, .aload_n 0, 1), (5, .getstatic 39, 3), (8, .putfield 9, 3), (11, .return_, 1)]
set_option maxRecDepth 100000 in
theorem ev_d_163_0 : ∀ q ∈ ev_c_163_0, decode prog_39_method_2_code q.1 = .ok (q.2.1, q.2.2) := by decide +kernel
def ev_c_163 : List (Nat × List (Nat × Instr × Nat)) := [(0, ev_c_163_0)]
set_option maxRecDepth 100000 in
theorem ev_d_163 : ∀ q ∈ ev_c_163, ∀ z ∈ q.2, decode prog_39_method_2_code z.1 = .ok (z.2.1, z.2.2) := List.forall_mem_cons.mpr ⟨ev_d_163_0, fun _ h => absurd h List.not_mem_nil⟩
def ev_c_164_0 : List (Nat × Instr × Nat) := [(0, .aload_n 0, 1), (1, .dup, 1), (2, .getfield 63, 3), (5, .iconst 1, 1), (6, .iadd, 1), (7, .putfield 63, 3), (10, .aload_n 0, 1), (11, .aload_n 1, 1), (12, .aload_n 0, 1), (13, .getfield 9, 3), (16, .aload_n 0, 1), (17, .getfield 48, 3), (20, .invokevirtual 131, 3), (23, .iconst 1, 1), (24, .ireturn, 1)]
set_option maxRecDepth 100000 in
theorem ev_d_164_0 : ∀ q ∈ ev_c_164_0, decode prog_39_method_25_code q.1 = .ok (q.2.1, q.2.2) := by decide +kernel
def ev_c_164 : List (Nat × List (Nat × Instr × Nat)) := [(0, ev_c_164_0)]
set_option maxRecDepth 100000 in
theorem ev_d_164 : ∀ q ∈ ev_c_164, ∀ z ∈ q.2, decode prog_39_method_25_code z.1 = .ok (z.2.1, z.2.2) := List.forall_mem_cons.mpr ⟨ev_d_164_0, fun _ h => absurd h List.not_mem_nil⟩
def ev_c_165_0 : List (Nat × Instr × Nat) := [(0, .iload_n 3, 1), (1, .aload_n 2, 1), (2, .arraylength, 1), (3, .if_icmp .ne 8, 3), (6, .aload_n 0, 1), (7, .invokevirtual 129, 3), (10, .astore_n 2, 1), (11, .aload_n 2, 1), (12, .iload_n 3, 1), (13, .aload_n 1, 1), (14, .aastore, 1), (15, .aload_n 0, 1), (16, .iload_n 3, 1), (17, .iconst 1, 1), (18, .iadd, 1), (19, .putfield 48, 3), (22, .return_, 1)]
set_option maxRecDepth 100000 in
theorem ev_d_165_0 : ∀ q ∈ ev_c_165_0, decode prog_39_method_24_code q.1 = .ok (q.2.1, q.2.2) := by decide +kernel
def ev_c_165 : List (Nat × List (Nat × Instr × Nat)) := [(0, ev_c_165_0)]
set_option maxRecDepth 100000 in
theorem ev_d_165 : ∀ q ∈ ev_c_165, ∀ z ∈ q.2, decode prog_39_method_24_code z.1 = .ok (z.2.1, z.2.2) := List.forall_mem_cons.mpr ⟨ev_d_165_0, fun _ h => absurd h List.not_mem_nil⟩
def ev_c_166_0 : List (Nat × Instr × Nat) := [(0, .aload_n 0, 1), (1, .aload_n 0, 1), (2, .getfield 48, 3), (5, .iconst 1, 1), (6, .iadd, 1), (7, .invokevirtual 69, 3), (10, .areturn, 1)]
set_option maxRecDepth 100000 in
theorem ev_d_166_0 : ∀ q ∈ ev_c_166_0, decode prog_39_method_7_code q.1 = .ok (q.2.1, q.2.2) := by decide +kernel
def ev_c_166 : List (Nat × List (Nat × Instr × Nat)) := [(0, ev_c_166_0)]
set_option maxRecDepth 100000 in
theorem ev_d_166 : ∀ q ∈ ev_c_166, ∀ z ∈ q.2, decode prog_39_method_7_code z.1 = .ok (z.2.1, z.2.2) := List.forall_mem_cons.mpr ⟨ev_d_166_0, fun _ h => absurd h List.not_mem_nil⟩
def ev_c_167_0 : List (Nat × Instr × Nat) := [(0, .aload_n 0, 1), (1, .getfield 9, 3), (4, .arraylength, 1), (5, .istore_n 2, 1), (6, .iload_n 2, 1), (7, .ifCond .gt 13, 3), (10, .aload_n 0, 1), (11, .getfield 9, 3), (14, .getstatic 39, 3), (17, .if_acmp .eq 28, 3), (20, .iload_n 2, 1), (21, .iload_n 1, 1), (22, .iload_n 2, 1), (23, .isub, 1), (24, .iload_n 2, 1), (25, .iconst 1, 1), (26, .ishr, 1), (27, .invokestatic 73, 3), (30, .istore_n 3, 1), (31, .aload_n 0, 1)]
set_option maxRecDepth 100000 in
theorem ev_d_167_0 : ∀ q ∈ ev_c_167_0, decode prog_39_method_6_code q.1 = .ok (q.2.1, q.2.2) := by decide +kernel
def ev_c_167_1 : List (Nat × Instr × Nat) := [(32, .aload_n 0, 1), (33, .getfield 9, 3), (36, .iload_n 3, 1), (37, .invokestatic 66, 3), (40, .dup_x1, 1), (41, .putfield 9, 3), (44, .areturn, 1), (45, .aload_n 0, 1), (46, .bipush 10, 2), (48, .iload_n 1, 1), (49, .invokestatic 79, 3), (52, .anewarray 7, 3), (55, .dup_x1, 1), (56, .putfield 9, 3), (59, .areturn, 1)]
set_option maxRecDepth 100000 in
theorem ev_d_167_1 : ∀ q ∈ ev_c_167_1, decode prog_39_method_6_code q.1 = .ok (q.2.1, q.2.2) := by decide +kernel
def ev_c_167 : List (Nat × List (Nat × Instr × Nat)) := [(0, ev_c_167_0), (1, ev_c_167_1)]
set_option maxRecDepth 100000 in
theorem ev_d_167 : ∀ q ∈ ev_c_167, ∀ z ∈ q.2, decode prog_39_method_6_code z.1 = .ok (z.2.1, z.2.2) := List.forall_mem_cons.mpr ⟨ev_d_167_0, List.forall_mem_cons.mpr ⟨ev_d_167_1, fun _ h => absurd h List.not_mem_nil⟩⟩
def ev_c_168_0 : List (Nat × Instr × Nat) := [(0, .iload_n 1, 1), (1, .aload_n 0, 1), (2, .getfield 48, 3), (5, .invokestatic 118, 3), (8, .pop, 1), (9, .aload_n 0, 1), (10, .iload_n 1, 1), (11, .invokevirtual 123, 3), (14, .areturn, 1)]
set_option maxRecDepth 100000 in
theorem ev_d_168_0 : ∀ q ∈ ev_c_168_0, decode prog_39_method_20_code q.1 = .ok (q.2.1, q.2.2) := by decide +kernel
def ev_c_168 : List (Nat × List (Nat × Instr × Nat)) := [(0, ev_c_168_0)]
set_option maxRecDepth 100000 in
theorem ev_d_168 : ∀ q ∈ ev_c_168, ∀ z ∈ q.2, decode prog_39_method_20_code z.1 = .ok (z.2.1, z.2.2) := List.forall_mem_cons.mpr ⟨ev_d_168_0, fun _ h => absurd h List.not_mem_nil⟩
def ev_c_169_0 : List (Nat × Instr × Nat) := [(0, .aload_n 0, 1), (1, .getfield 9, 3), (4, .iload_n 1, 1), (5, .aaload, 1), (6, .areturn, 1)]
set_option maxRecDepth 100000 in
theorem ev_d_169_0 : ∀ q ∈ ev_c_169_0, decode prog_39_method_18_code q.1 = .ok (q.2.1, q.2.2) := by decide +kernel
def ev_c_169 : List (Nat × List (Nat × Instr × Nat)) := [(0, ev_c_169_0)]
set_option maxRecDepth 100000 in
theorem ev_d_169 : ∀ q ∈ ev_c_169, ∀ z ∈ q.2, decode prog_39_method_18_code z.1 = .ok (z.2.1, z.2.2) := List.forall_mem_cons.mpr ⟨ev_d_169_0, fun _ h => absurd h List.not_mem_nil⟩
def ev_c_170_0 : List (Nat × Instr × Nat) := [(0, .aload_n 0, 1), (1, .getfield 48, 3), (4, .ireturn, 1)]
set_option maxRecDepth 100000 in
theorem ev_d_170_0 : ∀ q ∈ ev_c_170_0, decode prog_39_method_8_code q.1 = .ok (q.2.1, q.2.2) := by decide +kernel
def ev_c_170 : List (Nat × List (Nat × Instr × Nat)) := [(0, ev_c_170_0)]
set_option maxRecDepth 100000 in
theorem ev_d_170 : ∀ q ∈ ev_c_170, ∀ z ∈ q.2, decode prog_39_method_8_code z.1 = .ok (z.2.1, z.2.2) := List.forall_mem_cons.mpr ⟨ev_d_170_0, fun _ h => absurd h List.not_mem_nil⟩
def ev_c_171_0 : List (Nat × Instr × Nat) := [(0, .aload_n 0, 1), (1, .invokespecial 1, 3), (4, .aload_n 0, 1), (5, .iconst 0, 1), (6, .putfield 7, 3), (9, .return_, 1)]
set_option maxRecDepth 100000 in
theorem ev_d_171_0 : ∀ q ∈ ev_c_171_0, decode prog_38_method_1_code q.1 = .ok (q.2.1, q.2.2) := by decide +kernel
def ev_c_171 : List (Nat × List (Nat × Instr × Nat)) := [(0, ev_c_171_0)]
set_option maxRecDepth 100000 in
theorem ev_d_171 : ∀ q ∈ ev_c_171, ∀ z ∈ q.2, decode prog_38_method_1_code z.1 = .ok (z.2.1, z.2.2) := List.forall_mem_cons.mpr ⟨ev_d_171_0, fun _ h => absurd h List.not_mem_nil⟩
def ev_c_172_0 : List (Nat × Instr × Nat) := [(0, .aload_n 0, 1), (1, .invokespecial 1, 3), (4, .return_, 1)]
set_option maxRecDepth 100000 in
theorem ev_d_172_0 : ∀ q ∈ ev_c_172_0, decode prog_37_method_1_code q.1 = .ok (q.2.1, q.2.2) := by decide +kernel
def ev_c_172 : List (Nat × List (Nat × Instr × Nat)) := [(0, ev_c_172_0)]
set_option maxRecDepth 100000 in
theorem ev_d_172 : ∀ q ∈ ev_c_172, ∀ z ∈ q.2, decode prog_37_method_1_code z.1 = .ok (z.2.1, z.2.2) := List.forall_mem_cons.mpr ⟨ev_d_172_0, fun _ h => absurd h List.not_mem_nil⟩
def ev_c_173_0 : List (Nat × Instr × Nat) := [(0, .aload_n 0, 1), (1, .aload_n 1, 1), (2, .invokespecial 7, 3), (5, .return_, 1)]
set_option maxRecDepth 100000 in
theorem ev_d_173_0 : ∀ q ∈ ev_c_173_0, decode prog_30_method_3_code q.1 = .ok (q.2.1, q.2.2) := by decide +kernel
def ev_c_173 : List (Nat × List (Nat × Instr × Nat)) := [(0, ev_c_173_0)]
set_option maxRecDepth 100000 in
theorem ev_d_173 : ∀ q ∈ ev_c_173, ∀ z ∈ q.2, decode prog_30_method_3_code z.1 = .ok (z.2.1, z.2.2) := List.forall_mem_cons.mpr ⟨ev_d_173_0, fun _ h => absurd h List.not_mem_nil⟩
def ev_c_174_0 : List (Nat × Instr × Nat) := [(0, .aload_n 0, 1), (1, .aload_n 1, 1), (2, .invokespecial 29, 3), (5, .pop, 1), (6, .aload_n 0, 1), (7, .areturn, 1)]
set_option maxRecDepth 100000 in
theorem ev_d_174_0 : ∀ q ∈ ev_c_174_0, decode prog_30_method_7_code q.1 = .ok (q.2.1, q.2.2) := by decide +kernel
def ev_c_174 : List (Nat × List (Nat × Instr × Nat)) := [(0, ev_c_174_0)]
set_option maxRecDepth 100000 in
theorem ev_d_174 : ∀ q ∈ ev_c_174, ∀ z ∈ q.2, decode prog_30_method_7_code z.1 = .ok (z.2.1, z.2.2) := List.forall_mem_cons.mpr ⟨ev_d_174_0, fun _ h => absurd h List.not_mem_nil⟩
def ev_c_175_0 : List (Nat × Instr × Nat) := [(0, .aload_n 0, 1), (1, .iload_n 1, 1), (2, .invokespecial 50, 3), (5, .pop, 1), (6, .aload_n 0, 1), (7, .areturn, 1)]
set_option maxRecDepth 100000 in
theorem ev_d_175_0 : ∀ q ∈ ev_c_175_0, decode prog_30_method_14_code q.1 = .ok (q.2.1, q.2.2) := by decide +kernel
def ev_c_175 : List (Nat × List (Nat × Instr × Nat)) := [(0, ev_c_175_0)]
set_option maxRecDepth 100000 in
theorem ev_d_175 : ∀ q ∈ ev_c_175, ∀ z ∈ q.2, decode prog_30_method_14_code z.1 = .ok (z.2.1, z.2.2) := List.forall_mem_cons.mpr ⟨ev_d_175_0, fun _ h => absurd h List.not_mem_nil⟩
def ev_c_176_0 : List (Nat × Instr × Nat) := [(0, .aload_n 0, 1), (1, .iload_n 1, 1), (2, .invokespecial 53, 3), (5, .pop, 1), (6, .aload_n 0, 1), (7, .areturn, 1)]
set_option maxRecDepth 100000 in
theorem ev_d_176_0 : ∀ q ∈ ev_c_176_0, decode prog_30_method_15_code q.1 = .ok (q.2.1, q.2.2) := by decide +kernel
def ev_c_176 : List (Nat × List (Nat × Instr × Nat)) := [(0, ev_c_176_0)]
set_option maxRecDepth 100000 in
theorem ev_d_176 : ∀ q ∈ ev_c_176, ∀ z ∈ q.2, decode prog_30_method_15_code z.1 = .ok (z.2.1, z.2.2) := List.forall_mem_cons.mpr ⟨ev_d_176_0, fun _ h => absurd h List.not_mem_nil⟩
def ev_c_177_0 : List (Nat × Instr × Nat) := [(0, .aload_n 0, 1), (1, .aload_n 1, 1), (2, .invokevirtual 23, 3), (5, .areturn, 1)]
set_option maxRecDepth 100000 in
theorem ev_d_177_0 : ∀ q ∈ ev_c_177_0, decode prog_30_method_80_code q.1 = .ok (q.2.1, q.2.2) := by decide +kernel
def ev_c_177 : List (Nat × List (Nat × Instr × Nat)) := [(0, ev_c_177_0)]
set_option maxRecDepth 100000 in
theorem ev_d_177 : ∀ q ∈ ev_c_177, ∀ z ∈ q.2, decode prog_30_method_80_code z.1 = .ok (z.2.1, z.2.2) := List.forall_mem_cons.mpr ⟨ev_d_177_0, fun _ h => absurd h List.not_mem_nil⟩
def ev_c_178_0 : List (Nat × Instr × Nat) := [(0, .new 18, 3), (3, .dup, 1), (4, .aload_n 0, 1), (5, .invokespecial 137, 3), (8, .areturn, 1)]
set_option maxRecDepth 100000 in
theorem ev_d_178_0 : ∀ q ∈ ev_c_178_0, decode prog_30_method_42_code q.1 = .ok (q.2.1, q.2.2) := by decide +kernel
def ev_c_178 : List (Nat × List (Nat × Instr × Nat)) := [(0, ev_c_178_0)]
set_option maxRecDepth 100000 in
theorem ev_d_178 : ∀ q ∈ ev_c_178, ∀ z ∈ q.2, decode prog_30_method_42_code z.1 = .ok (z.2.1, z.2.2) := List.forall_mem_cons.mpr ⟨ev_d_178_0, fun _ h => absurd h List.not_mem_nil⟩
def ev_c_179_0 : List (Nat × Instr × Nat) := [(0, .aload_n 0, 1), (1, .invokespecial 3, 3), (4, .aload_n 1, 1), (5, .invokevirtual 32, 3), (8, .istore_n 2, 1), (9, .iload_n 2, 1), (10, .ldc 38, 2), (12, .if_icmp .ge 10, 3), (15, .iload_n 2, 1), (16, .bipush 16, 2), (18, .iadd, 1), (19, .goto 5, 3), (22, .ldc 39, 2), (24, .istore_n 3, 1), (25, .aload_n 1, 1), (26, .invokevirtual 40, 3), (29, .istore 4, 2), (31, .aload_n 0, 1)]
set_option maxRecDepth 100000 in
theorem ev_d_179_0 : ∀ q ∈ ev_c_179_0, decode prog_14_method_3_code q.1 = .ok (q.2.1, q.2.2) := by decide +kernel
def ev_c_179_1 : List (Nat × Instr × Nat) := [(32, .iload 4, 2), (34, .putfield 22, 3), (37, .aload_n 0, 1), (38, .iload 4, 2), (40, .ifCond .ne 9, 3), (43, .iload_n 3, 1), (44, .newarray .byte, 2), (46, .goto 7, 3), (49, .iload_n 3, 1), (50, .invokestatic 26, 3), (53, .putfield 15, 3), (56, .aload_n 0, 1), (57, .aload_n 1, 1), (58, .invokevirtual 43, 3), (61, .pop, 1), (62, .return_, 1)]
set_option maxRecDepth 100000 in
theorem ev_d_179_1 : ∀ q ∈ ev_c_179_1, decode prog_14_method_3_code q.1 = .ok (q.2.1, q.2.2) := by decide +kernel
def ev_c_179 : List (Nat × List (Nat × Instr × Nat)) := [(0, ev_c_179_0), (1, ev_c_179_1)]
set_option maxRecDepth 100000 in
theorem ev_d_179 : ∀ q ∈ ev_c_179, ∀ z ∈ q.2, decode prog_14_method_3_code z.1 = .ok (z.2.1, z.2.2) := List.forall_mem_cons.mpr ⟨ev_d_179_0, List.forall_mem_cons.mpr ⟨ev_d_179_1, fun _ h => absurd h List.not_mem_nil⟩⟩
def ev_c_180_0 : List (Nat × Instr × Nat) := [(0, .aload_n 1, 1), (1, .ifnonnull 8, 3), (4, .aload_n 0, 1), (5, .invokevirtual 204, 3), (8, .areturn, 1), (9, .aload_n 1, 1), (10, .invokevirtual 32, 3), (13, .istore_n 2, 1), (14, .aload_n 0, 1), (15, .aload_n 0, 1), (16, .getfield 79, 3), (19, .iload_n 2, 1), (20, .iadd, 1), (21, .invokevirtual 100, 3), (24, .aload_n 0, 1), (25, .aload_n 0, 1), (26, .getfield 79, 3), (29, .aload_n 1, 1), (30, .invokevirtual 208, 3)]
set_option maxRecDepth 100000 in
theorem ev_d_180_0 : ∀ q ∈ ev_c_180_0, decode prog_14_method_22_code q.1 = .ok (q.2.1, q.2.2) := by decide +kernel
def ev_c_180_1 : List (Nat × Instr × Nat) := [(33, .aload_n 0, 1), (34, .dup, 1), (35, .getfield 79, 3), (38, .iload_n 2, 1), (39, .iadd, 1), (40, .putfield 79, 3), (43, .aload_n 0, 1), (44, .areturn, 1)]
set_option maxRecDepth 100000 in
theorem ev_d_180_1 : ∀ q ∈ ev_c_180_1, decode prog_14_method_22_code q.1 = .ok (q.2.1, q.2.2) := by decide +kernel
def ev_c_180 : List (Nat × List (Nat × Instr × Nat)) := [(0, ev_c_180_0), (1, ev_c_180_1)]
set_option maxRecDepth 100000 in
theorem ev_d_180 : ∀ q ∈ ev_c_180, ∀ z ∈ q.2, decode prog_14_method_22_code z.1 = .ok (z.2.1, z.2.2) := List.forall_mem_cons.mpr ⟨ev_d_180_0, List.forall_mem_cons.mpr ⟨ev_d_180_1, fun _ h => absurd h List.not_mem_nil⟩⟩
def ev_c_181_0 : List (Nat × Instr × Nat) := [(0, .aload_n 0, 1), (1, .aload_n 0, 1), (2, .getfield 79, 3), (5, .iconst 1, 1), (6, .iadd, 1), (7, .invokevirtual 100, 3), (10, .aload_n 0, 1), (11, .invokevirtual 83, 3), (14, .ifCond .eq 31, 3), (17, .iload_n 1, 1), (18, .invokestatic 191, 3), (21, .ifCond .eq 24, 3), (24, .aload_n 0, 1), (25, .getfield 15, 3), (28, .aload_n 0, 1), (29, .dup, 1), (30, .getfield 79, 3)]
set_option maxRecDepth 100000 in
theorem ev_d_181_0 : ∀ q ∈ ev_c_181_0, decode prog_14_method_31_code q.1 = .ok (q.2.1, q.2.2) := by decide +kernel
def ev_c_181_1 : List (Nat × Instr × Nat) := [(33, .dup_x1, 1), (34, .iconst 1, 1), (35, .iadd, 1), (36, .putfield 79, 3), (39, .iload_n 1, 1), (40, .i2b, 1), (41, .bastore, 1), (42, .goto 33, 3), (45, .aload_n 0, 1), (46, .invokevirtual 83, 3), (49, .ifCond .eq 7, 3), (52, .aload_n 0, 1), (53, .invokevirtual 195, 3), (56, .aload_n 0, 1), (57, .getfield 15, 3), (60, .aload_n 0, 1), (61, .dup, 1), (62, .getfield 79, 3)]
set_option maxRecDepth 100000 in
theorem ev_d_181_1 : ∀ q ∈ ev_c_181_1, decode prog_14_method_31_code q.1 = .ok (q.2.1, q.2.2) := by decide +kernel
def ev_c_181_2 : List (Nat × Instr × Nat) := [(65, .dup_x1, 1), (66, .iconst 1, 1), (67, .iadd, 1), (68, .putfield 79, 3), (71, .iload_n 1, 1), (72, .invokestatic 197, 3), (75, .aload_n 0, 1), (76, .areturn, 1)]
set_option maxRecDepth 100000 in
theorem ev_d_181_2 : ∀ q ∈ ev_c_181_2, decode prog_14_method_31_code q.1 = .ok (q.2.1, q.2.2) := by decide +kernel
def ev_c_181 : List (Nat × List (Nat × Instr × Nat)) := [(0, ev_c_181_0), (1, ev_c_181_1), (2, ev_c_181_2)]
set_option maxRecDepth 100000 in
theorem ev_d_181 : ∀ q ∈ ev_c_181, ∀ z ∈ q.2, decode prog_14_method_31_code z.1 = .ok (z.2.1, z.2.2) := List.forall_mem_cons.mpr ⟨ev_d_181_0, List.forall_mem_cons.mpr ⟨ev_d_181_1, List.forall_mem_cons.mpr ⟨ev_d_181_2, fun _ h => absurd h List.not_mem_nil⟩⟩⟩
def ev_c_182_0 : List (Nat × Instr × Nat) := [(0, .aload_n 0, 1), (1, .getfield 79, 3), (4, .istore_n 2, 1), (5, .iload_n 2, 1), (6, .iload_n 1, 1), (7, .invokestatic 245, 3), (10, .iadd, 1), (11, .istore_n 3, 1), (12, .aload_n 0, 1), (13, .iload_n 3, 1), (14, .invokevirtual 100, 3), (17, .aload_n 0, 1), (18, .invokevirtual 83, 3), (21, .ifCond .eq 16, 3), (24, .iload_n 1, 1), (25, .iload_n 3, 1), (26, .aload_n 0, 1), (27, .getfield 15, 3), (30, .invokestatic 248, 3)]
set_option maxRecDepth 100000 in
theorem ev_d_182_0 : ∀ q ∈ ev_c_182_0, decode prog_14_method_32_code q.1 = .ok (q.2.1, q.2.2) := by decide +kernel
def ev_c_182_1 : List (Nat × Instr × Nat) := [(33, .pop, 1), (34, .goto 14, 3), (37, .iload_n 1, 1), (38, .iload_n 2, 1), (39, .iload_n 3, 1), (40, .aload_n 0, 1), (41, .getfield 15, 3), (44, .invokestatic 251, 3), (47, .pop, 1), (48, .aload_n 0, 1), (49, .iload_n 3, 1), (50, .putfield 79, 3), (53, .aload_n 0, 1), (54, .areturn, 1)]
set_option maxRecDepth 100000 in
theorem ev_d_182_1 : ∀ q ∈ ev_c_182_1, decode prog_14_method_32_code q.1 = .ok (q.2.1, q.2.2) := by decide +kernel
def ev_c_182 : List (Nat × List (Nat × Instr × Nat)) := [(0, ev_c_182_0), (1, ev_c_182_1)]
set_option maxRecDepth 100000 in
theorem ev_d_182 : ∀ q ∈ ev_c_182, ∀ z ∈ q.2, decode prog_14_method_32_code z.1 = .ok (z.2.1, z.2.2) := List.forall_mem_cons.mpr ⟨ev_d_182_0, List.forall_mem_cons.mpr ⟨ev_d_182_1, fun _ h => absurd h List.not_mem_nil⟩⟩
def ev_c_183_0 : List (Nat × Instr × Nat) := [(0, .aload_n 0, 1), (1, .getfield 15, 3), (4, .arraylength, 1), (5, .aload_n 0, 1), (6, .getfield 22, 3), (9, .ishr, 1), (10, .istore_n 2, 1), (11, .iload_n 1, 1), (12, .iload_n 2, 1), (13, .isub, 1), (14, .ifCond .le 24, 3), (17, .aload_n 0, 1), (18, .aload_n 0, 1), (19, .getfield 15, 3), (22, .aload_n 0, 1), (23, .iload_n 1, 1), (24, .invokevirtual 104, 3), (27, .aload_n 0, 1), (28, .getfield 22, 3), (31, .ishl, 1)]
set_option maxRecDepth 100000 in
theorem ev_d_183_0 : ∀ q ∈ ev_c_183_0, decode prog_14_method_9_code q.1 = .ok (q.2.1, q.2.2) := by decide +kernel
def ev_c_183_1 : List (Nat × Instr × Nat) := [(32, .invokestatic 108, 3), (35, .putfield 15, 3), (38, .return_, 1)]
set_option maxRecDepth 100000 in
theorem ev_d_183_1 : ∀ q ∈ ev_c_183_1, decode prog_14_method_9_code q.1 = .ok (q.2.1, q.2.2) := by decide +kernel
def ev_c_183 : List (Nat × List (Nat × Instr × Nat)) := [(0, ev_c_183_0), (1, ev_c_183_1)]
set_option maxRecDepth 100000 in
theorem ev_d_183 : ∀ q ∈ ev_c_183, ∀ z ∈ q.2, decode prog_14_method_9_code z.1 = .ok (z.2.1, z.2.2) := List.forall_mem_cons.mpr ⟨ev_d_183_0, List.forall_mem_cons.mpr ⟨ev_d_183_1, fun _ h => absurd h List.not_mem_nil⟩⟩
def ev_c_184_0 : List (Nat × Instr × Nat) := [(0, .aload_n 0, 1), (1, .getfield 15, 3), (4, .arraylength, 1), (5, .istore_n 2, 1), (6, .iload_n 1, 1), (7, .aload_n 0, 1), (8, .getfield 22, 3), (11, .ishl, 1), (12, .istore_n 3, 1), (13, .iload_n 3, 1), (14, .iload_n 2, 1), (15, .isub, 1), (16, .istore 4, 2), (18, .iload_n 2, 1), (19, .iload 4, 2), (21, .iload_n 2, 1), (22, .iconst 2, 1), (23, .aload_n 0, 1), (24, .getfield 22, 3), (27, .ishl, 1), (28, .iadd, 1), (29, .invokestatic 114, 3)]
set_option maxRecDepth 100000 in
theorem ev_d_184_0 : ∀ q ∈ ev_c_184_0, decode prog_14_method_10_code q.1 = .ok (q.2.1, q.2.2) := by decide +kernel
def ev_c_184_1 : List (Nat × Instr × Nat) := [(32, .istore 5, 2), (34, .iload 5, 2), (36, .ldc 39, 2), (38, .if_icmp .ne 13, 3), (41, .new 120, 3), (44, .dup, 1), (45, .ldc 122, 2), (47, .invokespecial 124, 3), (50, .athrow, 1), (51, .iload 5, 2), (53, .aload_n 0, 1), (54, .getfield 22, 3), (57, .ishr, 1), (58, .ireturn, 1)]
set_option maxRecDepth 100000 in
theorem ev_d_184_1 : ∀ q ∈ ev_c_184_1, decode prog_14_method_10_code q.1 = .ok (q.2.1, q.2.2) := by decide +kernel
def ev_c_184 : List (Nat × List (Nat × Instr × Nat)) := [(0, ev_c_184_0), (1, ev_c_184_1)]
set_option maxRecDepth 100000 in
theorem ev_d_184 : ∀ q ∈ ev_c_184, ∀ z ∈ q.2, decode prog_14_method_10_code z.1 = .ok (z.2.1, z.2.2) := List.forall_mem_cons.mpr ⟨ev_d_184_0, List.forall_mem_cons.mpr ⟨ev_d_184_1, fun _ h => absurd h List.not_mem_nil⟩⟩
def ev_c_185_0 : List (Nat × Instr × Nat) := [(0, .aload_n 0, 1), (1, .aload_n 2, 1), (2, .invokevirtual 397, 3), (5, .aload_n 2, 1), (6, .aload_n 0, 1), (7, .getfield 15, 3), (10, .iload_n 1, 1), (11, .aload_n 0, 1), (12, .getfield 22, 3), (15, .invokevirtual 399, 3), (18, .return_, 1)]
set_option maxRecDepth 100000 in
theorem ev_d_185_0 : ∀ q ∈ ev_c_185_0, decode prog_14_method_73_code q.1 = .ok (q.2.1, q.2.2) := by decide +kernel
def ev_c_185 : List (Nat × List (Nat × Instr × Nat)) := [(0, ev_c_185_0)]
set_option maxRecDepth 100000 in
theorem ev_d_185 : ∀ q ∈ ev_c_185, ∀ z ∈ q.2, decode prog_14_method_73_code z.1 = .ok (z.2.1, z.2.2) := List.forall_mem_cons.mpr ⟨ev_d_185_0, fun _ h => absurd h List.not_mem_nil⟩
def ev_c_186_0 : List (Nat × Instr × Nat) := [(0, .getstatic 18, 3), (3, .ifCond .eq 18, 3), (6, .aload_n 0, 1), (7, .getfield 22, 3), (10, .aload_n 1, 1), (11, .invokevirtual 40, 3), (14, .if_icmp .eq 7, 3), (17, .aload_n 0, 1), (18, .invokevirtual 195, 3), (21, .return_, 1)]
set_option maxRecDepth 100000 in
theorem ev_d_186_0 : ∀ q ∈ ev_c_186_0, decode prog_14_method_71_code q.1 = .ok (q.2.1, q.2.2) := by decide +kernel
def ev_c_186 : List (Nat × List (Nat × Instr × Nat)) := [(0, ev_c_186_0)]
set_option maxRecDepth 100000 in
theorem ev_d_186 : ∀ q ∈ ev_c_186, ∀ z ∈ q.2, decode prog_14_method_71_code z.1 = .ok (z.2.1, z.2.2) := List.forall_mem_cons.mpr ⟨ev_d_186_0, fun _ h => absurd h List.not_mem_nil⟩
def ev_c_187_0 : List (Nat × Instr × Nat) := [(0, .getstatic 18, 3), (3, .ifCond .eq 14, 3), (6, .aload_n 0, 1), (7, .getfield 22, 3), (10, .ifCond .ne 7, 3), (13, .iconst 1, 1), (14, .goto 4, 3), (17, .iconst 0, 1), (18, .ireturn, 1)]
set_option maxRecDepth 100000 in
theorem ev_d_187_0 : ∀ q ∈ ev_c_187_0, decode prog_14_method_68_code q.1 = .ok (q.2.1, q.2.2) := by decide +kernel
def ev_c_187 : List (Nat × List (Nat × Instr × Nat)) := [(0, ev_c_187_0)]
set_option maxRecDepth 100000 in
theorem ev_d_187 : ∀ q ∈ ev_c_187, ∀ z ∈ q.2, decode prog_14_method_68_code z.1 = .ok (z.2.1, z.2.2) := List.forall_mem_cons.mpr ⟨ev_d_187_0, fun _ h => absurd h List.not_mem_nil⟩
def ev_c_188_0 : List (Nat × Instr × Nat) := [(0, .aload_n 0, 1), (1, .getfield 15, 3), (4, .areturn, 1)]
set_option maxRecDepth 100000 in
theorem ev_d_188_0 : ∀ q ∈ ev_c_188_0, decode prog_14_method_64_code q.1 = .ok (q.2.1, q.2.2) := by decide +kernel
def ev_c_188 : List (Nat × List (Nat × Instr × Nat)) := [(0, ev_c_188_0)]
set_option maxRecDepth 100000 in
theorem ev_d_188 : ∀ q ∈ ev_c_188, ∀ z ∈ q.2, decode prog_14_method_64_code z.1 = .ok (z.2.1, z.2.2) := List.forall_mem_cons.mpr ⟨ev_d_188_0, fun _ h => absurd h List.not_mem_nil⟩
def ev_c_189_0 : List (Nat × Instr × Nat) := [(0, .aload_n 0, 1), (1, .getfield 79, 3), (4, .ireturn, 1)]
set_option maxRecDepth 100000 in
theorem ev_d_189_0 : ∀ q ∈ ev_c_189_0, decode prog_14_method_6_code q.1 = .ok (q.2.1, q.2.2) := by decide +kernel
def ev_c_189 : List (Nat × List (Nat × Instr × Nat)) := [(0, ev_c_189_0)]
set_option maxRecDepth 100000 in
theorem ev_d_189 : ∀ q ∈ ev_c_189, ∀ z ∈ q.2, decode prog_14_method_6_code z.1 = .ok (z.2.1, z.2.2) := List.forall_mem_cons.mpr ⟨ev_d_189_0, fun _ h => absurd h List.not_mem_nil⟩
def ev_c_190_0 : List (Nat × Instr × Nat) := [(0, .aload_n 0, 1), (1, .aload_n 1, 1), (2, .aconst_null, 1), (3, .invokespecial 489, 3), (6, .return_, 1)]
set_option maxRecDepth 100000 in
theorem ev_d_190_0 : ∀ q ∈ ev_c_190_0, decode prog_29_method_53_code q.1 = .ok (q.2.1, q.2.2) := by decide +kernel
def ev_c_190 : List (Nat × List (Nat × Instr × Nat)) := [(0, ev_c_190_0)]
set_option maxRecDepth 100000 in
theorem ev_d_190 : ∀ q ∈ ev_c_190, ∀ z ∈ q.2, decode prog_29_method_53_code z.1 = .ok (z.2.1, z.2.2) := List.forall_mem_cons.mpr ⟨ev_d_190_0, fun _ h => absurd h List.not_mem_nil⟩
def ev_c_191_0 : List (Nat × Instr × Nat) := [(0, .aload_n 0, 1), (1, .invokespecial 1, 3), (4, .aload_n 1, 1), (5, .invokevirtual 552, 3), (8, .astore_n 3, 1), (9, .aload_n 1, 1), (10, .invokevirtual 549, 3), (13, .istore 4, 2), (15, .aload_n 1, 1), (16, .invokevirtual 1047, 3), (19, .ifCond .eq 22, 3), (22, .aload_n 0, 1), (23, .iconst 0, 1), (24, .putfield 15, 3), (27, .aload_n 0, 1), (28, .aload_n 3, 1), (29, .iconst 0, 1), (30, .iload 4, 2)]
set_option maxRecDepth 100000 in
theorem ev_d_191_0 : ∀ q ∈ ev_c_191_0, decode prog_29_method_150_code q.1 = .ok (q.2.1, q.2.2) := by decide +kernel
def ev_c_191_1 : List (Nat × Instr × Nat) := [(32, .invokestatic 54, 3), (35, .putfield 9, 3), (38, .goto 59, 3), (41, .getstatic 38, 3), (44, .ifCond .eq 35, 3), (47, .aload_n 1, 1), (48, .getfield 1048, 3), (51, .ifCond .eq 28, 3), (54, .aload_n 0, 1), (55, .aload_n 3, 1), (56, .iconst 0, 1), (57, .iload 4, 2), (59, .invokestatic 1051, 3), (62, .putfield 9, 3)]
set_option maxRecDepth 100000 in
theorem ev_d_191_1 : ∀ q ∈ ev_c_191_1, decode prog_29_method_150_code q.1 = .ok (q.2.1, q.2.2) := by decide +kernel
def ev_c_191_2 : List (Nat × Instr × Nat) := [(65, .aload_n 0, 1), (66, .aload_n 0, 1), (67, .getfield 9, 3), (70, .iload 4, 2), (72, .invokestatic 47, 3), (75, .putfield 15, 3), (78, .return_, 1), (79, .aload_n 0, 1), (80, .iconst 1, 1), (81, .putfield 15, 3), (84, .aload_n 0, 1), (85, .aload_n 3, 1), (86, .iconst 0, 1), (87, .iload 4, 2), (89, .iconst 1, 1), (90, .ishl, 1), (91, .invokestatic 54, 3), (94, .putfield 9, 3)]
set_option maxRecDepth 100000 in
theorem ev_d_191_2 : ∀ q ∈ ev_c_191_2, decode prog_29_method_150_code q.1 = .ok (q.2.1, q.2.2) := by decide +kernel
def ev_c_191_3 : List (Nat × Instr × Nat) := [(97, .return_, 1)]
set_option maxRecDepth 100000 in
theorem ev_d_191_3 : ∀ q ∈ ev_c_191_3, decode prog_29_method_150_code q.1 = .ok (q.2.1, q.2.2) := by decide +kernel
def ev_c_191 : List (Nat × List (Nat × Instr × Nat)) := [(0, ev_c_191_0), (1, ev_c_191_1), (2, ev_c_191_2), (3, ev_c_191_3)]
set_option maxRecDepth 100000 in
theorem ev_d_191 : ∀ q ∈ ev_c_191, ∀ z ∈ q.2, decode prog_29_method_150_code z.1 = .ok (z.2.1, z.2.2) := List.forall_mem_cons.mpr ⟨ev_d_191_0, List.forall_mem_cons.mpr ⟨ev_d_191_1, List.forall_mem_cons.mpr ⟨ev_d_191_2, List.forall_mem_cons.mpr ⟨ev_d_191_3, fun _ h => absurd h List.not_mem_nil⟩⟩⟩⟩
end
section
/-! code, by wip/gen/gen.py -/
def ev_c_192_0 : List (Nat × Instr × Nat) := [(0, .aload_n 0, 1), (1, .getfield 9, 3), (4, .arraylength, 1), (5, .aload_n 0, 1), (6, .invokevirtual 335, 3), (9, .ishr, 1), (10, .ireturn, 1)]
set_option maxRecDepth 100000 in
theorem ev_d_192_0 : ∀ q ∈ ev_c_192_0, decode prog_29_method_54_code q.1 = .ok (q.2.1, q.2.2) := by decide +kernel
def ev_c_192 : List (Nat × List (Nat × Instr × Nat)) := [(0, ev_c_192_0)]
set_option maxRecDepth 100000 in
theorem ev_d_192 : ∀ q ∈ ev_c_192, ∀ z ∈ q.2, decode prog_29_method_54_code z.1 = .ok (z.2.1, z.2.2) := List.forall_mem_cons.mpr ⟨ev_d_192_0, fun _ h => absurd h List.not_mem_nil⟩
def ev_c_193_0 : List (Nat × Instr × Nat) := [(0, .aload_n 0, 1), (1, .invokevirtual 492, 3), (4, .ifCond .eq 12, 3), (7, .aload_n 0, 1), (8, .getfield 9, 3), (11, .iload_n 1, 1), (12, .invokestatic 495, 3), (15, .ireturn, 1), (16, .aload_n 0, 1), (17, .getfield 9, 3), (20, .iload_n 1, 1), (21, .invokestatic 498, 3), (24, .ireturn, 1)]
set_option maxRecDepth 100000 in
theorem ev_d_193_0 : ∀ q ∈ ev_c_193_0, decode prog_29_method_56_code q.1 = .ok (q.2.1, q.2.2) := by decide +kernel
def ev_c_193 : List (Nat × List (Nat × Instr × Nat)) := [(0, ev_c_193_0)]
set_option maxRecDepth 100000 in
theorem ev_d_193 : ∀ q ∈ ev_c_193, ∀ z ∈ q.2, decode prog_29_method_56_code z.1 = .ok (z.2.1, z.2.2) := List.forall_mem_cons.mpr ⟨ev_d_193_0, fun _ h => absurd h List.not_mem_nil⟩
def ev_c_194_0 : List (Nat × Instr × Nat) := [(0, .aload_n 0, 1), (1, .invokevirtual 335, 3), (4, .iload_n 3, 1), (5, .if_icmp .ne 23, 3), (8, .aload_n 0, 1), (9, .getfield 9, 3), (12, .iconst 0, 1), (13, .aload_n 1, 1), (14, .iload_n 2, 1), (15, .iload_n 3, 1), (16, .ishl, 1), (17, .aload_n 0, 1), (18, .getfield 9, 3), (21, .arraylength, 1), (22, .invokestatic 212, 3), (25, .goto 18, 3), (28, .aload_n 0, 1), (29, .getfield 9, 3)]
set_option maxRecDepth 100000 in
theorem ev_d_194_0 : ∀ q ∈ ev_c_194_0, decode prog_29_method_147_code q.1 = .ok (q.2.1, q.2.2) := by decide +kernel
def ev_c_194_1 : List (Nat × Instr × Nat) := [(32, .iconst 0, 1), (33, .aload_n 1, 1), (34, .iload_n 2, 1), (35, .aload_n 0, 1), (36, .getfield 9, 3), (39, .arraylength, 1), (40, .invokestatic 106, 3), (43, .return_, 1)]
set_option maxRecDepth 100000 in
theorem ev_d_194_1 : ∀ q ∈ ev_c_194_1, decode prog_29_method_147_code q.1 = .ok (q.2.1, q.2.2) := by decide +kernel
def ev_c_194 : List (Nat × List (Nat × Instr × Nat)) := [(0, ev_c_194_0), (1, ev_c_194_1)]
set_option maxRecDepth 100000 in
theorem ev_d_194 : ∀ q ∈ ev_c_194, ∀ z ∈ q.2, decode prog_29_method_147_code z.1 = .ok (z.2.1, z.2.2) := List.forall_mem_cons.mpr ⟨ev_d_194_0, List.forall_mem_cons.mpr ⟨ev_d_194_1, fun _ h => absurd h List.not_mem_nil⟩⟩
def ev_c_195_0 : List (Nat × Instr × Nat) := [(0, .getstatic 38, 3), (3, .ifCond .eq 10, 3), (6, .aload_n 0, 1), (7, .getfield 15, 3), (10, .goto 4, 3), (13, .iconst 1, 1), (14, .ireturn, 1)]
set_option maxRecDepth 100000 in
theorem ev_d_195_0 : ∀ q ∈ ev_c_195_0, decode prog_29_method_152_code q.1 = .ok (q.2.1, q.2.2) := by decide +kernel
def ev_c_195 : List (Nat × List (Nat × Instr × Nat)) := [(0, ev_c_195_0)]
set_option maxRecDepth 100000 in
theorem ev_d_195 : ∀ q ∈ ev_c_195, ∀ z ∈ q.2, decode prog_29_method_152_code z.1 = .ok (z.2.1, z.2.2) := List.forall_mem_cons.mpr ⟨ev_d_195_0, fun _ h => absurd h List.not_mem_nil⟩
def ev_c_196_0 : List (Nat × Instr × Nat) := [(0, .getstatic 38, 3), (3, .ifCond .eq 14, 3), (6, .aload_n 0, 1), (7, .getfield 15, 3), (10, .ifCond .ne 7, 3), (13, .iconst 1, 1), (14, .goto 4, 3), (17, .iconst 0, 1), (18, .ireturn, 1)]
set_option maxRecDepth 100000 in
theorem ev_d_196_0 : ∀ q ∈ ev_c_196_0, decode prog_29_method_154_code q.1 = .ok (q.2.1, q.2.2) := by decide +kernel
def ev_c_196 : List (Nat × List (Nat × Instr × Nat)) := [(0, ev_c_196_0)]
set_option maxRecDepth 100000 in
theorem ev_d_196 : ∀ q ∈ ev_c_196, ∀ z ∈ q.2, decode prog_29_method_154_code z.1 = .ok (z.2.1, z.2.2) := List.forall_mem_cons.mpr ⟨ev_d_196_0, fun _ h => absurd h List.not_mem_nil⟩
def ev_c_197_0 : List (Nat × Instr × Nat) := [(0, .iload_n 0, 1), (1, .iload_n 1, 1), (2, .getstatic 1053, 3), (5, .invokestatic 1059, 3), (8, .pop, 1), (9, .return_, 1)]
set_option maxRecDepth 100000 in
theorem ev_d_197_0 : ∀ q ∈ ev_c_197_0, decode prog_29_method_155_code q.1 = .ok (q.2.1, q.2.2) := by decide +kernel
def ev_c_197 : List (Nat × List (Nat × Instr × Nat)) := [(0, ev_c_197_0)]
set_option maxRecDepth 100000 in
theorem ev_d_197 : ∀ q ∈ ev_c_197, ∀ z ∈ q.2, decode prog_29_method_155_code z.1 = .ok (z.2.1, z.2.2) := List.forall_mem_cons.mpr ⟨ev_d_197_0, fun _ h => absurd h List.not_mem_nil⟩
def ev_c_198_0 : List (Nat × Instr × Nat) := [(0, .iload_n 1, 1), (1, .aload_n 0, 1), (2, .arraylength, 1), (3, .invokestatic 9, 3), (6, .aload_n 0, 1), (7, .iload_n 1, 1), (8, .baload, 1), (9, .sipush 255, 3), (12, .iand, 1), (13, .i2c, 1), (14, .ireturn, 1)]
set_option maxRecDepth 100000 in
theorem ev_d_198_0 : ∀ q ∈ ev_c_198_0, decode prog_31_method_2_code q.1 = .ok (q.2.1, q.2.2) := by decide +kernel
def ev_c_198 : List (Nat × List (Nat × Instr × Nat)) := [(0, ev_c_198_0)]
set_option maxRecDepth 100000 in
theorem ev_d_198 : ∀ q ∈ ev_c_198, ∀ z ∈ q.2, decode prog_31_method_2_code z.1 = .ok (z.2.1, z.2.2) := List.forall_mem_cons.mpr ⟨ev_d_198_0, fun _ h => absurd h List.not_mem_nil⟩
def ev_c_199_0 : List (Nat × Instr × Nat) := [(0, .iload_n 0, 1), (1, .sipush 255, 3), (4, .if_icmp .gt 7, 3), (7, .iconst 1, 1), (8, .goto 4, 3), (11, .iconst 0, 1), (12, .ireturn, 1)]
set_option maxRecDepth 100000 in
theorem ev_d_199_0 : ∀ q ∈ ev_c_199_0, decode prog_31_method_3_code q.1 = .ok (q.2.1, q.2.2) := by decide +kernel
def ev_c_199 : List (Nat × List (Nat × Instr × Nat)) := [(0, ev_c_199_0)]
set_option maxRecDepth 100000 in
theorem ev_d_199 : ∀ q ∈ ev_c_199, ∀ z ∈ q.2, decode prog_31_method_3_code z.1 = .ok (z.2.1, z.2.2) := List.forall_mem_cons.mpr ⟨ev_d_199_0, fun _ h => absurd h List.not_mem_nil⟩
def ev_c_200_0 : List (Nat × Instr × Nat) := [(0, .iconst 1, 1), (1, .istore_n 1, 1), (2, .iload_n 0, 1), (3, .ifCond .lt 8, 3), (6, .iconst 0, 1), (7, .istore_n 1, 1), (8, .iload_n 0, 1), (9, .ineg, 1), (10, .istore_n 0, 1), (11, .bipush (-10), 2), (13, .istore_n 2, 1), (14, .iconst 1, 1), (15, .istore_n 3, 1), (16, .iload_n 3, 1), (17, .bipush 10, 2), (19, .if_icmp .ge 23, 3), (22, .iload_n 0, 1), (23, .iload_n 2, 1), (24, .if_icmp .le 7, 3), (27, .iload_n 3, 1), (28, .iload_n 1, 1), (29, .iadd, 1), (30, .ireturn, 1), (31, .bipush 10, 2)]
set_option maxRecDepth 100000 in
theorem ev_d_200_0 : ∀ q ∈ ev_c_200_0, decode prog_23_method_13_code q.1 = .ok (q.2.1, q.2.2) := by decide +kernel
def ev_c_200_1 : List (Nat × Instr × Nat) := [(33, .iload_n 2, 1), (34, .imul, 1), (35, .istore_n 2, 1), (36, .iinc 3 1, 3), (39, .goto (-23), 3), (42, .bipush 10, 2), (44, .iload_n 1, 1), (45, .iadd, 1), (46, .ireturn, 1)]
set_option maxRecDepth 100000 in
theorem ev_d_200_1 : ∀ q ∈ ev_c_200_1, decode prog_23_method_13_code q.1 = .ok (q.2.1, q.2.2) := by decide +kernel
def ev_c_200 : List (Nat × List (Nat × Instr × Nat)) := [(0, ev_c_200_0), (1, ev_c_200_1)]
set_option maxRecDepth 100000 in
theorem ev_d_200 : ∀ q ∈ ev_c_200, ∀ z ∈ q.2, decode prog_23_method_13_code z.1 = .ok (z.2.1, z.2.2) := List.forall_mem_cons.mpr ⟨ev_d_200_0, List.forall_mem_cons.mpr ⟨ev_d_200_1, fun _ h => absurd h List.not_mem_nil⟩⟩
def ev_c_201_0 : List (Nat × Instr × Nat) := [(0, .iload_n 1, 1), (1, .istore 5, 2), (3, .iload_n 0, 1), (4, .ifCond .ge 7, 3), (7, .iconst 1, 1), (8, .goto 4, 3), (11, .iconst 0, 1), (12, .istore 6, 2), (14, .iload 6, 2), (16, .ifCond .ne 6, 3), (19, .iload_n 0, 1), (20, .ineg, 1), (21, .istore_n 0, 1), (22, .iload_n 0, 1), (23, .bipush (-100), 2), (25, .if_icmp .gt 47, 3), (28, .iload_n 0, 1), (29, .bipush 100, 2), (31, .idiv, 1)]
set_option maxRecDepth 100000 in
theorem ev_d_201_0 : ∀ q ∈ ev_c_201_0, decode prog_23_method_12_code q.1 = .ok (q.2.1, q.2.2) := by decide +kernel
def ev_c_201_1 : List (Nat × Instr × Nat) := [(32, .istore_n 3, 1), (33, .iload_n 3, 1), (34, .bipush 100, 2), (36, .imul, 1), (37, .iload_n 0, 1), (38, .isub, 1), (39, .istore 4, 2), (41, .iload_n 3, 1), (42, .istore_n 0, 1), (43, .aload_n 2, 1), (44, .iinc 5 (-1), 3), (47, .iload 5, 2), (49, .getstatic 83, 3), (52, .iload 4, 2), (54, .baload, 1), (55, .bastore, 1), (56, .aload_n 2, 1), (57, .iinc 5 (-1), 3), (60, .iload 5, 2), (62, .getstatic 87, 3)]
set_option maxRecDepth 100000 in
theorem ev_d_201_1 : ∀ q ∈ ev_c_201_1, decode prog_23_method_12_code q.1 = .ok (q.2.1, q.2.2) := by decide +kernel
def ev_c_201_2 : List (Nat × Instr × Nat) := [(65, .iload 4, 2), (67, .baload, 1), (68, .bastore, 1), (69, .goto (-47), 3), (72, .aload_n 2, 1), (73, .iinc 5 (-1), 3), (76, .iload 5, 2), (78, .getstatic 83, 3), (81, .iload_n 0, 1), (82, .ineg, 1), (83, .baload, 1), (84, .bastore, 1), (85, .iload_n 0, 1), (86, .bipush (-9), 2), (88, .if_icmp .ge 16, 3), (91, .aload_n 2, 1), (92, .iinc 5 (-1), 3), (95, .iload 5, 2)]
set_option maxRecDepth 100000 in
theorem ev_d_201_2 : ∀ q ∈ ev_c_201_2, decode prog_23_method_12_code q.1 = .ok (q.2.1, q.2.2) := by decide +kernel
def ev_c_201_3 : List (Nat × Instr × Nat) := [(97, .getstatic 87, 3), (100, .iload_n 0, 1), (101, .ineg, 1), (102, .baload, 1), (103, .bastore, 1), (104, .iload 6, 2), (106, .ifCond .eq 12, 3), (109, .aload_n 2, 1), (110, .iinc 5 (-1), 3), (113, .iload 5, 2), (115, .bipush 45, 2), (117, .bastore, 1), (118, .iload 5, 2), (120, .ireturn, 1)]
set_option maxRecDepth 100000 in
theorem ev_d_201_3 : ∀ q ∈ ev_c_201_3, decode prog_23_method_12_code q.1 = .ok (q.2.1, q.2.2) := by decide +kernel
def ev_c_201 : List (Nat × List (Nat × Instr × Nat)) := [(0, ev_c_201_0), (1, ev_c_201_1), (2, ev_c_201_2), (3, ev_c_201_3)]
set_option maxRecDepth 100000 in
theorem ev_d_201 : ∀ q ∈ ev_c_201, ∀ z ∈ q.2, decode prog_23_method_12_code z.1 = .ok (z.2.1, z.2.2) := List.forall_mem_cons.mpr ⟨ev_d_201_0, List.forall_mem_cons.mpr ⟨ev_d_201_1, List.forall_mem_cons.mpr ⟨ev_d_201_2, List.forall_mem_cons.mpr ⟨ev_d_201_3, fun _ h => absurd h List.not_mem_nil⟩⟩⟩⟩
def ev_c_202_0 : List (Nat × Instr × Nat) := [(0, .iload_n 0, 1), (1, .iload_n 0, 1), (2, .iconst 1, 1), (3, .iushr, 1), (4, .ldc_w 265, 3), (7, .iand, 1), (8, .isub, 1), (9, .istore_n 0, 1), (10, .iload_n 0, 1), (11, .ldc_w 266, 3), (14, .iand, 1), (15, .iload_n 0, 1), (16, .iconst 2, 1), (17, .iushr, 1), (18, .ldc_w 266, 3), (21, .iand, 1), (22, .iadd, 1), (23, .istore_n 0, 1), (24, .iload_n 0, 1), (25, .iload_n 0, 1), (26, .iconst 4, 1), (27, .iushr, 1), (28, .iadd, 1), (29, .ldc_w 267, 3)]
set_option maxRecDepth 100000 in
theorem ev_d_202_0 : ∀ q ∈ ev_c_202_0, decode prog_23_method_49_code q.1 = .ok (q.2.1, q.2.2) := by decide +kernel
def ev_c_202_1 : List (Nat × Instr × Nat) := [(32, .iand, 1), (33, .istore_n 0, 1), (34, .iload_n 0, 1), (35, .iload_n 0, 1), (36, .bipush 8, 2), (38, .iushr, 1), (39, .iadd, 1), (40, .istore_n 0, 1), (41, .iload_n 0, 1), (42, .iload_n 0, 1), (43, .bipush 16, 2), (45, .iushr, 1), (46, .iadd, 1), (47, .istore_n 0, 1), (48, .iload_n 0, 1), (49, .bipush 63, 2), (51, .iand, 1), (52, .ireturn, 1)]
set_option maxRecDepth 100000 in
theorem ev_d_202_1 : ∀ q ∈ ev_c_202_1, decode prog_23_method_49_code q.1 = .ok (q.2.1, q.2.2) := by decide +kernel
def ev_c_202 : List (Nat × List (Nat × Instr × Nat)) := [(0, ev_c_202_0), (1, ev_c_202_1)]
set_option maxRecDepth 100000 in
theorem ev_d_202 : ∀ q ∈ ev_c_202, ∀ z ∈ q.2, decode prog_23_method_49_code z.1 = .ok (z.2.1, z.2.2) := List.forall_mem_cons.mpr ⟨ev_d_202_0, List.forall_mem_cons.mpr ⟨ev_d_202_1, fun _ h => absurd h List.not_mem_nil⟩⟩
def ev_c_203_0 : List (Nat × Instr × Nat) := [(0, .iconst 0, 1), (1, .istore_n 2, 1), (2, .aload_n 0, 1), (3, .arraylength, 1), (4, .istore_n 3, 1), (5, .iload_n 2, 1), (6, .iload_n 3, 1), (7, .if_icmp .ge 13, 3), (10, .aload_n 0, 1), (11, .iload_n 2, 1), (12, .iload_n 1, 1), (13, .iastore, 1), (14, .iinc 2 1, 3), (17, .goto (-12), 3), (20, .return_, 1)]
set_option maxRecDepth 100000 in
theorem ev_d_203_0 : ∀ q ∈ ev_c_203_0, decode prog_40_method_103_code q.1 = .ok (q.2.1, q.2.2) := by decide +kernel
def ev_c_203 : List (Nat × List (Nat × Instr × Nat)) := [(0, ev_c_203_0)]
set_option maxRecDepth 100000 in
theorem ev_d_203 : ∀ q ∈ ev_c_203, ∀ z ∈ q.2, decode prog_40_method_103_code z.1 = .ok (z.2.1, z.2.2) := List.forall_mem_cons.mpr ⟨ev_d_203_0, fun _ h => absurd h List.not_mem_nil⟩
def ev_c_204_0 : List (Nat × Instr × Nat) := [(0, .iconst 0, 1), (1, .istore_n 3, 1), (2, .aload_n 0, 1), (3, .arraylength, 1), (4, .istore 4, 2), (6, .iload_n 3, 1), (7, .iload 4, 2), (9, .if_icmp .ge 13, 3), (12, .aload_n 0, 1), (13, .iload_n 3, 1), (14, .lload_n 1, 1), (15, .lastore, 1), (16, .iinc 3 1, 3), (19, .goto (-13), 3), (22, .return_, 1)]
set_option maxRecDepth 100000 in
theorem ev_d_204_0 : ∀ q ∈ ev_c_204_0, decode prog_40_method_101_code q.1 = .ok (q.2.1, q.2.2) := by decide +kernel
def ev_c_204 : List (Nat × List (Nat × Instr × Nat)) := [(0, ev_c_204_0)]
set_option maxRecDepth 100000 in
theorem ev_d_204 : ∀ q ∈ ev_c_204, ∀ z ∈ q.2, decode prog_40_method_101_code z.1 = .ok (z.2.1, z.2.2) := List.forall_mem_cons.mpr ⟨ev_d_204_0, fun _ h => absurd h List.not_mem_nil⟩
def ev_c_205_0 : List (Nat × Instr × Nat) := [(0, .iload_n 1, 1), (1, .aload_n 0, 1), (2, .arraylength, 1), (3, .if_icmp .ne 11, 3), (6, .aload_n 0, 1), (7, .invokevirtual 310, 3), (10, .checkcast 311, 3), (13, .areturn, 1), (14, .iload_n 1, 1), (15, .newarray .byte, 2), (17, .astore_n 2, 1), (18, .aload_n 0, 1), (19, .iconst 0, 1), (20, .aload_n 2, 1), (21, .iconst 0, 1), (22, .aload_n 0, 1), (23, .arraylength, 1), (24, .iload_n 1, 1), (25, .invokestatic 304, 3), (28, .invokestatic 150, 3), (31, .aload_n 2, 1)]
set_option maxRecDepth 100000 in
theorem ev_d_205_0 : ∀ q ∈ ev_c_205_0, decode prog_40_method_121_code q.1 = .ok (q.2.1, q.2.2) := by decide +kernel
def ev_c_205_1 : List (Nat × Instr × Nat) := [(32, .areturn, 1)]
set_option maxRecDepth 100000 in
theorem ev_d_205_1 : ∀ q ∈ ev_c_205_1, decode prog_40_method_121_code q.1 = .ok (q.2.1, q.2.2) := by decide +kernel
def ev_c_205 : List (Nat × List (Nat × Instr × Nat)) := [(0, ev_c_205_0), (1, ev_c_205_1)]
set_option maxRecDepth 100000 in
theorem ev_d_205 : ∀ q ∈ ev_c_205, ∀ z ∈ q.2, decode prog_40_method_121_code z.1 = .ok (z.2.1, z.2.2) := List.forall_mem_cons.mpr ⟨ev_d_205_0, List.forall_mem_cons.mpr ⟨ev_d_205_1, fun _ h => absurd h List.not_mem_nil⟩⟩
def ev_c_206_0 : List (Nat × Instr × Nat) := [(0, .iload_n 1, 1), (1, .ifCond .ne 9, 3), (4, .iload_n 2, 1), (5, .aload_n 0, 1), (6, .arraylength, 1), (7, .if_icmp .eq 10, 3), (10, .aload_n 0, 1), (11, .iload_n 1, 1), (12, .iload_n 2, 1), (13, .invokestatic 339, 3), (16, .areturn, 1), (17, .aload_n 0, 1), (18, .invokevirtual 310, 3), (21, .checkcast 311, 3), (24, .areturn, 1)]
set_option maxRecDepth 100000 in
theorem ev_d_206_0 : ∀ q ∈ ev_c_206_0, decode prog_40_method_132_code q.1 = .ok (q.2.1, q.2.2) := by decide +kernel
def ev_c_206 : List (Nat × List (Nat × Instr × Nat)) := [(0, ev_c_206_0)]
set_option maxRecDepth 100000 in
theorem ev_d_206 : ∀ q ∈ ev_c_206, ∀ z ∈ q.2, decode prog_40_method_132_code z.1 = .ok (z.2.1, z.2.2) := List.forall_mem_cons.mpr ⟨ev_d_206_0, fun _ h => absurd h List.not_mem_nil⟩
def ev_c_207_0 : List (Nat × Instr × Nat) := [(0, .iload_n 1, 1), (1, .iload_n 2, 1), (2, .invokestatic 343, 3), (5, .iload_n 2, 1), (6, .iload_n 1, 1), (7, .isub, 1), (8, .istore_n 3, 1), (9, .iload_n 3, 1), (10, .newarray .byte, 2), (12, .astore 4, 2), (14, .aload_n 0, 1), (15, .iload_n 1, 1), (16, .aload 4, 2), (18, .iconst 0, 1), (19, .aload_n 0, 1), (20, .arraylength, 1), (21, .iload_n 1, 1), (22, .isub, 1), (23, .iload_n 3, 1), (24, .invokestatic 304, 3), (27, .invokestatic 150, 3), (30, .aload 4, 2)]
set_option maxRecDepth 100000 in
theorem ev_d_207_0 : ∀ q ∈ ev_c_207_0, decode prog_40_method_133_code q.1 = .ok (q.2.1, q.2.2) := by decide +kernel
def ev_c_207_1 : List (Nat × Instr × Nat) := [(32, .areturn, 1)]
set_option maxRecDepth 100000 in
theorem ev_d_207_1 : ∀ q ∈ ev_c_207_1, decode prog_40_method_133_code q.1 = .ok (q.2.1, q.2.2) := by decide +kernel
def ev_c_207 : List (Nat × List (Nat × Instr × Nat)) := [(0, ev_c_207_0), (1, ev_c_207_1)]
set_option maxRecDepth 100000 in
theorem ev_d_207 : ∀ q ∈ ev_c_207, ∀ z ∈ q.2, decode prog_40_method_133_code z.1 = .ok (z.2.1, z.2.2) := List.forall_mem_cons.mpr ⟨ev_d_207_0, List.forall_mem_cons.mpr ⟨ev_d_207_1, fun _ h => absurd h List.not_mem_nil⟩⟩
def ev_c_208_0 : List (Nat × Instr × Nat) := [(0, .iload_n 1, 1), (1, .iload_n 0, 1), (2, .if_icmp .ge 35, 3), (5, .new 43, 3), (8, .dup, 1), (9, .new 45, 3), (12, .dup, 1), (13, .invokespecial 47, 3), (16, .iload_n 0, 1), (17, .invokevirtual 54, 3), (20, .ldc_w 337, 3), (23, .invokevirtual 50, 3), (26, .iload_n 1, 1), (27, .invokevirtual 54, 3), (30, .invokevirtual 61, 3)]
set_option maxRecDepth 100000 in
theorem ev_d_208_0 : ∀ q ∈ ev_c_208_0, decode prog_40_method_131_code q.1 = .ok (q.2.1, q.2.2) := by decide +kernel
def ev_c_208_1 : List (Nat × Instr × Nat) := [(33, .invokespecial 65, 3), (36, .athrow, 1), (37, .return_, 1)]
set_option maxRecDepth 100000 in
theorem ev_d_208_1 : ∀ q ∈ ev_c_208_1, decode prog_40_method_131_code q.1 = .ok (q.2.1, q.2.2) := by decide +kernel
def ev_c_208 : List (Nat × List (Nat × Instr × Nat)) := [(0, ev_c_208_0), (1, ev_c_208_1)]
set_option maxRecDepth 100000 in
theorem ev_d_208 : ∀ q ∈ ev_c_208, ∀ z ∈ q.2, decode prog_40_method_131_code z.1 = .ok (z.2.1, z.2.2) := List.forall_mem_cons.mpr ⟨ev_d_208_0, List.forall_mem_cons.mpr ⟨ev_d_208_1, fun _ h => absurd h List.not_mem_nil⟩⟩
def ev_c_209_0 : List (Nat × Instr × Nat) := [(0, .aload_n 0, 1), (1, .aload_n 1, 1), (2, .if_acmp .ne 5, 3), (5, .iconst 1, 1), (6, .ireturn, 1), (7, .aload_n 0, 1), (8, .ifnull 7, 3), (11, .aload_n 1, 1), (12, .ifnonnull 5, 3), (15, .iconst 0, 1), (16, .ireturn, 1), (17, .aload_n 0, 1), (18, .arraylength, 1), (19, .istore_n 2, 1), (20, .aload_n 1, 1), (21, .arraylength, 1), (22, .iload_n 2, 1), (23, .if_icmp .eq 5, 3), (26, .iconst 0, 1), (27, .ireturn, 1), (28, .aload_n 0, 1), (29, .aload_n 1, 1), (30, .iload_n 2, 1), (31, .invokestatic 245, 3)]
set_option maxRecDepth 100000 in
theorem ev_d_209_0 : ∀ q ∈ ev_c_209_0, decode prog_40_method_81_code q.1 = .ok (q.2.1, q.2.2) := by decide +kernel
def ev_c_209_1 : List (Nat × Instr × Nat) := [(34, .ifCond .ge 7, 3), (37, .iconst 1, 1), (38, .goto 4, 3), (41, .iconst 0, 1), (42, .ireturn, 1)]
set_option maxRecDepth 100000 in
theorem ev_d_209_1 : ∀ q ∈ ev_c_209_1, decode prog_40_method_81_code q.1 = .ok (q.2.1, q.2.2) := by decide +kernel
def ev_c_209 : List (Nat × List (Nat × Instr × Nat)) := [(0, ev_c_209_0), (1, ev_c_209_1)]
set_option maxRecDepth 100000 in
theorem ev_d_209 : ∀ q ∈ ev_c_209, ∀ z ∈ q.2, decode prog_40_method_81_code z.1 = .ok (z.2.1, z.2.2) := List.forall_mem_cons.mpr ⟨ev_d_209_0, List.forall_mem_cons.mpr ⟨ev_d_209_1, fun _ h => absurd h List.not_mem_nil⟩⟩
def ev_c_210_0 : List (Nat × Instr × Nat) := [(0, .iload_n 0, 1), (1, .iload_n 1, 1), (2, .iload_n 2, 1), (3, .invokestatic 194, 3), (6, .iadd, 1), (7, .istore_n 3, 1), (8, .iconst 0, 1), (9, .iload_n 3, 1), (10, .if_icmp .ge 11, 3), (13, .iload_n 3, 1), (14, .ldc 200, 2), (16, .if_icmp .gt 5, 3), (19, .iload_n 3, 1), (20, .ireturn, 1), (21, .iload_n 0, 1), (22, .iload_n 1, 1), (23, .invokestatic 201, 3), (26, .ireturn, 1)]
set_option maxRecDepth 100000 in
theorem ev_d_210_0 : ∀ q ∈ ev_c_210_0, decode prog_48_method_27_code q.1 = .ok (q.2.1, q.2.2) := by decide +kernel
def ev_c_210 : List (Nat × List (Nat × Instr × Nat)) := [(0, ev_c_210_0)]
set_option maxRecDepth 100000 in
theorem ev_d_210 : ∀ q ∈ ev_c_210, ∀ z ∈ q.2, decode prog_48_method_27_code z.1 = .ok (z.2.1, z.2.2) := List.forall_mem_cons.mpr ⟨ev_d_210_0, fun _ h => absurd h List.not_mem_nil⟩
def ev_c_211_0 : List (Nat × Instr × Nat) := [(0, .iload_n 2, 1), (1, .ifCond .ne 5, 3), (4, .iconst (-1), 1), (5, .ireturn, 1), (6, .aload_n 0, 1), (7, .iconst 0, 1), (8, .laload, 1), (9, .aload_n 1, 1), (10, .iconst 0, 1), (11, .laload, 1), (12, .lcmp, 1), (13, .ifCond .eq 5, 3), (16, .iconst 0, 1), (17, .ireturn, 1), (18, .aload_n 0, 1), (19, .getstatic 170, 3), (22, .i2l, 1), (23, .aload_n 1, 1), (24, .getstatic 170, 3), (27, .i2l, 1), (28, .iload_n 2, 1), (29, .getstatic 20, 3)]
set_option maxRecDepth 100000 in
theorem ev_d_211_0 : ∀ q ∈ ev_c_211_0, decode prog_48_method_23_code q.1 = .ok (q.2.1, q.2.2) := by decide +kernel
def ev_c_211_1 : List (Nat × Instr × Nat) := [(32, .invokestatic 122, 3), (35, .istore_n 3, 1), (36, .iload_n 3, 1), (37, .ifCond .lt 7, 3), (40, .iload_n 3, 1), (41, .goto 4, 3), (44, .iconst (-1), 1), (45, .ireturn, 1)]
set_option maxRecDepth 100000 in
theorem ev_d_211_1 : ∀ q ∈ ev_c_211_1, decode prog_48_method_23_code q.1 = .ok (q.2.1, q.2.2) := by decide +kernel
def ev_c_211 : List (Nat × List (Nat × Instr × Nat)) := [(0, ev_c_211_0), (1, ev_c_211_1)]
set_option maxRecDepth 100000 in
theorem ev_d_211 : ∀ q ∈ ev_c_211, ∀ z ∈ q.2, decode prog_48_method_23_code z.1 = .ok (z.2.1, z.2.2) := List.forall_mem_cons.mpr ⟨ev_d_211_0, List.forall_mem_cons.mpr ⟨ev_d_211_1, fun _ h => absurd h List.not_mem_nil⟩⟩
def ev_c_212_0 : List (Nat × Instr × Nat) := [(0, .getstatic 20, 3), (3, .iload 7, 2), (5, .isub, 1), (6, .istore 8, 2), (8, .iconst 0, 1), (9, .istore 9, 2), (11, .iload 9, 2), (13, .iload 6, 2), (15, .iload 8, 2), (17, .ishr, 1), (18, .if_icmp .ge 104, 3), (21, .iload 9, 2), (23, .i2l, 1), (24, .getstatic 20, 3), (27, .lshl, 1), (28, .lstore 10, 2), (30, .getstatic 26, 3)]
set_option maxRecDepth 100000 in
theorem ev_d_212_0 : ∀ q ∈ ev_c_212_0, decode prog_48_method_3_code q.1 = .ok (q.2.1, q.2.2) := by decide +kernel
def ev_c_212_1 : List (Nat × Instr × Nat) := [(33, .aload_n 0, 1), (34, .lload_n 1, 1), (35, .lload 10, 2), (37, .ladd, 1), (38, .invokevirtual 30, 3), (41, .lstore 12, 2), (43, .getstatic 26, 3), (46, .aload_n 3, 1), (47, .lload 4, 2), (49, .lload 10, 2), (51, .ladd, 1), (52, .invokevirtual 30, 3), (55, .lstore 14, 2), (57, .lload 12, 2), (59, .lload 14, 2), (61, .lcmp, 1), (62, .ifCond .eq 54, 3)]
set_option maxRecDepth 100000 in
theorem ev_d_212_1 : ∀ q ∈ ev_c_212_1, decode prog_48_method_3_code q.1 = .ok (q.2.1, q.2.2) := by decide +kernel
def ev_c_212_2 : List (Nat × Instr × Nat) := [(65, .lload 12, 2), (67, .lload 14, 2), (69, .lxor, 1), (70, .lstore 16, 2), (72, .getstatic 36, 3), (75, .ifCond .eq 18, 3), (78, .lload 16, 2), (80, .invokestatic 40, 3), (83, .getstatic 46, 3), (86, .iload 7, 2), (88, .iadd, 1), (89, .ishr, 1), (90, .goto 15, 3), (93, .lload 16, 2), (95, .invokestatic 49, 3)]
set_option maxRecDepth 100000 in
theorem ev_d_212_2 : ∀ q ∈ ev_c_212_2, decode prog_48_method_3_code q.1 = .ok (q.2.1, q.2.2) := by decide +kernel
def ev_c_212_3 : List (Nat × Instr × Nat) := [(98, .getstatic 46, 3), (101, .iload 7, 2), (103, .iadd, 1), (104, .ishr, 1), (105, .istore 18, 2), (107, .iload 9, 2), (109, .iload 8, 2), (111, .ishl, 1), (112, .iload 18, 2), (114, .iadd, 1), (115, .ireturn, 1), (116, .iinc 9 1, 3), (119, .goto (-108), 3), (122, .iload 6, 2), (124, .iload 9, 2), (126, .iload 8, 2)]
set_option maxRecDepth 100000 in
theorem ev_d_212_3 : ∀ q ∈ ev_c_212_3, decode prog_48_method_3_code q.1 = .ok (q.2.1, q.2.2) := by decide +kernel
def ev_c_212_4 : List (Nat × Instr × Nat) := [(128, .ishl, 1), (129, .isub, 1), (130, .istore 10, 2), (132, .iload 7, 2), (134, .getstatic 51, 3), (137, .if_icmp .ge 126, 3), (140, .iconst 1, 1), (141, .getstatic 51, 3), (144, .iload 7, 2), (146, .isub, 1), (147, .ishl, 1), (148, .istore 11, 2), (150, .iload 10, 2), (152, .iload 11, 2), (154, .if_icmp .lt 104, 3), (157, .iload 9, 2), (159, .i2l, 1)]
set_option maxRecDepth 100000 in
theorem ev_d_212_4 : ∀ q ∈ ev_c_212_4, decode prog_48_method_3_code q.1 = .ok (q.2.1, q.2.2) := by decide +kernel
def ev_c_212_5 : List (Nat × Instr × Nat) := [(160, .getstatic 20, 3), (163, .lshl, 1), (164, .lstore 12, 2), (166, .getstatic 26, 3), (169, .aload_n 0, 1), (170, .lload_n 1, 1), (171, .lload 12, 2), (173, .ladd, 1), (174, .invokevirtual 54, 3), (177, .istore 14, 2), (179, .getstatic 26, 3), (182, .aload_n 3, 1), (183, .lload 4, 2), (185, .lload 12, 2), (187, .ladd, 1), (188, .invokevirtual 54, 3), (191, .istore 15, 2)]
set_option maxRecDepth 100000 in
theorem ev_d_212_5 : ∀ q ∈ ev_c_212_5, decode prog_48_method_3_code q.1 = .ok (q.2.1, q.2.2) := by decide +kernel
def ev_c_212_6 : List (Nat × Instr × Nat) := [(193, .iload 14, 2), (195, .iload 15, 2), (197, .if_icmp .eq 54, 3), (200, .iload 14, 2), (202, .iload 15, 2), (204, .ixor, 1), (205, .istore 16, 2), (207, .getstatic 36, 3), (210, .ifCond .eq 18, 3), (213, .iload 16, 2), (215, .invokestatic 58, 3), (218, .getstatic 46, 3), (221, .iload 7, 2), (223, .iadd, 1)]
set_option maxRecDepth 100000 in
theorem ev_d_212_6 : ∀ q ∈ ev_c_212_6, decode prog_48_method_3_code q.1 = .ok (q.2.1, q.2.2) := by decide +kernel
def ev_c_212_7 : List (Nat × Instr × Nat) := [(224, .ishr, 1), (225, .goto 15, 3), (228, .iload 16, 2), (230, .invokestatic 11, 3), (233, .getstatic 46, 3), (236, .iload 7, 2), (238, .iadd, 1), (239, .ishr, 1), (240, .istore 17, 2), (242, .iload 9, 2), (244, .iload 8, 2), (246, .ishl, 1), (247, .iload 17, 2), (249, .iadd, 1), (250, .ireturn, 1), (251, .iload 10, 2), (253, .iload 11, 2), (255, .isub, 1)]
set_option maxRecDepth 100000 in
theorem ev_d_212_7 : ∀ q ∈ ev_c_212_7, decode prog_48_method_3_code q.1 = .ok (q.2.1, q.2.2) := by decide +kernel
def ev_c_212_8 : List (Nat × Instr × Nat) := [(256, .istore 10, 2), (258, .iload 10, 2), (260, .iconst (-1), 1), (261, .ixor, 1), (262, .ireturn, 1), (263, .iload 10, 2), (265, .iconst (-1), 1), (266, .ixor, 1), (267, .ireturn, 1)]
set_option maxRecDepth 100000 in
theorem ev_d_212_8 : ∀ q ∈ ev_c_212_8, decode prog_48_method_3_code q.1 = .ok (q.2.1, q.2.2) := by decide +kernel
def ev_c_212 : List (Nat × List (Nat × Instr × Nat)) := [(0, ev_c_212_0), (1, ev_c_212_1), (2, ev_c_212_2), (3, ev_c_212_3), (4, ev_c_212_4), (5, ev_c_212_5), (6, ev_c_212_6), (7, ev_c_212_7), (8, ev_c_212_8)]
set_option maxRecDepth 100000 in
theorem ev_d_212 : ∀ q ∈ ev_c_212, ∀ z ∈ q.2, decode prog_48_method_3_code z.1 = .ok (z.2.1, z.2.2) := List.forall_mem_cons.mpr ⟨ev_d_212_0, List.forall_mem_cons.mpr ⟨ev_d_212_1, List.forall_mem_cons.mpr ⟨ev_d_212_2, List.forall_mem_cons.mpr ⟨ev_d_212_3, List.forall_mem_cons.mpr ⟨ev_d_212_4, List.forall_mem_cons.mpr ⟨ev_d_212_5, List.forall_mem_cons.mpr ⟨ev_d_212_6, List.forall_mem_cons.mpr ⟨ev_d_212_7, List.forall_mem_cons.mpr ⟨ev_d_212_8, fun _ h => absurd h List.not_mem_nil⟩⟩⟩⟩⟩⟩⟩⟩⟩
def ev_c_213_0 : List (Nat × Instr × Nat) := [(0, .iload_n 0, 1), (1, .iload_n 1, 1), (2, .aconst_null, 1), (3, .invokestatic 105, 3), (6, .ireturn, 1)]
set_option maxRecDepth 100000 in
theorem ev_d_213_0 : ∀ q ∈ ev_c_213_0, decode prog_43_method_17_code q.1 = .ok (q.2.1, q.2.2) := by decide +kernel
def ev_c_213 : List (Nat × List (Nat × Instr × Nat)) := [(0, ev_c_213_0)]
set_option maxRecDepth 100000 in
theorem ev_d_213 : ∀ q ∈ ev_c_213, ∀ z ∈ q.2, decode prog_43_method_17_code z.1 = .ok (z.2.1, z.2.2) := List.forall_mem_cons.mpr ⟨ev_d_213_0, fun _ h => absurd h List.not_mem_nil⟩
def ev_c_214_0 : List (Nat × Instr × Nat) := [(0, .iload_n 0, 1), (1, .ifCond .lt 8, 3), (4, .iload_n 0, 1), (5, .iload_n 1, 1), (6, .if_icmp .lt 10, 3), (9, .aload_n 2, 1), (10, .iload_n 0, 1), (11, .iload_n 1, 1), (12, .invokestatic 95, 3), (15, .athrow, 1), (16, .iload_n 0, 1), (17, .ireturn, 1)]
set_option maxRecDepth 100000 in
theorem ev_d_214_0 : ∀ q ∈ ev_c_214_0, decode prog_49_method_11_code q.1 = .ok (q.2.1, q.2.2) := by decide +kernel
def ev_c_214 : List (Nat × List (Nat × Instr × Nat)) := [(0, ev_c_214_0)]
set_option maxRecDepth 100000 in
theorem ev_d_214 : ∀ q ∈ ev_c_214, ∀ z ∈ q.2, decode prog_49_method_11_code z.1 = .ok (z.2.1, z.2.2) := List.forall_mem_cons.mpr ⟨ev_d_214_0, fun _ h => absurd h List.not_mem_nil⟩
end
section
/-! code, by wip/gen/gen.py -/
def ev_c_215_0 : List (Nat × Instr × Nat) := [(0, .new 14, 3), (3, .dup, 1), (4, .invokespecial 206, 3), (7, .astore_n 1, 1), (8, .bipush 7, 2), (10, .newarray .int, 2), (12, .astore_n 2, 1), (13, .aload_n 0, 1), (14, .invokestatic 207, 3), (17, .astore_n 3, 1), (18, .aload_n 3, 1), (19, .invokestatic 211, 3), (22, .astore 4, 2), (24, .aload_n 1, 1), (25, .aload_n 1, 1), (26, .aload_n 2, 1), (27, .aload 4, 2), (29, .invokestatic 215, 3)]
set_option maxRecDepth 100000 in
theorem ev_d_215_0 : ∀ q ∈ ev_c_215_0, decode code q.1 = .ok (q.2.1, q.2.2) := by decide +kernel
def ev_c_215_1 : List (Nat × Instr × Nat) := [(32, .invokevirtual 219, 3), (35, .aload_n 3, 1), (36, .getfield 66, 3), (39, .invokevirtual 98, 3), (42, .if_icmp .eq 5, 3), (45, .iconst 0, 1), (46, .ireturn, 1), (47, .bipush 100, 2), (49, .newarray .long, 2), (51, .astore 5, 2), (53, .bipush 100, 2), (55, .newarray .long, 2), (57, .astore 6, 2), (59, .iconst 0, 1), (60, .istore 7, 2), (62, .iload 7, 2)]
set_option maxRecDepth 100000 in
theorem ev_d_215_1 : ∀ q ∈ ev_c_215_1, decode code q.1 = .ok (q.2.1, q.2.2) := by decide +kernel
def ev_c_215_2 : List (Nat × Instr × Nat) := [(64, .bipush 20, 2), (66, .if_icmp .ge 902, 3), (69, .aload_n 0, 1), (70, .bipush 10, 2), (72, .iload 7, 2), (74, .iadd, 1), (75, .invokestatic 28, 3), (78, .istore 8, 2), (80, .iload 8, 2), (82, .iconst 1, 1), (83, .iand, 1), (84, .istore 9, 2), (86, .iload 8, 2), (88, .iconst 5, 1), (89, .iushr, 1), (90, .bipush 15, 2), (92, .iand, 1), (93, .aload_n 1, 1), (94, .iconst 4, 1), (95, .invokevirtual 200, 3)]
set_option maxRecDepth 100000 in
theorem ev_d_215_2 : ∀ q ∈ ev_c_215_2, decode code q.1 = .ok (q.2.1, q.2.2) := by decide +kernel
def ev_c_215_3 : List (Nat × Instr × Nat) := [(98, .irem, 1), (99, .istore 10, 2), (101, .iload 8, 2), (103, .bipush 9, 2), (105, .iushr, 1), (106, .iconst 1, 1), (107, .iand, 1), (108, .aload_n 3, 1), (109, .getfield 45, 3), (112, .arraylength, 1), (113, .irem, 1), (114, .istore 11, 2), (116, .iload 8, 2), (118, .bipush 10, 2), (120, .iushr, 1), (121, .iconst 3, 1), (122, .iand, 1), (123, .istore 12, 2), (125, .iload 8, 2), (127, .bipush 12, 2)]
set_option maxRecDepth 100000 in
theorem ev_d_215_3 : ∀ q ∈ ev_c_215_3, decode code q.1 = .ok (q.2.1, q.2.2) := by decide +kernel
def ev_c_215_4 : List (Nat × Instr × Nat) := [(129, .iushr, 1), (130, .iconst 1, 1), (131, .iand, 1), (132, .aload_n 3, 1), (133, .getfield 41, 3), (136, .arraylength, 1), (137, .irem, 1), (138, .istore 13, 2), (140, .iconst 1, 1), (141, .iload 8, 2), (143, .bipush 13, 2), (145, .iushr, 1), (146, .iconst 3, 1), (147, .iand, 1), (148, .iadd, 1), (149, .istore 14, 2), (151, .aload_n 1, 1), (152, .aload 5, 2), (154, .invokestatic 222, 3), (157, .aload_n 1, 1), (158, .iload 9, 2)]
set_option maxRecDepth 100000 in
theorem ev_d_215_4 : ∀ q ∈ ev_c_215_4, decode code q.1 = .ok (q.2.1, q.2.2) := by decide +kernel
def ev_c_215_5 : List (Nat × Instr × Nat) := [(160, .invokevirtual 226, 3), (163, .i2l, 1), (164, .aload 5, 2), (166, .iconst 5, 1), (167, .laload, 1), (168, .lcmp, 1), (169, .ifCond .ne 17, 3), (172, .aload_n 1, 1), (173, .invokevirtual 203, 3), (176, .ifCond .ne 10, 3), (179, .aload_n 1, 1), (180, .invokestatic 229, 3), (183, .ifCond .ne 5, 3), (186, .iconst 0, 1), (187, .ireturn, 1), (188, .iload 8, 2), (190, .iconst 1, 1), (191, .iushr, 1)]
set_option maxRecDepth 100000 in
theorem ev_d_215_5 : ∀ q ∈ ev_c_215_5, decode code q.1 = .ok (q.2.1, q.2.2) := by decide +kernel
def ev_c_215_6 : List (Nat × Instr × Nat) := [(192, .bipush 15, 2), (194, .iand, 1), (195, .istore 15, 2), (197, .iload 15, 2), (199, .iconst 3, 1), (200, .if_icmp .ge 66, 3), (203, .aload_n 1, 1), (204, .iload 11, 2), (206, .iconst 1, 1), (207, .invokevirtual 233, 3), (210, .istore 16, 2), (212, .aload_n 1, 1), (213, .iload 10, 2), (215, .iload 11, 2), (217, .invokevirtual 235, 3), (220, .ifCond .ne 43, 3), (223, .aload_n 1, 1)]
set_option maxRecDepth 100000 in
theorem ev_d_215_6 : ∀ q ∈ ev_c_215_6, decode code q.1 = .ok (q.2.1, q.2.2) := by decide +kernel
def ev_c_215_7 : List (Nat × Instr × Nat) := [(224, .iload 10, 2), (226, .iload 11, 2), (228, .invokevirtual 238, 3), (231, .iload 16, 2), (233, .iconst 1, 1), (234, .iadd, 1), (235, .if_icmp .ne 26, 3), (238, .aload_n 1, 1), (239, .iload 11, 2), (241, .iload 16, 2), (243, .invokevirtual 240, 3), (246, .iload 10, 2), (248, .if_icmp .ne 13, 3), (251, .aload_n 1, 1), (252, .iload 10, 2), (254, .invokevirtual 243, 3)]
set_option maxRecDepth 100000 in
theorem ev_d_215_7 : ∀ q ∈ ev_c_215_7, decode code q.1 = .ok (q.2.1, q.2.2) := by decide +kernel
def ev_c_215_8 : List (Nat × Instr × Nat) := [(257, .iconst 2, 1), (258, .if_icmp .eq 5, 3), (261, .iconst 0, 1), (262, .ireturn, 1), (263, .goto 631, 3), (266, .iload 15, 2), (268, .bipush 6, 2), (270, .if_icmp .ge 103, 3), (273, .aload_n 1, 1), (274, .iload 11, 2), (276, .invokevirtual 246, 3), (279, .istore 16, 2), (281, .iload 16, 2), (283, .ifCond .ge 7, 3), (286, .iconst 0, 1), (287, .goto 11, 3)]
set_option maxRecDepth 100000 in
theorem ev_d_215_8 : ∀ q ∈ ev_c_215_8, decode code q.1 = .ok (q.2.1, q.2.2) := by decide +kernel
def ev_c_215_9 : List (Nat × Instr × Nat) := [(290, .aload_n 1, 1), (291, .iload 11, 2), (293, .iload 16, 2), (295, .invokevirtual 249, 3), (298, .istore 17, 2), (300, .aload_n 1, 1), (301, .iload 11, 2), (303, .iconst 1, 1), (304, .invokevirtual 233, 3), (307, .istore 18, 2), (309, .iload 16, 2), (311, .ifCond .lt 59, 3), (314, .aload_n 1, 1), (315, .iload 11, 2), (317, .iload 16, 2), (319, .invokevirtual 252, 3)]
set_option maxRecDepth 100000 in
theorem ev_d_215_9 : ∀ q ∈ ev_c_215_9, decode code q.1 = .ok (q.2.1, q.2.2) := by decide +kernel
def ev_c_215_10 : List (Nat × Instr × Nat) := [(322, .ifCond .ne 46, 3), (325, .aload_n 1, 1), (326, .iload 11, 2), (328, .iload 16, 2), (330, .invokevirtual 255, 3), (333, .iload 17, 2), (335, .if_icmp .ne 33, 3), (338, .aload_n 1, 1), (339, .iload 11, 2), (341, .iconst 1, 1), (342, .invokevirtual 233, 3), (345, .ifCond .ne 23, 3), (348, .aload_n 1, 1), (349, .bipush 7, 2), (351, .invokevirtual 200, 3)]
set_option maxRecDepth 100000 in
theorem ev_d_215_10 : ∀ q ∈ ev_c_215_10, decode code q.1 = .ok (q.2.1, q.2.2) := by decide +kernel
def ev_c_215_11 : List (Nat × Instr × Nat) := [(354, .i2l, 1), (355, .aload 5, 2), (357, .bipush 7, 2), (359, .laload, 1), (360, .iload 18, 2), (362, .i2l, 1), (363, .ladd, 1), (364, .lcmp, 1), (365, .ifCond .eq 5, 3), (368, .iconst 0, 1), (369, .ireturn, 1), (370, .goto 524, 3), (373, .iload 15, 2), (375, .bipush 6, 2), (377, .if_icmp .ne 57, 3), (380, .aload_n 1, 1), (381, .iload 11, 2), (383, .iload 12, 2)]
set_option maxRecDepth 100000 in
theorem ev_d_215_11 : ∀ q ∈ ev_c_215_11, decode code q.1 = .ok (q.2.1, q.2.2) := by decide +kernel
def ev_c_215_12 : List (Nat × Instr × Nat) := [(385, .invokevirtual 256, 3), (388, .istore 16, 2), (390, .iload 16, 2), (392, .ifCond .lt 39, 3), (395, .aload_n 1, 1), (396, .iload 16, 2), (398, .iload 11, 2), (400, .invokevirtual 238, 3), (403, .iconst 1, 1), (404, .if_icmp .lt 25, 3), (407, .aload_n 1, 1), (408, .iload 11, 2), (410, .iload 12, 2), (412, .invokevirtual 252, 3), (415, .ifCond .ne 14, 3)]
set_option maxRecDepth 100000 in
theorem ev_d_215_12 : ∀ q ∈ ev_c_215_12, decode code q.1 = .ok (q.2.1, q.2.2) := by decide +kernel
def ev_c_215_13 : List (Nat × Instr × Nat) := [(418, .aload_n 1, 1), (419, .iload 11, 2), (421, .iload 12, 2), (423, .invokevirtual 255, 3), (426, .ifCond .eq 5, 3), (429, .iconst 0, 1), (430, .ireturn, 1), (431, .goto 463, 3), (434, .iload 15, 2), (436, .bipush 7, 2), (438, .if_icmp .ne 59, 3), (441, .aload_n 1, 1), (442, .invokevirtual 259, 3), (445, .istore 16, 2), (447, .aload_n 1, 1)]
set_option maxRecDepth 100000 in
theorem ev_d_215_13 : ∀ q ∈ ev_c_215_13, decode code q.1 = .ok (q.2.1, q.2.2) := by decide +kernel
def ev_c_215_14 : List (Nat × Instr × Nat) := [(448, .invokevirtual 262, 3), (451, .istore 17, 2), (453, .iload 17, 2), (455, .iload 16, 2), (457, .if_icmp .gt 35, 3), (460, .aload_n 1, 1), (461, .invokevirtual 259, 3), (464, .iload 16, 2), (466, .iload 17, 2), (468, .isub, 1), (469, .if_icmp .ne 23, 3), (472, .aload_n 1, 1), (473, .bipush 9, 2), (475, .invokevirtual 200, 3), (478, .i2l, 1), (479, .aload 5, 2)]
set_option maxRecDepth 100000 in
theorem ev_d_215_14 : ∀ q ∈ ev_c_215_14, decode code q.1 = .ok (q.2.1, q.2.2) := by decide +kernel
def ev_c_215_15 : List (Nat × Instr × Nat) := [(481, .bipush 9, 2), (483, .laload, 1), (484, .iload 17, 2), (486, .i2l, 1), (487, .ladd, 1), (488, .lcmp, 1), (489, .ifCond .eq 5, 3), (492, .iconst 0, 1), (493, .ireturn, 1), (494, .goto 400, 3), (497, .iload 15, 2), (499, .bipush 10, 2), (501, .if_icmp .ge 77, 3), (504, .aload_n 1, 1), (505, .iload 14, 2), (507, .invokevirtual 265, 3), (510, .istore 16, 2)]
set_option maxRecDepth 100000 in
theorem ev_d_215_15 : ∀ q ∈ ev_c_215_15, decode code q.1 = .ok (q.2.1, q.2.2) := by decide +kernel
def ev_c_215_16 : List (Nat × Instr × Nat) := [(512, .aload_n 1, 1), (513, .iload 10, 2), (515, .invokevirtual 268, 3), (518, .istore 17, 2), (520, .aload_n 1, 1), (521, .iload 14, 2), (523, .invokevirtual 271, 3), (526, .iload 16, 2), (528, .if_icmp .ne 45, 3), (531, .aload_n 1, 1), (532, .bipush 14, 2), (534, .invokevirtual 200, 3), (537, .i2l, 1), (538, .aload 5, 2), (540, .bipush 14, 2), (542, .laload, 1), (543, .iload 16, 2)]
set_option maxRecDepth 100000 in
theorem ev_d_215_16 : ∀ q ∈ ev_c_215_16, decode code q.1 = .ok (q.2.1, q.2.2) := by decide +kernel
def ev_c_215_17 : List (Nat × Instr × Nat) := [(545, .i2l, 1), (546, .ladd, 1), (547, .lcmp, 1), (548, .ifCond .ne 25, 3), (551, .iload 17, 2), (553, .ifCond .lt 22, 3), (556, .iload 17, 2), (558, .iload 14, 2), (560, .if_icmp .gt 15, 3), (563, .aload_n 1, 1), (564, .iload 10, 2), (566, .iconst 4, 1), (567, .invokevirtual 177, 3), (570, .ifCond .eq 5, 3), (573, .iconst 0, 1), (574, .ireturn, 1), (575, .goto 319, 3)]
set_option maxRecDepth 100000 in
theorem ev_d_215_17 : ∀ q ∈ ev_c_215_17, decode code q.1 = .ok (q.2.1, q.2.2) := by decide +kernel
def ev_c_215_18 : List (Nat × Instr × Nat) := [(578, .iload 15, 2), (580, .bipush 12, 2), (582, .if_icmp .ge 104, 3), (585, .aload_n 1, 1), (586, .iload 10, 2), (588, .iload 12, 2), (590, .invokevirtual 274, 3), (593, .istore 16, 2), (595, .aload_n 1, 1), (596, .iload 10, 2), (598, .iload 12, 2), (600, .invokevirtual 277, 3), (603, .istore 17, 2), (605, .iconst 0, 1), (606, .istore 18, 2)]
set_option maxRecDepth 100000 in
theorem ev_d_215_18 : ∀ q ∈ ev_c_215_18, decode code q.1 = .ok (q.2.1, q.2.2) := by decide +kernel
def ev_c_215_19 : List (Nat × Instr × Nat) := [(608, .iload 18, 2), (610, .iload 16, 2), (612, .if_icmp .ge 49, 3), (615, .iload 17, 2), (617, .ifCond .ne 44, 3), (620, .aload_n 1, 1), (621, .iload 10, 2), (623, .iload 12, 2), (625, .invokevirtual 280, 3), (628, .ifCond .ne 7, 3), (631, .iconst 1, 1), (632, .goto 4, 3), (635, .iconst 0, 1), (636, .iload 18, 2), (638, .iload 16, 2)]
set_option maxRecDepth 100000 in
theorem ev_d_215_19 : ∀ q ∈ ev_c_215_19, decode code q.1 = .ok (q.2.1, q.2.2) := by decide +kernel
def ev_c_215_20 : List (Nat × Instr × Nat) := [(640, .iconst 1, 1), (641, .isub, 1), (642, .if_icmp .ne 7, 3), (645, .iconst 1, 1), (646, .goto 4, 3), (649, .iconst 0, 1), (650, .if_icmp .eq 5, 3), (653, .iconst 0, 1), (654, .ireturn, 1), (655, .iinc 18 1, 3), (658, .goto (-50), 3), (661, .iload 16, 2), (663, .ifCond .le 20, 3), (666, .iload 17, 2), (668, .ifCond .ne 15, 3), (671, .aload_n 1, 1)]
set_option maxRecDepth 100000 in
theorem ev_d_215_20 : ∀ q ∈ ev_c_215_20, decode code q.1 = .ok (q.2.1, q.2.2) := by decide +kernel
def ev_c_215_21 : List (Nat × Instr × Nat) := [(672, .iload 10, 2), (674, .iconst 5, 1), (675, .invokevirtual 177, 3), (678, .ifCond .eq 5, 3), (681, .iconst 0, 1), (682, .ireturn, 1), (683, .goto 211, 3), (686, .iload 15, 2), (688, .bipush 12, 2), (690, .if_icmp .ne 35, 3), (693, .aload_n 1, 1), (694, .iload 10, 2), (696, .invokevirtual 283, 3), (699, .ifCond .ne 195, 3), (702, .aload_n 1, 1), (703, .iload 10, 2)]
set_option maxRecDepth 100000 in
theorem ev_d_215_21 : ∀ q ∈ ev_c_215_21, decode code q.1 = .ok (q.2.1, q.2.2) := by decide +kernel
def ev_c_215_22 : List (Nat × Instr × Nat) := [(705, .invokevirtual 286, 3), (708, .iconst 1, 1), (709, .if_icmp .lt 14, 3), (712, .aload_n 1, 1), (713, .iload 10, 2), (715, .bipush 6, 2), (717, .invokevirtual 177, 3), (720, .ifCond .eq 174, 3), (723, .iconst 0, 1), (724, .ireturn, 1), (725, .iload 15, 2), (727, .bipush 15, 2), (729, .if_icmp .ge 118, 3), (732, .aload_n 1, 1), (733, .iload 13, 2), (735, .iconst 0, 1)]
set_option maxRecDepth 100000 in
theorem ev_d_215_22 : ∀ q ∈ ev_c_215_22, decode code q.1 = .ok (q.2.1, q.2.2) := by decide +kernel
def ev_c_215_23 : List (Nat × Instr × Nat) := [(736, .invokevirtual 289, 3), (739, .istore 16, 2), (741, .aload_n 1, 1), (742, .iload 13, 2), (744, .iconst 5, 1), (745, .invokevirtual 183, 3), (748, .ifCond .ne 27, 3), (751, .aload_n 1, 1), (752, .iload 13, 2), (754, .iconst 3, 1), (755, .invokevirtual 183, 3), (758, .ifCond .le 17, 3), (761, .aload_n 1, 1), (762, .iload 13, 2), (764, .invokevirtual 292, 3), (767, .iconst (-1), 1)]
set_option maxRecDepth 100000 in
theorem ev_d_215_23 : ∀ q ∈ ev_c_215_23, decode code q.1 = .ok (q.2.1, q.2.2) := by decide +kernel
def ev_c_215_24 : List (Nat × Instr × Nat) := [(768, .if_icmp .ne 7, 3), (771, .iconst 1, 1), (772, .goto 4, 3), (775, .iconst 0, 1), (776, .istore 17, 2), (778, .iload 17, 2), (780, .ifCond .eq 64, 3), (783, .aload_n 1, 1), (784, .iload 13, 2), (786, .iconst 4, 1), (787, .invokevirtual 183, 3), (790, .aload_n 1, 1), (791, .iload 13, 2), (793, .iconst 3, 1), (794, .invokevirtual 183, 3), (797, .if_icmp .ne 45, 3)]
set_option maxRecDepth 100000 in
theorem ev_d_215_24 : ∀ q ∈ ev_c_215_24, decode code q.1 = .ok (q.2.1, q.2.2) := by decide +kernel
def ev_c_215_25 : List (Nat × Instr × Nat) := [(800, .aload_n 1, 1), (801, .iload 13, 2), (803, .invokevirtual 295, 3), (806, .iload 16, 2), (808, .if_icmp .ne 34, 3), (811, .aload_n 1, 1), (812, .bipush 11, 2), (814, .invokevirtual 200, 3), (817, .i2l, 1), (818, .aload 5, 2), (820, .bipush 11, 2), (822, .laload, 1), (823, .iload 16, 2), (825, .i2l, 1), (826, .ladd, 1), (827, .lcmp, 1), (828, .ifCond .ne 14, 3), (831, .aload_n 1, 1)]
set_option maxRecDepth 100000 in
theorem ev_d_215_25 : ∀ q ∈ ev_c_215_25, decode code q.1 = .ok (q.2.1, q.2.2) := by decide +kernel
def ev_c_215_26 : List (Nat × Instr × Nat) := [(832, .iload 13, 2), (834, .iconst 5, 1), (835, .invokevirtual 183, 3), (838, .iconst 1, 1), (839, .if_icmp .eq 5, 3), (842, .iconst 0, 1), (843, .ireturn, 1), (844, .goto 50, 3), (847, .iload 14, 2), (849, .iconst 3, 1), (850, .imul, 1), (851, .iconst 3, 1), (852, .isub, 1), (853, .istore 16, 2), (855, .aload_n 1, 1), (856, .iload 10, 2), (858, .iload 16, 2), (860, .invokevirtual 298, 3), (863, .istore 17, 2)]
set_option maxRecDepth 100000 in
theorem ev_d_215_26 : ∀ q ∈ ev_c_215_26, decode code q.1 = .ok (q.2.1, q.2.2) := by decide +kernel
def ev_c_215_27 : List (Nat × Instr × Nat) := [(865, .aload_n 1, 1), (866, .iload 16, 2), (868, .invokevirtual 301, 3), (871, .i2l, 1), (872, .aload 5, 2), (874, .bipush 6, 2), (876, .laload, 1), (877, .lcmp, 1), (878, .ifCond .ne 14, 3), (881, .aload_n 1, 1), (882, .iload 10, 2), (884, .invokevirtual 268, 3), (887, .iload 17, 2), (889, .if_icmp .eq 5, 3), (892, .iconst 0, 1), (893, .ireturn, 1), (894, .aload_n 1, 1), (895, .invokevirtual 203, 3)]
set_option maxRecDepth 100000 in
theorem ev_d_215_27 : ∀ q ∈ ev_c_215_27, decode code q.1 = .ok (q.2.1, q.2.2) := by decide +kernel
def ev_c_215_28 : List (Nat × Instr × Nat) := [(898, .ifCond .ne 10, 3), (901, .aload_n 1, 1), (902, .invokestatic 229, 3), (905, .ifCond .ne 5, 3), (908, .iconst 0, 1), (909, .ireturn, 1), (910, .iload 8, 2), (912, .bipush 25, 2), (914, .iushr, 1), (915, .iconst 3, 1), (916, .iand, 1), (917, .ifCond .ne 45, 3), (920, .aload_n 1, 1), (921, .iload 9, 2), (923, .invokevirtual 304, 3), (926, .i2l, 1), (927, .aload 5, 2)]
set_option maxRecDepth 100000 in
theorem ev_d_215_28 : ∀ q ∈ ev_c_215_28, decode code q.1 = .ok (q.2.1, q.2.2) := by decide +kernel
def ev_c_215_29 : List (Nat × Instr × Nat) := [(929, .iconst 5, 1), (930, .laload, 1), (931, .lcmp, 1), (932, .ifCond .ne 10, 3), (935, .aload_n 1, 1), (936, .invokevirtual 307, 3), (939, .ifCond .eq 5, 3), (942, .iconst 0, 1), (943, .ireturn, 1), (944, .aload_n 1, 1), (945, .aload 6, 2), (947, .invokestatic 222, 3), (950, .aload 5, 2), (952, .aload 6, 2), (954, .invokestatic 310, 3), (957, .ifCond .ne 5, 3)]
set_option maxRecDepth 100000 in
theorem ev_d_215_29 : ∀ q ∈ ev_c_215_29, decode code q.1 = .ok (q.2.1, q.2.2) := by decide +kernel
def ev_c_215_30 : List (Nat × Instr × Nat) := [(960, .iconst 0, 1), (961, .ireturn, 1), (962, .iinc 7 1, 3), (965, .goto (-903), 3), (968, .aload_n 1, 1), (969, .invokevirtual 203, 3), (972, .ifCond .ne 7, 3), (975, .iconst 1, 1), (976, .goto 4, 3), (979, .iconst 0, 1), (980, .ireturn, 1)]
set_option maxRecDepth 100000 in
theorem ev_d_215_30 : ∀ q ∈ ev_c_215_30, decode code q.1 = .ok (q.2.1, q.2.2) := by decide +kernel
def ev_c_215 : List (Nat × List (Nat × Instr × Nat)) := [(0, ev_c_215_0), (1, ev_c_215_1), (2, ev_c_215_2), (3, ev_c_215_3), (4, ev_c_215_4), (5, ev_c_215_5), (6, ev_c_215_6), (7, ev_c_215_7), (8, ev_c_215_8), (9, ev_c_215_9), (10, ev_c_215_10), (11, ev_c_215_11), (12, ev_c_215_12), (13, ev_c_215_13), (14, ev_c_215_14), (15, ev_c_215_15), (16, ev_c_215_16), (17, ev_c_215_17), (18, ev_c_215_18), (19, ev_c_215_19), (20, ev_c_215_20), (21, ev_c_215_21), (22, ev_c_215_22), (23, ev_c_215_23), (24, ev_c_215_24), (25, ev_c_215_25), (26, ev_c_215_26), (27, ev_c_215_27), (28, ev_c_215_28), (29, ev_c_215_29), (30, ev_c_215_30)]
set_option maxRecDepth 100000 in
theorem ev_d_215 : ∀ q ∈ ev_c_215, ∀ z ∈ q.2, decode code z.1 = .ok (z.2.1, z.2.2) := List.forall_mem_cons.mpr ⟨ev_d_215_0, List.forall_mem_cons.mpr ⟨ev_d_215_1, List.forall_mem_cons.mpr ⟨ev_d_215_2, List.forall_mem_cons.mpr ⟨ev_d_215_3, List.forall_mem_cons.mpr ⟨ev_d_215_4, List.forall_mem_cons.mpr ⟨ev_d_215_5, List.forall_mem_cons.mpr ⟨ev_d_215_6, List.forall_mem_cons.mpr ⟨ev_d_215_7, List.forall_mem_cons.mpr ⟨ev_d_215_8, List.forall_mem_cons.mpr ⟨ev_d_215_9, List.forall_mem_cons.mpr ⟨ev_d_215_10, List.forall_mem_cons.mpr ⟨ev_d_215_11, List.forall_mem_cons.mpr ⟨ev_d_215_12, List.forall_mem_cons.mpr ⟨ev_d_215_13, List.forall_mem_cons.mpr ⟨ev_d_215_14, List.forall_mem_cons.mpr ⟨ev_d_215_15, List.forall_mem_cons.mpr ⟨ev_d_215_16, List.forall_mem_cons.mpr ⟨ev_d_215_17, List.forall_mem_cons.mpr ⟨ev_d_215_18, List.forall_mem_cons.mpr ⟨ev_d_215_19, List.forall_mem_cons.mpr ⟨ev_d_215_20, List.forall_mem_cons.mpr ⟨ev_d_215_21, List.forall_mem_cons.mpr ⟨ev_d_215_22, List.forall_mem_cons.mpr ⟨ev_d_215_23, List.forall_mem_cons.mpr ⟨ev_d_215_24, List.forall_mem_cons.mpr ⟨ev_d_215_25, List.forall_mem_cons.mpr ⟨ev_d_215_26, List.forall_mem_cons.mpr ⟨ev_d_215_27, List.forall_mem_cons.mpr ⟨ev_d_215_28, List.forall_mem_cons.mpr ⟨ev_d_215_29, List.forall_mem_cons.mpr ⟨ev_d_215_30, fun _ h => absurd h List.not_mem_nil⟩⟩⟩⟩⟩⟩⟩⟩⟩⟩⟩⟩⟩⟩⟩⟩⟩⟩⟩⟩⟩⟩⟩⟩⟩⟩⟩⟩⟩⟩⟩
end
section
/-! tables, by wip/gen/gen.py -/
/-- the table's pieces: a word by its piece and its place there -/
def ev_chs : List (List Cond) := [k2_sels lw_privs, tables_1_1, tables_1_2, tables_1_3, tables_1_4, tables_1_5, tables_1_6, tables_1_7, tables_1_8]
set_option maxRecDepth 100000 in
theorem ev_chs_in : ∀ c ∈ ev_chs, ∀ w ∈ c, w ∈ lw_tbl := by
  have h0_ : ∀ w ∈ tables_1, w ∈ lw_tbl := fun w hw => List.mem_append.mpr (Or.inr hw)
  have h1_ : ∀ w ∈ tables_1_1, w ∈ tables_1 := fun w hw => by
    unfold tables_1
    simp only [List.mem_append]
    exact Or.inl hw
  have h2_ : ∀ w ∈ tables_1_2, w ∈ tables_1 := fun w hw => by
    unfold tables_1
    simp only [List.mem_append]
    exact Or.inr (Or.inl hw)
  have h3_ : ∀ w ∈ tables_1_3, w ∈ tables_1 := fun w hw => by
    unfold tables_1
    simp only [List.mem_append]
    exact Or.inr (Or.inr (Or.inl hw))
  have h4_ : ∀ w ∈ tables_1_4, w ∈ tables_1 := fun w hw => by
    unfold tables_1
    simp only [List.mem_append]
    exact Or.inr (Or.inr (Or.inr (Or.inl hw)))
  have h5_ : ∀ w ∈ tables_1_5, w ∈ tables_1 := fun w hw => by
    unfold tables_1
    simp only [List.mem_append]
    exact Or.inr (Or.inr (Or.inr (Or.inr (Or.inl hw))))
  have h6_ : ∀ w ∈ tables_1_6, w ∈ tables_1 := fun w hw => by
    unfold tables_1
    simp only [List.mem_append]
    exact Or.inr (Or.inr (Or.inr (Or.inr (Or.inr (Or.inl hw)))))
  have h7_ : ∀ w ∈ tables_1_7, w ∈ tables_1 := fun w hw => by
    unfold tables_1
    simp only [List.mem_append]
    exact Or.inr (Or.inr (Or.inr (Or.inr (Or.inr (Or.inr (Or.inl hw))))))
  have h8_ : ∀ w ∈ tables_1_8, w ∈ tables_1 := fun w hw => by
    unfold tables_1
    simp only [List.mem_append]
    exact Or.inr (Or.inr (Or.inr (Or.inr (Or.inr (Or.inr (Or.inr hw))))))
  exact List.forall_mem_cons.mpr ⟨fun w hw => List.mem_append.mpr (Or.inl hw), List.forall_mem_cons.mpr ⟨fun w hw => h0_ w (h1_ w hw), List.forall_mem_cons.mpr ⟨fun w hw => h0_ w (h2_ w hw), List.forall_mem_cons.mpr ⟨fun w hw => h0_ w (h3_ w hw), List.forall_mem_cons.mpr ⟨fun w hw => h0_ w (h4_ w hw), List.forall_mem_cons.mpr ⟨fun w hw => h0_ w (h5_ w hw), List.forall_mem_cons.mpr ⟨fun w hw => h0_ w (h6_ w hw), List.forall_mem_cons.mpr ⟨fun w hw => h0_ w (h7_ w hw), List.forall_mem_cons.mpr ⟨fun w hw => h0_ w (h8_ w hw), fun _ h => absurd h List.not_mem_nil⟩⟩⟩⟩⟩⟩⟩⟩⟩
def ev_chw (q : Nat × Nat) : Option Cond := (ev_chs.getD q.1 [])[q.2]?
set_option maxRecDepth 100000 in
theorem ev_chw_in {q : Nat × Nat} {w : Cond} (hq : ev_chw q = some w) : w ∈ lw_tbl := by
  unfold ev_chw at hq
  have hm_ : w ∈ ev_chs.getD q.1 [] := List.mem_of_getElem? hq
  rw [List.getD_eq_getElem?_getD] at hm_
  cases hc_ : ev_chs[q.1]? with
  | none => rw [hc_] at hm_; exact absurd hm_ List.not_mem_nil
  | some c_ => rw [hc_] at hm_; exact ev_chs_in c_ (List.mem_of_getElem? hc_) w hm_
set_option maxRecDepth 100000 in
theorem goodIn_c (ws : List Cond) (ps : List (Nat × Nat)) (hp : ws = ps.filterMap ev_chw) (h : ws.all goodWord = true) : GoodIn lw_tbl ws := by
  intro w hw
  have h1_ := List.all_eq_true.mp h w hw
  rw [hp] at hw
  obtain ⟨q_, -, hq_⟩ := List.mem_filterMap.mp hw
  unfold ev_chw at hq_
  have hm_ : w ∈ ev_chs.getD q_.1 [] := List.mem_of_getElem? hq_
  refine ⟨?_, good_of_word h1_⟩
  rw [List.getD_eq_getElem?_getD] at hm_
  cases hc_ : ev_chs[q_.1]? with
  | none => rw [hc_] at hm_; exact absurd hm_ List.not_mem_nil
  | some c_ => rw [hc_] at hm_; exact ev_chs_in c_ (List.mem_of_getElem? hc_) w hm_
def RX0 : String := "FlagLaundry$Flag"
def TX0 : u_T := fun k => match k with
  | 0 => ("FlagLaundry$Flag", "nation", "I", false)
  | 1 => ("FlagLaundry$Flag", "colours", "I", false)
  | 2 => ("FlagLaundry$Flag", "care", "I", false)
  | 3 => ("FlagLaundry$Flag", "dirt", "I", false)
  | 4 => ("FlagLaundry$Flag", "wet", "I", false)
  | 5 => ("FlagLaundry$Flag", "crease", "I", false)
  | 6 => ("FlagLaundry$Flag", "stains", "I", false)
  | 7 => ("FlagLaundry$Flag", "bleached", "I", false)
  | 8 => ("FlagLaundry$Flag", "place", "I", false)
  | _ => ("FlagLaundry$Flag", "spot", "I", false)
def tyX0 : Nat → FieldType := fun k => match k with
  | 0 => .int
  | 1 => .int
  | 2 => .int
  | 3 => .int
  | 4 => .int
  | 5 => .int
  | 6 => .int
  | 7 => .int
  | 8 => .int
  | _ => .int
theorem nmX0 : ∀ a, a < 10 → ∀ b, b < 10 → a ≠ b → (TX0 a).2.1 ≠ (TX0 b).2.1 := by decide +kernel
theorem tyX0_ok : ∀ k, k < 10 → parseFieldDescriptor (TX0 k).2.2.1 = some (tyX0 k) := by decide +kernel
set_option maxRecDepth 100000 in
theorem ev_layX0 : GoodIn lw_tbl (u_ws RX0 TX0 10) := goodIn_c _ [(1, 147), (1, 149), (1, 151), (1, 153), (1, 155), (1, 157), (1, 159), (1, 161), (1, 163), (1, 165)] (by decide +kernel) (by decide +kernel)
def RX1 : String := "FlagLaundry$History"
def TX1 : u_T := fun k => match k with
  | 0 => ("FlagLaundry$History", "count", "I", false)
  | 1 => ("FlagLaundry$History", "isSaved", "[Z", true)
  | 2 => ("FlagLaundry$History", "oldest", "I", false)
  | 3 => ("FlagLaundry$History", "before", "[LFlagLaundry$State;", true)
  | _ => ("FlagLaundry$History", "saved", "[LFlagLaundry$State;", true)
def tyX1 : Nat → FieldType := fun k => match k with
  | 0 => .int
  | 1 => .array .boolean
  | 2 => .int
  | 3 => .array (.object "FlagLaundry$State")
  | _ => .array (.object "FlagLaundry$State")
theorem nmX1 : ∀ a, a < 5 → ∀ b, b < 5 → a ≠ b → (TX1 a).2.1 ≠ (TX1 b).2.1 := by decide +kernel
theorem tyX1_ok : ∀ k, k < 5 → parseFieldDescriptor (TX1 k).2.2.1 = some (tyX1 k) := by decide +kernel
set_option maxRecDepth 100000 in
theorem ev_layX1 : GoodIn lw_tbl (u_ws RX1 TX1 5) := goodIn_c _ [(2, 51), (2, 53), (2, 55), (2, 57), (2, 59)] (by decide +kernel) (by decide +kernel)
def RX2 : String := "FlagLaundry$Laundry"
def TX2 : u_T := fun k => match k with
  | 0 => ("FlagLaundry$Laundry", "setup", "LFlagLaundry$Setup;", true)
  | 1 => ("FlagLaundry$Laundry", "state", "LFlagLaundry$State;", true)
  | _ => ("FlagLaundry$Laundry", "groupOf", "[I", true)
def tyX2 : Nat → FieldType := fun k => match k with
  | 0 => .object "FlagLaundry$Setup"
  | 1 => .object "FlagLaundry$State"
  | _ => .array .int
theorem nmX2 : ∀ a, a < 3 → ∀ b, b < 3 → a ≠ b → (TX2 a).2.1 ≠ (TX2 b).2.1 := by decide +kernel
theorem tyX2_ok : ∀ k, k < 3 → parseFieldDescriptor (TX2 k).2.2.1 = some (tyX2 k) := by decide +kernel
set_option maxRecDepth 100000 in
theorem ev_layX2 : GoodIn lw_tbl (u_ws RX2 TX2 3) := goodIn_c _ [(1, 232), (1, 234), (1, 236)] (by decide +kernel) (by decide +kernel)
def RX3 : String := "FlagLaundry$Parser"
def TX3 : u_T := fun k => match k with
  | 0 => ("FlagLaundry$Parser", "errorCode", "I", false)
  | 1 => ("FlagLaundry$Parser", "errorPosition", "I", false)
  | 2 => ("FlagLaundry$Parser", "bytes", "[B", false)
  | 3 => ("FlagLaundry$Parser", "length", "I", false)
  | 4 => ("FlagLaundry$Parser", "position", "I", false)
  | 5 => ("FlagLaundry$Parser", "kind", "I", false)
  | 6 => ("FlagLaundry$Parser", "start", "I", false)
  | 7 => ("FlagLaundry$Parser", "value", "I", false)
  | _ => ("FlagLaundry$Parser", "laundry", "LFlagLaundry$Laundry;", false)
def tyX3 : Nat → FieldType := fun k => match k with
  | 0 => .int
  | 1 => .int
  | 2 => .array .byte
  | 3 => .int
  | 4 => .int
  | 5 => .int
  | 6 => .int
  | 7 => .int
  | _ => .object "FlagLaundry$Laundry"
theorem nmX3 : ∀ a, a < 9 → ∀ b, b < 9 → a ≠ b → (TX3 a).2.1 ≠ (TX3 b).2.1 := by decide +kernel
theorem tyX3_ok : ∀ k, k < 9 → parseFieldDescriptor (TX3 k).2.2.1 = some (tyX3 k) := by decide +kernel
set_option maxRecDepth 100000 in
theorem ev_layX3 : GoodIn lw_tbl (u_ws RX3 TX3 9) := goodIn_c _ [(2, 16), (2, 18), (2, 20), (2, 22), (2, 24), (2, 26), (2, 28), (2, 30), (2, 32)] (by decide +kernel) (by decide +kernel)
def RX4 : String := "FlagLaundry$Setup"
def TX4 : u_T := fun k => match k with
  | 0 => ("FlagLaundry$Setup", "pegs", "I", false)
  | 1 => ("FlagLaundry$Setup", "colours", "I", false)
  | 2 => ("FlagLaundry$Setup", "nations", "I", false)
  | 3 => ("FlagLaundry$Setup", "tubs", "I", false)
  | 4 => ("FlagLaundry$Setup", "runs", "[I", true)
  | 5 => ("FlagLaundry$Setup", "due", "[I", true)
  | 6 => ("FlagLaundry$Setup", "fee", "[I", true)
  | 7 => ("FlagLaundry$Setup", "fine", "[I", true)
  | _ => ("FlagLaundry$Setup", "room", "[I", true)
def tyX4 : Nat → FieldType := fun k => match k with
  | 0 => .int
  | 1 => .int
  | 2 => .int
  | 3 => .int
  | 4 => .array .int
  | 5 => .array .int
  | 6 => .array .int
  | 7 => .array .int
  | _ => .array .int
theorem nmX4 : ∀ a, a < 9 → ∀ b, b < 9 → a ≠ b → (TX4 a).2.1 ≠ (TX4 b).2.1 := by decide +kernel
theorem tyX4_ok : ∀ k, k < 9 → parseFieldDescriptor (TX4 k).2.2.1 = some (tyX4 k) := by decide +kernel
set_option maxRecDepth 100000 in
theorem ev_layX4 : GoodIn lw_tbl (u_ws RX4 TX4 9) := goodIn_c _ [(1, 82), (1, 84), (1, 86), (1, 88), (1, 90), (1, 92), (1, 94), (1, 96), (1, 98)] (by decide +kernel) (by decide +kernel)
def RX5 : String := "FlagLaundry$State"
def TX5 : u_T := fun k => match k with
  | 0 => ("FlagLaundry$State", "hour", "I", false)
  | 1 => ("FlagLaundry$State", "wind", "I", false)
  | 2 => ("FlagLaundry$State", "earned", "I", false)
  | 3 => ("FlagLaundry$State", "fined", "I", false)
  | 4 => ("FlagLaundry$State", "washes", "I", false)
  | 5 => ("FlagLaundry$State", "falls", "I", false)
  | 6 => ("FlagLaundry$State", "flagCount", "I", false)
  | 7 => ("FlagLaundry$State", "flags", "[LFlagLaundry$Flag;", true)
  | 8 => ("FlagLaundry$State", "tubSizes", "[I", true)
  | 9 => ("FlagLaundry$State", "tubFlags", "[I", true)
  | 10 => ("FlagLaundry$State", "pegs", "[I", true)
  | _ => ("FlagLaundry$State", "lateThen", "[I", true)
def tyX5 : Nat → FieldType := fun k => match k with
  | 0 => .int
  | 1 => .int
  | 2 => .int
  | 3 => .int
  | 4 => .int
  | 5 => .int
  | 6 => .int
  | 7 => .array (.object "FlagLaundry$Flag")
  | 8 => .array .int
  | 9 => .array .int
  | 10 => .array .int
  | _ => .array .int
theorem nmX5 : ∀ a, a < 12 → ∀ b, b < 12 → a ≠ b → (TX5 a).2.1 ≠ (TX5 b).2.1 := by decide +kernel
theorem tyX5_ok : ∀ k, k < 12 → parseFieldDescriptor (TX5 k).2.2.1 = some (tyX5 k) := by decide +kernel
set_option maxRecDepth 100000 in
theorem ev_layX5 : GoodIn lw_tbl (u_ws RX5 TX5 12) := goodIn_c _ [(1, 200), (1, 202), (1, 204), (1, 206), (1, 208), (1, 210), (1, 212), (1, 214), (1, 216), (1, 218), (1, 220), (1, 222)] (by decide +kernel) (by decide +kernel)
def RX6 : String := "FlagLaundry$Text"
def TX6 : u_T := fun k => match k with
  | 0 => ("FlagLaundry$Text", "length", "I", false)
  | _ => ("FlagLaundry$Text", "bytes", "[I", true)
def tyX6 : Nat → FieldType := fun k => match k with
  | 0 => .int
  | _ => .array .int
theorem nmX6 : ∀ a, a < 2 → ∀ b, b < 2 → a ≠ b → (TX6 a).2.1 ≠ (TX6 b).2.1 := by decide +kernel
theorem tyX6_ok : ∀ k, k < 2 → parseFieldDescriptor (TX6 k).2.2.1 = some (tyX6 k) := by decide +kernel
set_option maxRecDepth 100000 in
theorem ev_layX6 : GoodIn lw_tbl (u_ws RX6 TX6 2) := goodIn_c _ [(2, 70), (2, 72)] (by decide +kernel) (by decide +kernel)
def RX7 : String := "FlagLaundry"
def TX7 : u_T := fun k => match k with
  | 0 => ("FlagLaundry", "buffer", "[B", true)
  | 1 => ("FlagLaundry", "buffered", "I", false)
  | 2 => ("FlagLaundry", "parseError", "I", false)
  | 3 => ("FlagLaundry", "errorPosition", "I", false)
  | 4 => ("FlagLaundry", "loaded", "Z", false)
  | 5 => ("FlagLaundry", "now", "LFlagLaundry$Laundry;", false)
  | 6 => ("FlagLaundry", "spare", "LFlagLaundry$Laundry;", false)
  | 7 => ("FlagLaundry", "parser", "LFlagLaundry$Parser;", true)
  | 8 => ("FlagLaundry", "history", "LFlagLaundry$History;", true)
  | _ => ("FlagLaundry", "text", "LFlagLaundry$Text;", true)
def tyX7 : Nat → FieldType := fun k => match k with
  | 0 => .array .byte
  | 1 => .int
  | 2 => .int
  | 3 => .int
  | 4 => .boolean
  | 5 => .object "FlagLaundry$Laundry"
  | 6 => .object "FlagLaundry$Laundry"
  | 7 => .object "FlagLaundry$Parser"
  | 8 => .object "FlagLaundry$History"
  | _ => .object "FlagLaundry$Text"
theorem nmX7 : ∀ a, a < 10 → ∀ b, b < 10 → a ≠ b → (TX7 a).2.1 ≠ (TX7 b).2.1 := by decide +kernel
theorem tyX7_ok : ∀ k, k < 10 → parseFieldDescriptor (TX7 k).2.2.1 = some (tyX7 k) := by decide +kernel
set_option maxRecDepth 100000 in
theorem ev_layX7 : GoodIn lw_tbl (u_ws RX7 TX7 10) := goodIn_c _ [(2, 85), (2, 87), (2, 89), (2, 91), (2, 93), (2, 95), (2, 97), (2, 99), (2, 101), (2, 103)] (by decide +kernel) (by decide +kernel)
def RX8 : String := "FlagLaundryLaw$Desk"
def TX8 : u_T := fun k => match k with
  | 0 => ("FlagLaundryLaw$Desk", "pegs", "I", false)
  | 1 => ("FlagLaundryLaw$Desk", "hour", "I", false)
  | 2 => ("FlagLaundryLaw$Desk", "wind", "I", false)
  | 3 => ("FlagLaundryLaw$Desk", "earned", "I", false)
  | 4 => ("FlagLaundryLaw$Desk", "fined", "I", false)
  | 5 => ("FlagLaundryLaw$Desk", "washes", "I", false)
  | 6 => ("FlagLaundryLaw$Desk", "fell", "I", false)
  | 7 => ("FlagLaundryLaw$Desk", "puts", "I", false)
  | 8 => ("FlagLaundryLaw$Desk", "runs", "[I", false)
  | 9 => ("FlagLaundryLaw$Desk", "rooms", "[I", false)
  | 10 => ("FlagLaundryLaw$Desk", "nations", "[[I", false)
  | _ => ("FlagLaundryLaw$Desk", "flags", "Ljava/util/ArrayList;", true)
def tyX8 : Nat → FieldType := fun k => match k with
  | 0 => .int
  | 1 => .int
  | 2 => .int
  | 3 => .int
  | 4 => .int
  | 5 => .int
  | 6 => .int
  | 7 => .int
  | 8 => .array .int
  | 9 => .array .int
  | 10 => .array (.array .int)
  | _ => .object "java/util/ArrayList"
theorem nmX8 : ∀ a, a < 12 → ∀ b, b < 12 → a ≠ b → (TX8 a).2.1 ≠ (TX8 b).2.1 := by decide +kernel
theorem tyX8_ok : ∀ k, k < 12 → parseFieldDescriptor (TX8 k).2.2.1 = some (tyX8 k) := by decide +kernel
set_option maxRecDepth 100000 in
theorem ev_layX8 : GoodIn lw_tbl (u_ws RX8 TX8 12) := goodIn_c _ [(5, 193), (5, 195), (5, 197), (5, 199), (5, 201), (5, 203), (5, 205), (5, 207), (5, 209), (5, 211), (5, 213), (5, 215)] (by decide +kernel) (by decide +kernel)
def RX9 : String := "FlagLaundryLaw$Flag"
def TX9 : u_T := fun k => match k with
  | 0 => ("FlagLaundryLaw$Flag", "nation", "I", false)
  | 1 => ("FlagLaundryLaw$Flag", "own", "I", false)
  | 2 => ("FlagLaundryLaw$Flag", "care", "I", false)
  | 3 => ("FlagLaundryLaw$Flag", "dirt", "I", false)
  | 4 => ("FlagLaundryLaw$Flag", "wet", "I", false)
  | 5 => ("FlagLaundryLaw$Flag", "crease", "I", false)
  | 6 => ("FlagLaundryLaw$Flag", "stains", "I", false)
  | 7 => ("FlagLaundryLaw$Flag", "bleached", "I", false)
  | 8 => ("FlagLaundryLaw$Flag", "tub", "I", false)
  | 9 => ("FlagLaundryLaw$Flag", "peg", "I", false)
  | 10 => ("FlagLaundryLaw$Flag", "order", "I", false)
  | _ => ("FlagLaundryLaw$Flag", "away", "Z", false)
def tyX9 : Nat → FieldType := fun k => match k with
  | 0 => .int
  | 1 => .int
  | 2 => .int
  | 3 => .int
  | 4 => .int
  | 5 => .int
  | 6 => .int
  | 7 => .int
  | 8 => .int
  | 9 => .int
  | 10 => .int
  | _ => .boolean
theorem nmX9 : ∀ a, a < 12 → ∀ b, b < 12 → a ≠ b → (TX9 a).2.1 ≠ (TX9 b).2.1 := by decide +kernel
theorem tyX9_ok : ∀ k, k < 12 → parseFieldDescriptor (TX9 k).2.2.1 = some (tyX9 k) := by decide +kernel
set_option maxRecDepth 100000 in
theorem ev_layX9 : GoodIn lw_tbl (u_ws RX9 TX9 12) := goodIn_c _ [(6, 0), (6, 2), (6, 4), (6, 6), (6, 8), (6, 10), (6, 12), (6, 14), (6, 16), (6, 18), (6, 20), (6, 22)] (by decide +kernel) (by decide +kernel)
def RJx4a65c : String := "java/util/ArrayList"
def TJx4a65c : u_T := fun k => match k with
  | 0 => ("java/util/AbstractList", "modCount", "I", false)
  | 1 => ("java/util/ArrayList", "elementData", "[Ljava/lang/Object;", false)
  | _ => ("java/util/ArrayList", "size", "I", false)
def tyJx4a65c : Nat → FieldType := fun k => match k with
  | 0 => .int
  | 1 => .array (.object "java/lang/Object")
  | _ => .int
set_option maxRecDepth 100000 in
theorem nmJx4a65c : ∀ a, a < 3 → ∀ b, b < 3 → a ≠ b → (TJx4a65c a).2.1 ≠ (TJx4a65c b).2.1 := by decide +kernel
set_option maxRecDepth 100000 in
theorem tyJx4a65c_ok : ∀ k, k < 3 → parseFieldDescriptor (TJx4a65c k).2.2.1 = some (tyJx4a65c k) := by decide +kernel
set_option maxRecDepth 100000 in
theorem ev_layJx4a65c : GoodIn lw_tbl (u_ws RJx4a65c TJx4a65c 3) := goodIn_c _ [(5, 180), (5, 176), (5, 178)] (by decide +kernel) (by decide +kernel)
def RJ4 : String := "java/lang/StringBuilder"
def TJ4 : u_T := fun k => match k with
  | 0 => ("java/lang/AbstractStringBuilder", "value", "[B", false)
  | 1 => ("java/lang/AbstractStringBuilder", "coder", "B", false)
  | 2 => ("java/lang/AbstractStringBuilder", "maybeLatin1", "Z", false)
  | _ => ("java/lang/AbstractStringBuilder", "count", "I", false)
def tyJ4 : Nat → FieldType := fun k => match k with
  | 0 => .array .byte
  | 1 => .byte
  | 2 => .boolean
  | _ => .int
set_option maxRecDepth 100000 in
theorem nmJ4 : ∀ a, a < 4 → ∀ b, b < 4 → a ≠ b → (TJ4 a).2.1 ≠ (TJ4 b).2.1 := by decide +kernel
set_option maxRecDepth 100000 in
theorem tyJ4_ok : ∀ k, k < 4 → parseFieldDescriptor (TJ4 k).2.2.1 = some (tyJ4 k) := by decide +kernel
set_option maxRecDepth 100000 in
theorem ev_layJ4 : GoodIn lw_tbl (u_ws RJ4 TJ4 4) := goodIn_c _ [(6, 201), (6, 203), (6, 205), (6, 207)] (by decide +kernel) (by decide +kernel)
def RJ0 : String := "java/lang/String"
def TJ0 : u_T := fun k => match k with
  | 0 => ("java/lang/String", "value", "[B", true)
  | 1 => ("java/lang/String", "coder", "B", true)
  | 2 => ("java/lang/String", "hash", "I", false)
  | _ => ("java/lang/String", "hashIsZero", "Z", false)
def tyJ0 : Nat → FieldType := fun k => match k with
  | 0 => .array .byte
  | 1 => .byte
  | 2 => .int
  | _ => .boolean
set_option maxRecDepth 100000 in
theorem nmJ0 : ∀ a, a < 4 → ∀ b, b < 4 → a ≠ b → (TJ0 a).2.1 ≠ (TJ0 b).2.1 := by decide +kernel
set_option maxRecDepth 100000 in
theorem tyJ0_ok : ∀ k, k < 4 → parseFieldDescriptor (TJ0 k).2.2.1 = some (tyJ0 k) := by decide +kernel
set_option maxRecDepth 100000 in
theorem ev_layJ0 : GoodIn lw_tbl (u_ws RJ0 TJ0 4) := goodIn_c _ [(7, 101), (7, 103), (7, 105), (7, 107)] (by decide +kernel) (by decide +kernel)
abbrev vwCl : List vw_C := [(RX0, TX0, 10), (RX1, TX1, 5), (RX2, TX2, 3), (RX3, TX3, 9), (RX4, TX4, 9), (RX5, TX5, 12), (RX6, TX6, 2), (RX7, TX7, 10), (RX8, TX8, 12), (RX0, TX0, 10), (RX0, TX0, 10), (RX0, TX0, 10), (RX0, TX0, 10), (RX0, TX0, 10), (RX0, TX0, 10), (RX0, TX0, 10), (RX9, TX9, 12), (RJx4a65c, TJx4a65c, 3), (RJ4, TJ4, 4), (RJ0, TJ0, 4)]
def ev_own : List String := ["FlagLaundry$Flag", "FlagLaundry$History", "FlagLaundry$Laundry", "FlagLaundry$Parser", "FlagLaundry$Setup", "FlagLaundry$State", "FlagLaundry$Text", "FlagLaundry", "FlagLaundryLaw$Desk", "FlagLaundry$Flag", "FlagLaundry$Flag", "FlagLaundry$Flag", "FlagLaundry$Flag", "FlagLaundry$Flag", "FlagLaundry$Flag", "FlagLaundry$Flag", "FlagLaundryLaw$Flag", "java/util/ArrayList", "java/lang/StringBuilder", "java/lang/String", "FlagLaundryLaw", "java/util/Arrays", "java/lang/Integer", "java/util/AbstractList", "java/util/AbstractCollection", "java/lang/AbstractStringBuilder", "java/lang/StringLatin1", "jdk/internal/util/ArraysSupport", "java/util/Objects", "jdk/internal/util/Preconditions", "jdk/internal/misc/Unsafe"]
/-- kinds of the fields: 0 a number, 1 a boolean, 2 a reference -/
def ev_ft : List (List Nat) := [[0, 0, 0, 0, 0, 0, 0, 0, 0, 0], [0, 2, 0, 2, 2], [2, 2, 2], [0, 0, 2, 0, 0, 0, 0, 0, 2], [0, 0, 0, 0, 2, 2, 2, 2, 2], [0, 0, 0, 0, 0, 0, 0, 2, 2, 2, 2, 2], [0, 2], [2, 0, 0, 0, 1, 2, 2, 2, 2, 2], [0, 0, 0, 0, 0, 0, 0, 0, 2, 2, 2, 2], [0, 0, 0, 0, 0, 0, 0, 0, 0, 0], [0, 0, 0, 0, 0, 0, 0, 0, 0, 0], [0, 0, 0, 0, 0, 0, 0, 0, 0, 0], [0, 0, 0, 0, 0, 0, 0, 0, 0, 0], [0, 0, 0, 0, 0, 0, 0, 0, 0, 0], [0, 0, 0, 0, 0, 0, 0, 0, 0, 0], [0, 0, 0, 0, 0, 0, 0, 0, 0, 0], [0, 0, 0, 0, 0, 0, 0, 0, 0, 0, 0, 1], [0, 2, 0], [2, 3, 1, 0], [2, 3, 0, 1]]
/-- a method: its class's place, name, code, locals, answer, arguments (the receiver not counted), kind (0 static, 1 virtual, 2 a constructor, 3 one of a nest mate), frames, locals' words, handlers -/
abbrev ev_ME : Type := Nat × MethodName × ByteArray × Nat × Option FieldType × Nat × Nat × Nat × Nat × List (Nat × Nat × Nat × Nat)
def ev_own1 (e : ev_ME) : Nat := e.1
def ev_y (e : ev_ME) : MethodName := e.2.1
def ev_by (e : ev_ME) : ByteArray := e.2.2.1
def ev_ml (e : ev_ME) : Nat := e.2.2.2.1
def ev_rt (e : ev_ME) : Option FieldType := e.2.2.2.2.1
def ev_na (e : ev_ME) : Nat := e.2.2.2.2.2.1
def ev_kd (e : ev_ME) : Nat := e.2.2.2.2.2.2.1
def ev_fr (e : ev_ME) : Nat := e.2.2.2.2.2.2.2.1
def ev_lo (e : ev_ME) : Nat := e.2.2.2.2.2.2.2.2.1
def ev_hh (e : ev_ME) : List (Nat × Nat × Nat × Nat) := e.2.2.2.2.2.2.2.2.2
def ev_cw (e : ev_ME) : Cond := match ev_hh e with
  | [] => .code (ev_y e) (ev_by e) (ev_ml e) (ev_rt e)
  | h :: r => .codeWith (ev_y e) (ev_by e) (ev_ml e) (ev_rt e) (h :: r)
def ev_mw (e : ev_ME) : List Cond := ev_cw e :: .initialized (ev_y e).cls :: (match ev_kd e with
  | 0 => [.static (ev_y e)]
  | 1 => [.instanceMethod (ev_y e), .selects (ev_y e).cls (ev_y e) (ev_y e)]
  | _ => [.instanceMethod (ev_y e)])
def ev_ms_0 : List ev_ME := [(0, ⟨"FlagLaundry$Flag", "<init>", "()V"⟩, prog_2_method_1_code, 1, none, 0, 3, 1, 21, []),
  (0, ⟨"FlagLaundry$Flag", "begin", "(IIII)V"⟩, prog_2_method_2_code, 5, none, 4, 1, 1, 22, []),
  (0, ⟨"FlagLaundry$Flag", "become", "(LFlagLaundry$Flag;)V"⟩, prog_2_method_3_code, 2, none, 1, 1, 0, 0, []),
  (0, ⟨"FlagLaundry$Flag", "moveTo", "(II)V"⟩, prog_2_method_4_code, 3, none, 2, 1, 0, 0, []),
  (0, ⟨"FlagLaundry$Flag", "allReasons", "()I"⟩, prog_2_method_5_code, 1, some FieldType.int, 0, 1, 0, 0, []),
  (0, ⟨"FlagLaundry$Flag", "firstReason", "()I"⟩, prog_2_method_6_code, 3, some FieldType.int, 0, 1, 1, 20, []),
  (0, ⟨"FlagLaundry$Flag", "isReady", "()Z"⟩, prog_2_method_7_code, 1, some FieldType.boolean, 0, 1, 1, 20, []),
  (0, ⟨"FlagLaundry$Flag", "bears", "(I)Z"⟩, prog_2_method_8_code, 2, some FieldType.boolean, 1, 1, 0, 0, []),
  (0, ⟨"FlagLaundry$Flag", "reasonAgainstIron", "(I)I"⟩, prog_2_method_9_code, 2, some FieldType.int, 1, 1, 1, 21, []),
  (0, ⟨"FlagLaundry$Flag", "reasonAgainstBleach", "()I"⟩, prog_2_method_10_code, 1, some FieldType.int, 0, 1, 0, 0, []),
  (0, ⟨"FlagLaundry$Flag", "carried", "()I"⟩, prog_2_method_11_code, 1, some FieldType.int, 0, 1, 0, 0, []),
  (0, ⟨"FlagLaundry$Flag", "newStains", "(I)I"⟩, prog_2_method_12_code, 2, some FieldType.int, 1, 1, 0, 0, []),
  (0, ⟨"FlagLaundry$Flag", "dirtAfterWash", "(I)I"⟩, prog_2_method_13_code, 2, some FieldType.int, 1, 1, 1, 21, []),
  (0, ⟨"FlagLaundry$Flag", "takeWash", "(II)V"⟩, prog_2_method_14_code, 3, none, 2, 1, 2, 42, []),
  (0, ⟨"FlagLaundry$Flag", "takeFall", "()V"⟩, prog_2_method_15_code, 1, none, 0, 1, 1, 21, []),
  (0, ⟨"FlagLaundry$Flag", "creaseAfterIron", "(III)I"⟩, prog_2_method_16_code, 3, some FieldType.int, 3, 0, 1, 21, [])]
def ev_ms_1 : List ev_ME := [(0, ⟨"FlagLaundry$Flag", "wetAfterIron", "(II)I"⟩, prog_2_method_17_code, 2, some FieldType.int, 2, 0, 1, 21, []),
  (0, ⟨"FlagLaundry$Flag", "takeIron", "(I)V"⟩, prog_2_method_18_code, 2, none, 1, 1, 2, 43, []),
  (0, ⟨"FlagLaundry$Flag", "takeBleach", "()I"⟩, prog_2_method_19_code, 2, some FieldType.int, 0, 1, 1, 20, []),
  (0, ⟨"FlagLaundry$Flag", "ironsUntilSmooth", "(I)I"⟩, prog_2_method_21_code, 5, some FieldType.int, 1, 1, 2, 43, []),
  (1, ⟨"FlagLaundry$History", "<init>", "()V"⟩, prog_3_method_1_code, 2, none, 0, 2, 3, 62, []),
  (1, ⟨"FlagLaundry$History", "forgetChanges", "()V"⟩, prog_3_method_2_code, 1, none, 0, 1, 0, 0, []),
  (1, ⟨"FlagLaundry$History", "forgetAll", "()V"⟩, prog_3_method_3_code, 2, none, 0, 1, 1, 20, []),
  (1, ⟨"FlagLaundry$History", "keep", "(LFlagLaundry$State;)V"⟩, prog_3_method_4_code, 2, none, 1, 1, 2, 62, []),
  (1, ⟨"FlagLaundry$History", "saveIn", "(ILFlagLaundry$State;)V"⟩, prog_3_method_6_code, 3, none, 2, 1, 2, 62, []),
  (1, ⟨"FlagLaundry$History", "fetchFrom", "(ILFlagLaundry$State;)V"⟩, prog_3_method_7_code, 3, none, 2, 1, 2, 62, []),
  (2, ⟨"FlagLaundry$Laundry", "<init>", "()V"⟩, prog_4_method_1_code, 1, none, 0, 2, 3, 62, []),
  (2, ⟨"FlagLaundry$Laundry", "clear", "()V"⟩, prog_4_method_2_code, 1, none, 0, 1, 2, 43, []),
  (2, ⟨"FlagLaundry$Laundry", "greatestHeat", "(I)I"⟩, prog_4_method_3_code, 4, some FieldType.int, 1, 1, 1, 22, []),
  (2, ⟨"FlagLaundry$Laundry", "dirtIn", "(I)I"⟩, prog_4_method_4_code, 4, some FieldType.int, 1, 1, 1, 22, []),
  (2, ⟨"FlagLaundry$Laundry", "coloursIn", "(I)I"⟩, prog_4_method_5_code, 4, some FieldType.int, 1, 1, 1, 22, []),
  (2, ⟨"FlagLaundry$Laundry", "carriedIn", "(I)I"⟩, prog_4_method_6_code, 4, some FieldType.int, 1, 1, 1, 22, [])]
def ev_ms_2 : List ev_ME := [(2, ⟨"FlagLaundry$Laundry", "runningIn", "(II)I"⟩, prog_4_method_7_code, 3, some FieldType.int, 2, 1, 2, 45, []),
  (2, ⟨"FlagLaundry$Laundry", "stainedBy", "(II)I"⟩, prog_4_method_8_code, 5, some FieldType.int, 2, 1, 1, 22, []),
  (2, ⟨"FlagLaundry$Laundry", "dirtLeftIn", "(II)I"⟩, prog_4_method_9_code, 5, some FieldType.int, 2, 1, 2, 42, []),
  (2, ⟨"FlagLaundry$Laundry", "reasonAgainstPut", "(II)I"⟩, prog_4_method_10_code, 3, some FieldType.int, 2, 1, 0, 0, []),
  (2, ⟨"FlagLaundry$Laundry", "reasonAgainstWash", "(II)I"⟩, prog_4_method_11_code, 3, some FieldType.int, 2, 1, 2, 45, []),
  (2, ⟨"FlagLaundry$Laundry", "washTub", "(II)I"⟩, prog_4_method_12_code, 6, some FieldType.int, 2, 1, 3, 64, []),
  (2, ⟨"FlagLaundry$Laundry", "bestHeatFor", "(I)I"⟩, prog_4_method_13_code, 7, some FieldType.int, 1, 1, 3, 67, []),
  (2, ⟨"FlagLaundry$Laundry", "firstSafeFor", "(II)I"⟩, prog_4_method_14_code, 4, some FieldType.int, 2, 1, 3, 70, []),
  (2, ⟨"FlagLaundry$Laundry", "isSafeWith", "(LFlagLaundry$Flag;II)Z"⟩, prog_4_method_15_code, 5, some FieldType.boolean, 3, 1, 2, 46, []),
  (2, ⟨"FlagLaundry$Laundry", "firstFreePeg", "()I"⟩, prog_4_method_22_code, 2, some FieldType.int, 0, 1, 0, 0, []),
  (2, ⟨"FlagLaundry$Laundry", "canHang", "(I)Z"⟩, prog_4_method_23_code, 2, some FieldType.boolean, 1, 1, 1, 21, []),
  (2, ⟨"FlagLaundry$Laundry", "hangOnFirstFree", "(I)I"⟩, prog_4_method_24_code, 3, some FieldType.int, 1, 1, 2, 44, []),
  (2, ⟨"FlagLaundry$Laundry", "hangAllWet", "()I"⟩, prog_4_method_25_code, 3, some FieldType.int, 0, 1, 3, 66, []),
  (2, ⟨"FlagLaundry$Laundry", "lateAt", "(II)I"⟩, prog_4_method_26_code, 3, some FieldType.int, 2, 1, 1, 21, []),
  (2, ⟨"FlagLaundry$Laundry", "hoursLate", "(I)I"⟩, prog_4_method_27_code, 2, some FieldType.int, 1, 1, 2, 43, []),
  (2, ⟨"FlagLaundry$Laundry", "payForEach", "(II)I"⟩, prog_4_method_28_code, 3, some FieldType.int, 2, 1, 2, 43, [])]
def ev_ms_3 : List ev_ME := [(2, ⟨"FlagLaundry$Laundry", "payAhead", "(II)I"⟩, prog_4_method_29_code, 3, some FieldType.int, 2, 1, 3, 65, []),
  (2, ⟨"FlagLaundry$Laundry", "canHandOver", "(I)Z"⟩, prog_4_method_32_code, 2, some FieldType.boolean, 1, 1, 3, 62, []),
  (2, ⟨"FlagLaundry$Laundry", "handOverAll", "(I)I"⟩, prog_4_method_33_code, 4, some FieldType.int, 1, 1, 4, 87, []),
  (2, ⟨"FlagLaundry$Laundry", "sumsThatDiffer", "()I"⟩, prog_4_method_34_code, 6, some FieldType.int, 0, 1, 1, 23, []),
  (3, ⟨"FlagLaundry$Parser", "<init>", "()V"⟩, prog_5_method_1_code, 1, none, 0, 2, 1, 21, []),
  (3, ⟨"FlagLaundry$Parser", "read", "([BILFlagLaundry$Laundry;)V"⟩, prog_5_method_2_code, 5, none, 3, 1, 6, 153, []),
  (3, ⟨"FlagLaundry$Parser", "failed", "()Z"⟩, prog_5_method_3_code, 1, some FieldType.boolean, 0, 1, 0, 0, []),
  (3, ⟨"FlagLaundry$Parser", "fail", "(I)V"⟩, prog_5_method_4_code, 2, none, 1, 1, 0, 0, []),
  (3, ⟨"FlagLaundry$Parser", "isLetterAt", "(I)Z"⟩, prog_5_method_5_code, 2, some FieldType.boolean, 1, 1, 0, 0, []),
  (3, ⟨"FlagLaundry$Parser", "isDigitAt", "(I)Z"⟩, prog_5_method_6_code, 2, some FieldType.boolean, 1, 1, 0, 0, []),
  (3, ⟨"FlagLaundry$Parser", "skipBlanks", "()V"⟩, prog_5_method_7_code, 1, none, 0, 1, 0, 0, []),
  (3, ⟨"FlagLaundry$Parser", "next", "()V"⟩, prog_5_method_8_code, 2, none, 0, 1, 1, 21, []),
  (3, ⟨"FlagLaundry$Parser", "isWord", "(Ljava/lang/String;)Z"⟩, prog_5_method_9_code, 3, some FieldType.boolean, 1, 1, 4, 110, []),
  (3, ⟨"FlagLaundry$Parser", "numberFollows", "()Z"⟩, prog_5_method_10_code, 1, some FieldType.boolean, 0, 1, 1, 21, []),
  (3, ⟨"FlagLaundry$Parser", "number", "(II)I"⟩, prog_5_method_11_code, 3, some FieldType.int, 2, 1, 2, 42, []),
  (3, ⟨"FlagLaundry$Parser", "readFirstLine", "()V"⟩, prog_5_method_12_code, 2, none, 0, 1, 5, 132, [])]
def ev_ms_4 : List ev_ME := [(3, ⟨"FlagLaundry$Parser", "readEnd", "()V"⟩, prog_5_method_13_code, 2, none, 0, 1, 1, 21, []),
  (3, ⟨"FlagLaundry$Parser", "readLine", "()V"⟩, prog_5_method_14_code, 1, none, 0, 1, 5, 132, []),
  (3, ⟨"FlagLaundry$Parser", "needPlaceFor", "(II)V"⟩, prog_5_method_15_code, 3, none, 2, 1, 1, 21, []),
  (3, ⟨"FlagLaundry$Parser", "readColour", "()V"⟩, prog_5_method_16_code, 2, none, 0, 1, 3, 64, []),
  (3, ⟨"FlagLaundry$Parser", "readNation", "()V"⟩, prog_5_method_17_code, 4, none, 0, 1, 3, 64, []),
  (3, ⟨"FlagLaundry$Parser", "readTub", "()V"⟩, prog_5_method_18_code, 2, none, 0, 1, 3, 64, []),
  (3, ⟨"FlagLaundry$Parser", "readFlag", "()V"⟩, prog_5_method_19_code, 7, none, 0, 1, 3, 71, []),
  (3, ⟨"FlagLaundry$Parser", "readPut", "()V"⟩, prog_5_method_20_code, 3, none, 0, 1, 3, 64, []),
  (3, ⟨"FlagLaundry$Parser", "readWash", "()V"⟩, prog_5_method_21_code, 3, none, 0, 1, 4, 89, []),
  (3, ⟨"FlagLaundry$Parser", "readHang", "()V"⟩, prog_5_method_22_code, 2, none, 0, 1, 3, 66, []),
  (3, ⟨"FlagLaundry$Parser", "readWind", "()V"⟩, prog_5_method_23_code, 2, none, 0, 1, 3, 64, []),
  (3, ⟨"FlagLaundry$Parser", "readPass", "()V"⟩, prog_5_method_24_code, 2, none, 0, 1, 4, 86, []),
  (4, ⟨"FlagLaundry$Setup", "<init>", "()V"⟩, prog_6_method_1_code, 1, none, 0, 2, 1, 21, []),
  (4, ⟨"FlagLaundry$Setup", "clear", "()V"⟩, prog_6_method_2_code, 1, none, 0, 1, 0, 0, []),
  (4, ⟨"FlagLaundry$Setup", "bringColour", "(I)V"⟩, prog_6_method_3_code, 2, none, 1, 1, 0, 0, []),
  (4, ⟨"FlagLaundry$Setup", "bringNation", "(III)V"⟩, prog_6_method_4_code, 4, none, 3, 1, 0, 0, [])]
def ev_ms_5 : List ev_ME := [(4, ⟨"FlagLaundry$Setup", "bringTub", "(I)V"⟩, prog_6_method_5_code, 2, none, 1, 1, 0, 0, []),
  (4, ⟨"FlagLaundry$Setup", "runningWith", "(I)I"⟩, prog_6_method_7_code, 4, some FieldType.int, 1, 1, 0, 0, []),
  (5, ⟨"FlagLaundry$State", "<init>", "()V"⟩, prog_7_method_1_code, 2, none, 0, 2, 2, 41, []),
  (5, ⟨"FlagLaundry$State", "clear", "()V"⟩, prog_7_method_2_code, 1, none, 0, 1, 1, 23, []),
  (5, ⟨"FlagLaundry$State", "become", "(LFlagLaundry$State;)V"⟩, prog_7_method_3_code, 3, none, 1, 1, 1, 40, []),
  (5, ⟨"FlagLaundry$State", "bringFlag", "(IIII)I"⟩, prog_7_method_4_code, 6, some FieldType.int, 4, 1, 2, 46, []),
  (5, ⟨"FlagLaundry$State", "flagInTub", "(II)I"⟩, prog_7_method_5_code, 3, some FieldType.int, 2, 1, 0, 0, []),
  (5, ⟨"FlagLaundry$State", "flagObjectInTub", "(II)LFlagLaundry$Flag;"⟩, prog_7_method_6_code, 3, some (FieldType.object "FlagLaundry$Flag"), 2, 1, 0, 0, []),
  (5, ⟨"FlagLaundry$State", "wasHandedOver", "(I)Z"⟩, prog_7_method_7_code, 2, some FieldType.boolean, 1, 1, 0, 0, []),
  (5, ⟨"FlagLaundry$State", "flagsAt", "(I)I"⟩, prog_7_method_8_code, 4, some FieldType.int, 1, 1, 0, 0, []),
  (5, ⟨"FlagLaundry$State", "readyFlags", "()I"⟩, prog_7_method_9_code, 3, some FieldType.int, 0, 1, 2, 40, []),
  (5, ⟨"FlagLaundry$State", "flagsOf", "(I)I"⟩, prog_7_method_10_code, 4, some FieldType.int, 1, 1, 0, 0, []),
  (5, ⟨"FlagLaundry$State", "readyFlagsOf", "(I)I"⟩, prog_7_method_11_code, 4, some FieldType.int, 1, 1, 2, 40, []),
  (5, ⟨"FlagLaundry$State", "firstNotReady", "(I)I"⟩, prog_7_method_12_code, 3, some FieldType.int, 1, 1, 2, 40, []),
  (5, ⟨"FlagLaundry$State", "moveToTub", "(II)I"⟩, prog_7_method_17_code, 3, some FieldType.int, 2, 1, 1, 22, []),
  (5, ⟨"FlagLaundry$State", "moveToPeg", "(II)V"⟩, prog_7_method_18_code, 3, none, 2, 1, 1, 22, [])]
def ev_ms_6 : List ev_ME := [(5, ⟨"FlagLaundry$State", "emptyTub", "(I)I"⟩, prog_7_method_21_code, 4, some FieldType.int, 1, 1, 1, 22, []),
  (5, ⟨"FlagLaundry$State", "lastPegInUse", "()I"⟩, prog_7_method_22_code, 2, some FieldType.int, 0, 1, 0, 0, []),
  (5, ⟨"FlagLaundry$State", "passHours", "(I)I"⟩, prog_7_method_23_code, 4, some FieldType.int, 1, 1, 3, 63, []),
  (5, ⟨"FlagLaundry$State", "dryOnLine", "(I)V"⟩, prog_7_method_24_code, 3, none, 1, 1, 1, 21, []),
  (5, ⟨"FlagLaundry$State", "dropLastFromLine", "()V"⟩, prog_7_method_25_code, 3, none, 0, 1, 2, 41, []),
  (5, ⟨"FlagLaundry$State", "hoursToDry", "(II)I"⟩, prog_7_method_26_code, 6, some FieldType.int, 2, 1, 1, 23, []),
  (5, ⟨"FlagLaundry$State", "hoursUntilFall", "(I)I"⟩, prog_7_method_27_code, 4, some FieldType.int, 1, 1, 0, 0, []),
  (6, ⟨"FlagLaundry$Text", "<init>", "()V"⟩, prog_8_method_1_code, 1, none, 0, 2, 1, 21, []),
  (7, ⟨"FlagLaundry", "<init>", "()V"⟩, prog_1_method_1_code, 1, none, 0, 2, 4, 83, []),
  (7, ⟨"FlagLaundry", "append", "(IIIII)I"⟩, prog_1_method_2_code, 6, some FieldType.int, 5, 1, 1, 22, []),
  (7, ⟨"FlagLaundry", "load", "(I)I"⟩, prog_1_method_3_code, 3, some FieldType.int, 1, 1, 7, 177, []),
  (7, ⟨"FlagLaundry", "count", "(I)I"⟩, prog_1_method_7_code, 4, some FieldType.int, 1, 1, 7, 104, []),
  (7, ⟨"FlagLaundry", "nation", "(II)I"⟩, prog_1_method_9_code, 3, some FieldType.int, 2, 1, 8, 123, []),
  (7, ⟨"FlagLaundry", "flag", "(II)I"⟩, prog_1_method_10_code, 4, some FieldType.int, 2, 1, 8, 123, []),
  (7, ⟨"FlagLaundry", "tub", "(II)I"⟩, prog_1_method_11_code, 3, some FieldType.int, 2, 1, 8, 123, []),
  (7, ⟨"FlagLaundry", "inTub", "(II)I"⟩, prog_1_method_12_code, 3, some FieldType.int, 2, 1, 8, 123, [])]
def ev_ms_7 : List ev_ME := [(7, ⟨"FlagLaundry", "freePegs", "()I"⟩, prog_1_method_14_code, 1, some FieldType.int, 0, 1, 7, 102, []),
  (7, ⟨"FlagLaundry", "gap", "()I"⟩, prog_1_method_16_code, 1, some FieldType.int, 0, 1, 7, 102, []),
  (7, ⟨"FlagLaundry", "why", "(I)I"⟩, prog_1_method_17_code, 2, some FieldType.int, 1, 1, 8, 123, []),
  (7, ⟨"FlagLaundry", "culprit", "(I)I"⟩, prog_1_method_19_code, 2, some FieldType.int, 1, 1, 8, 123, []),
  (7, ⟨"FlagLaundry", "whyNotPut", "(II)I"⟩, prog_1_method_20_code, 3, some FieldType.int, 2, 1, 8, 123, []),
  (7, ⟨"FlagLaundry", "whyNotWash", "(II)I"⟩, prog_1_method_21_code, 3, some FieldType.int, 2, 1, 8, 124, []),
  (7, ⟨"FlagLaundry", "whyNotIron", "(II)I"⟩, prog_1_method_22_code, 3, some FieldType.int, 2, 1, 8, 124, []),
  (7, ⟨"FlagLaundry", "whyNotBleach", "(I)I"⟩, prog_1_method_23_code, 2, some FieldType.int, 1, 1, 8, 123, []),
  (7, ⟨"FlagLaundry", "stainedIf", "(II)I"⟩, prog_1_method_25_code, 3, some FieldType.int, 2, 1, 8, 124, []),
  (7, ⟨"FlagLaundry", "bestHeat", "(I)I"⟩, prog_1_method_27_code, 2, some FieldType.int, 1, 1, 8, 123, []),
  (7, ⟨"FlagLaundry", "firstSafe", "(II)I"⟩, prog_1_method_28_code, 3, some FieldType.int, 2, 1, 8, 124, []),
  (7, ⟨"FlagLaundry", "dryIn", "(I)I"⟩, prog_1_method_33_code, 2, some FieldType.int, 1, 1, 8, 123, []),
  (7, ⟨"FlagLaundry", "dryByWind", "(II)I"⟩, prog_1_method_34_code, 3, some FieldType.int, 2, 1, 8, 123, []),
  (7, ⟨"FlagLaundry", "fallsIn", "(I)I"⟩, prog_1_method_35_code, 2, some FieldType.int, 1, 1, 7, 104, []),
  (7, ⟨"FlagLaundry", "payIf", "(II)I"⟩, prog_1_method_36_code, 3, some FieldType.int, 2, 1, 8, 123, []),
  (7, ⟨"FlagLaundry", "ironsFor", "(II)I"⟩, prog_1_method_39_code, 3, some FieldType.int, 2, 1, 8, 124, [])]
def ev_ms_8 : List ev_ME := [(7, ⟨"FlagLaundry", "put", "(II)I"⟩, prog_1_method_47_code, 3, some FieldType.int, 2, 1, 8, 123, []),
  (7, ⟨"FlagLaundry", "wash", "(II)I"⟩, prog_1_method_48_code, 3, some FieldType.int, 2, 1, 8, 124, []),
  (7, ⟨"FlagLaundry", "hangAll", "()I"⟩, prog_1_method_50_code, 1, some FieldType.int, 0, 1, 7, 102, []),
  (7, ⟨"FlagLaundry", "iron", "(II)I"⟩, prog_1_method_53_code, 4, some FieldType.int, 2, 1, 8, 124, []),
  (7, ⟨"FlagLaundry", "bleach", "(I)I"⟩, prog_1_method_54_code, 3, some FieldType.int, 1, 1, 8, 123, []),
  (7, ⟨"FlagLaundry", "handOver", "(I)I"⟩, prog_1_method_55_code, 2, some FieldType.int, 1, 1, 8, 123, []),
  (7, ⟨"FlagLaundry", "pass", "(I)I"⟩, prog_1_method_56_code, 2, some FieldType.int, 1, 1, 7, 104, []),
  (7, ⟨"FlagLaundry", "setWind", "(I)I"⟩, prog_1_method_57_code, 3, some FieldType.int, 1, 1, 7, 104, []),
  (7, ⟨"FlagLaundry", "undoable", "()I"⟩, prog_1_method_60_code, 1, some FieldType.int, 0, 1, 0, 0, []),
  (7, ⟨"FlagLaundry", "save", "(I)I"⟩, prog_1_method_61_code, 2, some FieldType.int, 1, 1, 7, 102, []),
  (7, ⟨"FlagLaundry", "restore", "(I)I"⟩, prog_1_method_62_code, 2, some FieldType.int, 1, 1, 7, 102, []),
  (7, ⟨"FlagLaundry", "needText", "()V"⟩, prog_1_method_63_code, 1, none, 0, 1, 6, 82, []),
  (7, ⟨"FlagLaundry", "needFlag", "(I)V"⟩, prog_1_method_64_code, 2, none, 1, 1, 7, 102, []),
  (7, ⟨"FlagLaundry", "needTub", "(I)V"⟩, prog_1_method_65_code, 2, none, 1, 1, 7, 102, []),
  (7, ⟨"FlagLaundry", "needNation", "(I)V"⟩, prog_1_method_66_code, 2, none, 1, 1, 7, 102, []),
  (7, ⟨"FlagLaundry", "needSlot", "(I)V"⟩, prog_1_method_67_code, 1, none, 1, 0, 6, 82, [])]
def ev_ms_9 : List ev_ME := [(7, ⟨"FlagLaundry", "needHeat", "(I)V"⟩, prog_1_method_68_code, 1, none, 1, 0, 7, 104, []),
  (7, ⟨"FlagLaundry", "needRange", "(III)V"⟩, prog_1_method_69_code, 3, none, 3, 0, 6, 82, []),
  (7, ⟨"FlagLaundry", "needAllowed", "(Z)V"⟩, prog_1_method_70_code, 1, none, 1, 0, 6, 82, []),
  (7, ⟨"FlagLaundry", "store", "(I)V"⟩, prog_1_method_71_code, 3, none, 1, 1, 0, 0, []),
  (8, ⟨"FlagLaundryLaw$Desk", "<init>", "()V"⟩, prog_10_method_1_code, 1, none, 0, 3, 4, 81, []),
  (8, ⟨"FlagLaundryLaw$Desk", "in", "(I)I"⟩, prog_10_method_3_code, 4, some FieldType.int, 1, 1, 3, 64, []),
  (8, ⟨"FlagLaundryLaw$Desk", "run", "(II)I"⟩, prog_10_method_6_code, 5, some FieldType.int, 2, 1, 0, 0, []),
  (8, ⟨"FlagLaundryLaw$Desk", "running", "(II)I"⟩, prog_10_method_7_code, 5, some FieldType.int, 2, 1, 3, 64, []),
  (8, ⟨"FlagLaundryLaw$Desk", "wash", "(II)I"⟩, prog_10_method_8_code, 8, some FieldType.int, 2, 1, 4, 88, []),
  (16, ⟨"FlagLaundryLaw$Flag", "<init>", "()V"⟩, prog_11_method_1_code, 1, none, 0, 3, 1, 21, []),
  (20, ⟨"FlagLaundryLaw", "put", "(LFlagLaundry;[II)V"⟩, method_2_code, 4, none, 3, 0, 3, 69, []),
  (20, ⟨"FlagLaundryLaw", "flush", "(LFlagLaundry;[I)V"⟩, method_3_code, 3, none, 2, 0, 2, 47, []),
  (20, ⟨"FlagLaundryLaw", "said", "(LFlagLaundry;[I)I"⟩, method_5_code, 3, some FieldType.int, 2, 0, 4, 92, []),
  (20, ⟨"FlagLaundryLaw", "cell", "([II)I"⟩, method_7_code, 2, some FieldType.int, 2, 0, 0, 0, []),
  (20, ⟨"FlagLaundryLaw", "desk", "([I)LFlagLaundryLaw$Desk;"⟩, method_8_code, 7, some (FieldType.object "FlagLaundryLaw$Desk"), 1, 0, 6, 131, []),
  (20, ⟨"FlagLaundryLaw", "text", "(LFlagLaundryLaw$Desk;)Ljava/lang/String;"⟩, method_9_code, 5, some (FieldType.object "java/lang/String"), 1, 0, 7, 177, [])]
def ev_ms_10 : List ev_ME := [(20, ⟨"FlagLaundryLaw", "told", "(LFlagLaundry;[ILjava/lang/CharSequence;)I"⟩, method_10_code, 4, some FieldType.int, 3, 0, 5, 114, []),
  (20, ⟨"FlagLaundryLaw", "areOwn", "(LFlagLaundry;)Z"⟩, method_13_code, 2, some FieldType.boolean, 1, 0, 9, 146, []),
  (20, ⟨"FlagLaundryLaw", "sees", "(LFlagLaundry;[J)V"⟩, method_14_code, 4, none, 2, 0, 9, 146, []),
  (17, ⟨"java/util/ArrayList", "<init>", "()V"⟩, prog_39_method_2_code, 1, none, 0, 2, 3, 61, []),
  (17, ⟨"java/util/ArrayList", "add", "(Ljava/lang/Object;)Z"⟩, prog_39_method_25_code, 2, some FieldType.boolean, 1, 1, 5, 110, []),
  (17, ⟨"java/util/ArrayList", "add", "(Ljava/lang/Object;[Ljava/lang/Object;I)V"⟩, prog_39_method_24_code, 4, none, 3, 1, 4, 87, []),
  (17, ⟨"java/util/ArrayList", "grow", "()[Ljava/lang/Object;"⟩, prog_39_method_7_code, 1, some (FieldType.array (FieldType.object "java/lang/Object")), 0, 1, 3, 67, []),
  (17, ⟨"java/util/ArrayList", "grow", "(I)[Ljava/lang/Object;"⟩, prog_39_method_6_code, 4, some (FieldType.array (FieldType.object "java/lang/Object")), 1, 1, 2, 44, []),
  (17, ⟨"java/util/ArrayList", "get", "(I)Ljava/lang/Object;"⟩, prog_39_method_20_code, 2, some (FieldType.object "java/lang/Object"), 1, 1, 2, 43, []),
  (17, ⟨"java/util/ArrayList", "elementData", "(I)Ljava/lang/Object;"⟩, prog_39_method_18_code, 2, some (FieldType.object "java/lang/Object"), 1, 1, 0, 0, []),
  (17, ⟨"java/util/ArrayList", "size", "()I"⟩, prog_39_method_8_code, 1, some FieldType.int, 0, 1, 0, 0, []),
  (23, ⟨"java/util/AbstractList", "<init>", "()V"⟩, prog_38_method_1_code, 1, none, 0, 2, 2, 41, []),
  (24, ⟨"java/util/AbstractCollection", "<init>", "()V"⟩, prog_37_method_1_code, 1, none, 0, 2, 1, 21, []),
  (18, ⟨"java/lang/StringBuilder", "<init>", "(Ljava/lang/String;)V"⟩, prog_30_method_3_code, 2, none, 1, 2, 6, 156, []),
  (18, ⟨"java/lang/StringBuilder", "append", "(Ljava/lang/String;)Ljava/lang/StringBuilder;"⟩, prog_30_method_7_code, 2, some (FieldType.object "java/lang/StringBuilder"), 1, 1, 5, 132, []),
  (18, ⟨"java/lang/StringBuilder", "append", "(C)Ljava/lang/StringBuilder;"⟩, prog_30_method_14_code, 2, some (FieldType.object "java/lang/StringBuilder"), 1, 1, 5, 112, [])]
def ev_ms_11 : List ev_ME := [(18, ⟨"java/lang/StringBuilder", "append", "(I)Ljava/lang/StringBuilder;"⟩, prog_30_method_15_code, 2, some (FieldType.object "java/lang/StringBuilder"), 1, 1, 5, 114, []),
  (18, ⟨"java/lang/StringBuilder", "append", "(Ljava/lang/String;)Ljava/lang/AbstractStringBuilder;"⟩, prog_30_method_80_code, 2, some (FieldType.object "java/lang/AbstractStringBuilder"), 1, 4, 6, 153, []),
  (18, ⟨"java/lang/StringBuilder", "toString", "()Ljava/lang/String;"⟩, prog_30_method_42_code, 1, some (FieldType.object "java/lang/String"), 0, 1, 5, 131, []),
  (25, ⟨"java/lang/AbstractStringBuilder", "<init>", "(Ljava/lang/String;)V"⟩, prog_14_method_3_code, 5, none, 1, 2, 5, 132, []),
  (25, ⟨"java/lang/AbstractStringBuilder", "append", "(Ljava/lang/String;)Ljava/lang/AbstractStringBuilder;"⟩, prog_14_method_22_code, 3, some (FieldType.object "java/lang/AbstractStringBuilder"), 1, 4, 4, 110, []),
  (25, ⟨"java/lang/AbstractStringBuilder", "append", "(C)Ljava/lang/AbstractStringBuilder;"⟩, prog_14_method_31_code, 2, some (FieldType.object "java/lang/AbstractStringBuilder"), 1, 4, 4, 91, []),
  (25, ⟨"java/lang/AbstractStringBuilder", "append", "(I)Ljava/lang/AbstractStringBuilder;"⟩, prog_14_method_32_code, 4, some (FieldType.object "java/lang/AbstractStringBuilder"), 1, 4, 4, 91, []),
  (25, ⟨"java/lang/AbstractStringBuilder", "ensureCapacityInternal", "(I)V"⟩, prog_14_method_9_code, 3, none, 1, 4, 3, 69, []),
  (25, ⟨"java/lang/AbstractStringBuilder", "newCapacity", "(I)I"⟩, prog_14_method_10_code, 6, some FieldType.int, 1, 4, 2, 44, []),
  (25, ⟨"java/lang/AbstractStringBuilder", "putStringAt", "(ILjava/lang/String;)V"⟩, prog_14_method_73_code, 3, none, 2, 4, 2, 63, []),
  (25, ⟨"java/lang/AbstractStringBuilder", "inflateIfNeededFor", "(Ljava/lang/String;)V"⟩, prog_14_method_71_code, 2, none, 1, 4, 1, 20, []),
  (25, ⟨"java/lang/AbstractStringBuilder", "isLatin1", "()Z"⟩, prog_14_method_68_code, 1, some FieldType.boolean, 0, 4, 0, 0, []),
  (25, ⟨"java/lang/AbstractStringBuilder", "getValue", "()[B"⟩, prog_14_method_64_code, 1, some (FieldType.array FieldType.byte), 0, 4, 0, 0, []),
  (25, ⟨"java/lang/AbstractStringBuilder", "length", "()I"⟩, prog_14_method_6_code, 1, some FieldType.int, 0, 4, 0, 0, []),
  (19, ⟨"java/lang/String", "<init>", "(Ljava/lang/StringBuilder;)V"⟩, prog_29_method_53_code, 2, none, 1, 2, 4, 110, []),
  (19, ⟨"java/lang/String", "<init>", "(Ljava/lang/AbstractStringBuilder;Ljava/lang/Void;)V"⟩, prog_29_method_150_code, 5, none, 2, 2, 3, 86, [])]
def ev_ms_12 : List ev_ME := [(19, ⟨"java/lang/String", "length", "()I"⟩, prog_29_method_54_code, 1, some FieldType.int, 0, 1, 1, 20, []),
  (19, ⟨"java/lang/String", "charAt", "(I)C"⟩, prog_29_method_56_code, 2, some FieldType.char, 1, 1, 3, 64, []),
  (19, ⟨"java/lang/String", "getBytes", "([BIB)V"⟩, prog_29_method_147_code, 4, none, 3, 1, 1, 40, []),
  (19, ⟨"java/lang/String", "coder", "()B"⟩, prog_29_method_152_code, 1, some FieldType.byte, 0, 1, 0, 0, []),
  (19, ⟨"java/lang/String", "isLatin1", "()Z"⟩, prog_29_method_154_code, 1, some FieldType.boolean, 0, 1, 0, 0, []),
  (19, ⟨"java/lang/String", "checkIndex", "(II)V"⟩, prog_29_method_155_code, 2, none, 2, 0, 1, 22, []),
  (26, ⟨"java/lang/StringLatin1", "charAt", "([BI)C"⟩, prog_31_method_2_code, 2, some FieldType.char, 2, 0, 2, 43, []),
  (26, ⟨"java/lang/StringLatin1", "canEncode", "(C)Z"⟩, prog_31_method_3_code, 1, some FieldType.boolean, 1, 0, 0, 0, []),
  (22, ⟨"java/lang/Integer", "stringSize", "(I)I"⟩, prog_23_method_13_code, 4, some FieldType.int, 1, 0, 0, 0, []),
  (22, ⟨"java/lang/Integer", "getChars", "(II[B)I"⟩, prog_23_method_12_code, 7, some FieldType.int, 3, 0, 0, 0, []),
  (22, ⟨"java/lang/Integer", "bitCount", "(I)I"⟩, prog_23_method_49_code, 1, some FieldType.int, 1, 0, 0, 0, []),
  (21, ⟨"java/util/Arrays", "fill", "([II)V"⟩, prog_40_method_103_code, 4, none, 2, 0, 0, 0, []),
  (21, ⟨"java/util/Arrays", "fill", "([JJ)V"⟩, prog_40_method_101_code, 5, none, 2, 0, 0, 0, []),
  (21, ⟨"java/util/Arrays", "copyOf", "([BI)[B"⟩, prog_40_method_121_code, 3, some (FieldType.array FieldType.byte), 2, 0, 1, 40, []),
  (21, ⟨"java/util/Arrays", "copyOfRange", "([BII)[B"⟩, prog_40_method_132_code, 3, some (FieldType.array FieldType.byte), 3, 0, 2, 64, []),
  (21, ⟨"java/util/Arrays", "copyOfRangeByte", "([BII)[B"⟩, prog_40_method_133_code, 5, some (FieldType.array FieldType.byte), 3, 0, 1, 40, [])]
def ev_ms_13 : List ev_ME := [(21, ⟨"java/util/Arrays", "checkLength", "(II)V"⟩, prog_40_method_131_code, 2, none, 2, 0, 0, 0, []),
  (21, ⟨"java/util/Arrays", "equals", "([J[J)Z"⟩, prog_40_method_81_code, 3, some FieldType.boolean, 2, 0, 2, 61, []),
  (27, ⟨"jdk/internal/util/ArraysSupport", "newLength", "(III)I"⟩, prog_48_method_27_code, 4, some FieldType.int, 3, 0, 1, 21, []),
  (27, ⟨"jdk/internal/util/ArraysSupport", "mismatch", "([J[JI)I"⟩, prog_48_method_23_code, 4, some FieldType.int, 3, 0, 1, 38, []),
  (27, ⟨"jdk/internal/util/ArraysSupport", "vectorizedMismatch", "(Ljava/lang/Object;JLjava/lang/Object;JII)I"⟩, prog_48_method_3_code, 19, some FieldType.int, 6, 0, 0, 0, []),
  (28, ⟨"java/util/Objects", "checkIndex", "(II)I"⟩, prog_43_method_17_code, 2, some FieldType.int, 2, 0, 1, 22, []),
  (29, ⟨"jdk/internal/util/Preconditions", "checkIndex", "(IILjava/util/function/BiFunction;)I"⟩, prog_49_method_11_code, 3, some FieldType.int, 3, 0, 0, 0, [])]
def ev_mss : List (Nat × List ev_ME) := [(0, ev_ms_0), (1, ev_ms_1), (2, ev_ms_2), (3, ev_ms_3), (4, ev_ms_4), (5, ev_ms_5), (6, ev_ms_6), (7, ev_ms_7), (8, ev_ms_8), (9, ev_ms_9), (10, ev_ms_10), (11, ev_ms_11), (12, ev_ms_12), (13, ev_ms_13)]
set_option maxRecDepth 100000 in
theorem ev_msw_0 : GoodIn lw_tbl (ev_ms_0.flatMap ev_mw) := goodIn_c _ [(1, 114), (1, 5), (1, 113), (3, 95), (1, 5), (3, 93), (3, 94), (5, 54), (1, 5), (5, 52), (5, 53), (3, 99), (1, 5), (3, 97), (3, 98), (4, 57), (1, 5), (4, 55), (4, 56), (4, 147), (1, 5), (4, 145), (4, 146), (4, 53), (1, 5), (4, 51), (4, 52), (4, 180), (1, 5), (4, 178), (4, 179), (4, 176), (1, 5), (4, 174), (4, 175), (4, 188), (1, 5), (4, 186), (4, 187), (3, 143), (1, 5), (3, 141), (3, 142), (3, 155), (1, 5), (3, 153), (3, 154), (3, 164), (1, 5), (3, 162), (3, 163), (3, 159), (1, 5), (3, 157), (3, 158), (3, 225), (1, 5), (3, 223), (3, 224), (5, 31), (1, 5), (5, 30)] (by decide +kernel) (by decide +kernel)
set_option maxRecDepth 100000 in
theorem ev_msw_1 : GoodIn lw_tbl (ev_ms_1.flatMap ev_mw) := goodIn_c _ [(5, 34), (1, 5), (5, 33), (5, 81), (1, 5), (5, 79), (5, 80), (5, 89), (1, 5), (5, 87), (5, 88), (5, 27), (1, 5), (5, 25), (5, 26), (2, 39), (1, 7), (2, 38), (4, 13), (1, 7), (4, 11), (4, 12), (4, 9), (1, 7), (4, 7), (4, 8), (5, 46), (1, 7), (5, 44), (5, 45), (5, 135), (1, 7), (5, 133), (5, 134), (5, 144), (1, 7), (5, 142), (5, 143), (1, 48), (1, 2), (1, 47), (2, 187), (1, 2), (2, 185), (2, 186), (3, 126), (1, 2), (3, 124), (3, 125), (4, 111), (1, 2), (4, 109), (4, 110), (4, 115), (1, 2), (4, 113), (4, 114), (3, 139), (1, 2), (3, 137), (3, 138)] (by decide +kernel) (by decide +kernel)
set_option maxRecDepth 100000 in
theorem ev_msw_2 : GoodIn lw_tbl (ev_ms_2.flatMap ev_mw) := goodIn_c _ [(4, 196), (1, 2), (4, 194), (4, 195), (3, 151), (1, 2), (3, 149), (3, 150), (4, 210), (1, 2), (4, 208), (4, 209), (3, 108), (1, 2), (3, 106), (3, 107), (3, 122), (1, 2), (3, 120), (3, 121), (3, 135), (1, 2), (3, 133), (3, 134), (4, 205), (1, 2), (4, 203), (4, 204), (4, 219), (1, 2), (4, 217), (4, 218), (4, 224), (1, 2), (4, 222), (4, 223), (3, 186), (1, 2), (3, 184), (3, 185), (3, 182), (1, 2), (3, 180), (3, 181), (3, 190), (1, 2), (3, 188), (3, 189), (5, 71), (1, 2), (5, 69), (5, 70), (4, 87), (1, 2), (4, 85), (4, 86), (4, 82), (1, 2), (4, 80), (4, 81), (5, 18), (1, 2), (5, 16), (5, 17)] (by decide +kernel) (by decide +kernel)
set_option maxRecDepth 100000 in
theorem ev_msw_3 : GoodIn lw_tbl (ev_ms_3.flatMap ev_mw) := goodIn_c _ [(5, 14), (1, 2), (5, 12), (5, 13), (5, 103), (1, 2), (5, 101), (5, 102), (5, 108), (1, 2), (5, 106), (5, 107), (4, 135), (1, 2), (4, 133), (4, 134), (2, 3), (1, 6), (2, 2), (2, 180), (1, 6), (2, 178), (2, 179), (2, 210), (1, 6), (2, 209), (0, 3), (2, 226), (1, 6), (2, 225), (0, 7), (2, 218), (1, 6), (2, 217), (0, 5), (2, 222), (1, 6), (2, 221), (0, 6), (2, 214), (1, 6), (2, 213), (0, 4), (2, 206), (1, 6), (2, 205), (0, 2), (2, 231), (1, 6), (2, 230), (0, 8), (3, 87), (1, 6), (3, 86), (0, 16), (3, 43), (1, 6), (3, 42), (0, 9), (2, 202), (1, 6), (2, 201), (0, 1)] (by decide +kernel) (by decide +kernel)
set_option maxRecDepth 100000 in
theorem ev_msw_4 : GoodIn lw_tbl (ev_ms_4.flatMap ev_mw) := goodIn_c _ [(3, 229), (1, 6), (3, 228), (0, 22), (3, 47), (1, 6), (3, 46), (0, 10), (3, 56), (1, 6), (3, 55), (0, 12), (3, 52), (1, 6), (3, 51), (0, 11), (3, 65), (1, 6), (3, 64), (0, 13), (3, 74), (1, 6), (3, 73), (0, 14), (3, 83), (1, 6), (3, 82), (0, 15), (3, 104), (1, 6), (3, 103), (0, 17), (3, 118), (1, 6), (3, 117), (0, 18), (3, 178), (1, 6), (3, 177), (0, 19), (3, 199), (1, 6), (3, 198), (0, 20), (3, 204), (1, 6), (3, 203), (0, 21), (1, 54), (1, 3), (1, 53), (2, 191), (1, 3), (2, 189), (2, 190), (3, 60), (1, 3), (3, 58), (3, 59), (3, 69), (1, 3), (3, 67), (3, 68)] (by decide +kernel) (by decide +kernel)
set_option maxRecDepth 100000 in
theorem ev_msw_5 : GoodIn lw_tbl (ev_ms_5.flatMap ev_mw) := goodIn_c _ [(3, 78), (1, 3), (3, 76), (3, 77), (3, 147), (1, 3), (3, 145), (3, 146), (1, 107), (1, 4), (1, 106), (2, 195), (1, 4), (2, 193), (2, 194), (5, 50), (1, 4), (5, 48), (5, 49), (3, 91), (1, 4), (3, 89), (3, 90), (4, 123), (1, 4), (4, 121), (4, 122), (3, 130), (1, 4), (3, 128), (3, 129), (4, 78), (1, 4), (4, 76), (4, 77), (4, 45), (1, 4), (4, 43), (4, 44), (4, 49), (1, 4), (4, 47), (4, 48), (4, 70), (1, 4), (4, 68), (4, 69), (4, 74), (1, 4), (4, 72), (4, 73), (4, 155), (1, 4), (4, 153), (4, 154), (3, 112), (1, 4), (3, 110), (3, 111), (3, 194), (1, 4), (3, 192), (3, 193)] (by decide +kernel) (by decide +kernel)
set_option maxRecDepth 100000 in
theorem ev_msw_6 : GoodIn lw_tbl (ev_ms_6.flatMap ev_mw) := goodIn_c _ [(3, 172), (1, 4), (3, 170), (3, 171), (3, 221), (1, 4), (3, 219), (3, 220), (3, 208), (1, 4), (3, 206), (3, 207), (3, 212), (1, 4), (3, 210), (3, 211), (3, 217), (1, 4), (3, 215), (3, 216), (4, 233), (1, 4), (4, 231), (4, 232), (4, 237), (1, 4), (4, 235), (4, 236), (2, 67), (1, 8), (2, 66), (1, 40), (1, 1), (1, 39), (7, 152), (1, 1), (7, 150), (7, 151), (2, 109), (1, 1), (2, 107), (2, 108), (4, 17), (1, 1), (4, 15), (4, 16), (4, 61), (1, 1), (4, 59), (4, 60), (4, 92), (1, 1), (4, 90), (4, 91), (4, 101), (1, 1), (4, 99), (4, 100), (4, 119), (1, 1), (4, 117), (4, 118)] (by decide +kernel) (by decide +kernel)
set_option maxRecDepth 100000 in
theorem ev_msw_7 : GoodIn lw_tbl (ev_ms_7.flatMap ev_mw) := goodIn_c _ [(4, 127), (1, 1), (4, 125), (4, 126), (4, 131), (1, 1), (4, 129), (4, 130), (4, 143), (1, 1), (4, 141), (4, 142), (4, 151), (1, 1), (4, 149), (4, 150), (4, 159), (1, 1), (4, 157), (4, 158), (4, 164), (1, 1), (4, 162), (4, 163), (4, 172), (1, 1), (4, 170), (4, 171), (4, 184), (1, 1), (4, 182), (4, 183), (4, 192), (1, 1), (4, 190), (4, 191), (4, 201), (1, 1), (4, 199), (4, 200), (4, 215), (1, 1), (4, 213), (4, 214), (4, 229), (1, 1), (4, 227), (4, 228), (5, 1), (1, 1), (4, 239), (5, 0), (5, 5), (1, 1), (5, 3), (5, 4), (5, 10), (1, 1), (5, 8), (5, 9), (5, 23), (1, 1), (5, 21), (5, 22)] (by decide +kernel) (by decide +kernel)
set_option maxRecDepth 100000 in
theorem ev_msw_8 : GoodIn lw_tbl (ev_ms_8.flatMap ev_mw) := goodIn_c _ [(5, 38), (1, 1), (5, 36), (5, 37), (5, 62), (1, 1), (5, 60), (5, 61), (5, 67), (1, 1), (5, 65), (5, 66), (5, 77), (1, 1), (5, 75), (5, 76), (5, 85), (1, 1), (5, 83), (5, 84), (5, 99), (1, 1), (5, 97), (5, 98), (5, 114), (1, 1), (5, 112), (5, 113), (5, 119), (1, 1), (5, 117), (5, 118), (5, 123), (1, 1), (5, 121), (5, 122), (5, 127), (1, 1), (5, 125), (5, 126), (5, 139), (1, 1), (5, 137), (5, 138), (4, 21), (1, 1), (4, 20), (0, 23), (4, 96), (1, 1), (4, 95), (0, 25), (4, 105), (1, 1), (4, 104), (0, 26), (4, 65), (1, 1), (4, 64), (0, 24), (5, 130), (1, 1), (5, 129)] (by decide +kernel) (by decide +kernel)
set_option maxRecDepth 100000 in
theorem ev_msw_9 : GoodIn lw_tbl (ev_ms_9.flatMap ev_mw) := goodIn_c _ [(4, 167), (1, 1), (4, 166), (4, 40), (1, 1), (4, 39), (5, 41), (1, 1), (5, 40), (7, 156), (1, 1), (7, 155), (0, 30), (5, 155), (1, 9), (5, 154), (7, 32), (1, 9), (7, 30), (7, 31), (7, 50), (1, 9), (7, 48), (7, 49), (7, 46), (1, 9), (7, 44), (7, 45), (7, 42), (1, 9), (7, 40), (7, 41), (5, 224), (1, 13), (5, 223), (7, 145), (1, 0), (7, 144), (7, 148), (1, 0), (7, 147), (7, 159), (1, 0), (7, 158), (5, 147), (1, 0), (5, 146), (5, 150), (1, 0), (5, 149), (6, 85), (1, 0), (6, 84)] (by decide +kernel) (by decide +kernel)
set_option maxRecDepth 100000 in
theorem ev_msw_10 : GoodIn lw_tbl (ev_ms_10.flatMap ev_mw) := goodIn_c _ [(7, 112), (1, 0), (7, 111), (7, 162), (1, 0), (7, 161), (7, 165), (1, 0), (7, 164), (5, 161), (1, 12), (5, 160), (6, 28), (1, 12), (6, 26), (6, 27), (6, 32), (1, 12), (6, 31), (0, 27), (6, 36), (1, 12), (6, 35), (0, 28), (6, 40), (1, 12), (6, 39), (0, 29), (7, 18), (1, 12), (7, 16), (7, 17), (7, 26), (1, 12), (7, 24), (7, 25), (7, 14), (1, 12), (7, 12), (7, 13), (5, 164), (1, 11), (5, 163), (5, 167), (1, 10), (5, 166), (6, 91), (1, 19), (6, 90), (6, 116), (1, 19), (6, 114), (6, 115), (7, 0), (1, 19), (6, 238), (6, 239)] (by decide +kernel) (by decide +kernel)
set_option maxRecDepth 100000 in
theorem ev_msw_11 : GoodIn lw_tbl (ev_ms_11.flatMap ev_mw) := goodIn_c _ [(6, 212), (1, 19), (6, 210), (6, 211), (6, 112), (1, 19), (6, 111), (7, 56), (1, 19), (7, 54), (7, 55), (6, 94), (1, 18), (6, 93), (6, 119), (1, 18), (6, 108), (7, 3), (1, 18), (7, 2), (6, 215), (1, 18), (6, 214), (6, 127), (1, 18), (6, 126), (6, 131), (1, 18), (6, 130), (6, 167), (1, 18), (6, 166), (6, 171), (1, 18), (6, 170), (6, 147), (1, 18), (6, 144), (7, 70), (1, 18), (7, 67), (7, 78), (1, 18), (7, 72), (7, 61), (1, 20), (7, 60), (7, 64), (1, 20), (7, 63)] (by decide +kernel) (by decide +kernel)
set_option maxRecDepth 100000 in
theorem ev_msw_12 : GoodIn lw_tbl (ev_ms_12.flatMap ev_mw) := goodIn_c _ [(2, 235), (1, 20), (2, 233), (2, 234), (3, 5), (1, 20), (3, 3), (3, 4), (6, 194), (1, 20), (6, 192), (6, 193), (2, 239), (1, 20), (2, 237), (2, 238), (3, 9), (1, 20), (3, 7), (3, 8), (3, 15), (1, 20), (3, 14), (3, 12), (1, 23), (3, 11), (7, 6), (1, 23), (7, 5), (6, 218), (1, 25), (6, 217), (6, 221), (1, 25), (6, 220), (5, 92), (1, 25), (5, 91), (2, 198), (1, 16), (2, 197), (7, 168), (1, 16), (7, 167), (6, 135), (1, 16), (6, 134), (7, 82), (1, 16), (7, 81), (7, 85), (1, 16), (7, 84)] (by decide +kernel) (by decide +kernel)
set_option maxRecDepth 100000 in
theorem ev_msw_13 : GoodIn lw_tbl (ev_ms_13.flatMap ev_mw) := goodIn_c _ [(7, 88), (1, 16), (7, 87), (7, 172), (1, 16), (7, 171), (6, 43), (1, 14), (6, 42), (7, 175), (1, 14), (7, 174), (7, 182), (1, 14), (7, 181), (7, 21), (1, 26), (7, 20), (3, 20), (1, 22), (3, 19)] (by decide +kernel) (by decide +kernel)
def ev_look {α : Type} (k : Nat) : List (Nat × α) → Option α
  | [] => none
  | q :: r => bif Nat.beq k q.1 then some q.2 else ev_look k r
theorem ev_look_mem {α : Type} {k : Nat} {a : α} : ∀ {l : List (Nat × α)}, ev_look k l = some a → (k, a) ∈ l
  | [], h => by cases h
  | (j, b) :: r, h => by
    unfold ev_look at h
    cases hb : Nat.beq k j with
    | true =>
      rw [hb] at h
      have e := Nat.eq_of_beq_eq_true hb
      subst e
      cases h
      exact List.mem_cons_self
    | false =>
      rw [hb] at h
      exact List.mem_cons_of_mem _ (ev_look_mem h)
def ev_look2 {α : Type} (o k : Nat) (t : List (Nat × List (Nat × α))) : Option α := match ev_look o t with
  | some l => ev_look k l
  | none => none
theorem ev_look2_mem {α : Type} {o k : Nat} {a : α} {t : List (Nat × List (Nat × α))} (h : ev_look2 o k t = some a) : ∃ l, (o, l) ∈ t ∧ (k, a) ∈ l := by
  unfold ev_look2 at h
  cases hl : ev_look o t with
  | none => rw [hl] at h; cases h
  | some l => rw [hl] at h; exact ⟨l, ev_look_mem hl, ev_look_mem h⟩
def ev_LAW : Nat := 215
def ev_me (j : Nat) : Option ev_ME := match ev_look (j / 16) ev_mss with
  | some l => l[j % 16]?
  | none => none
def ev_lawME : ev_ME := (20, x, code, maxLocals, ret, 1, 0, 10, 201, [])
/-- a method, or the law -/
def ev_mel (j : Nat) : Option ev_ME := bif Nat.beq j ev_LAW then some ev_lawME else ev_me j
/-- fields: class of the code, index, (class, place) -/
def ev_flt : List (Nat × List (Nat × Nat × Nat)) := [(0, [(9, 0, 0), (15, 0, 1), (18, 0, 2), (21, 0, 3), (24, 0, 4), (27, 0, 5), (30, 0, 6), (33, 0, 7), (40, 0, 8), (43, 0, 9)]),
  (1, [(11, 1, 3), (18, 1, 4), (21, 1, 1), (25, 1, 0), (29, 1, 2)]),
  (2, [(12, 2, 0), (21, 2, 1), (25, 2, 2), (33, 5, 8), (40, 0, 2), (52, 0, 3), (55, 0, 1), (75, 5, 7), (79, 0, 8), (82, 4, 8), (98, 5, 4), (107, 5, 6), (138, 4, 0), (141, 5, 10), (149, 0, 4), (158, 4, 5), (164, 5, 11), (167, 5, 0), (173, 4, 6), (176, 4, 7), (194, 5, 2), (197, 5, 3), (200, 0, 0), (209, 0, 6)]),
  (3, [(9, 3, 1), (15, 3, 2), (25, 3, 3), (28, 3, 4), (31, 3, 5), (34, 3, 0), (37, 3, 8), (62, 3, 6), (75, 3, 7), (100, 2, 0), (104, 4, 0), (109, 4, 1), (112, 4, 2), (115, 4, 3), (177, 2, 1), (181, 5, 6), (212, 5, 1)]),
  (4, [(9, 4, 4), (15, 4, 5), (18, 4, 6), (21, 4, 7), (24, 4, 8), (27, 4, 0), (31, 4, 1), (34, 4, 2), (37, 4, 3)]),
  (5, [(11, 5, 7), (18, 5, 8), (22, 5, 9), (25, 5, 10), (28, 5, 11), (31, 5, 0), (35, 5, 1), (38, 5, 2), (41, 5, 3), (44, 5, 4), (47, 5, 5), (50, 5, 6), (73, 0, 8), (80, 0, 0), (92, 0, 4), (99, 0, 9)]),
  (6, [(9, 6, 1)]),
  (7, [(9, 7, 0), (13, 7, 1), (17, 7, 2), (20, 7, 3), (23, 7, 4), (30, 7, 5), (34, 7, 6), (40, 7, 7), (47, 7, 8), (54, 7, 9), (73, 3, 0), (76, 3, 1), (85, 2, 1), (89, 5, 6), (101, 2, 0), (105, 4, 1), (110, 4, 2), (113, 4, 3), (116, 4, 0), (119, 5, 0), (122, 5, 1), (129, 5, 2), (132, 5, 3), (135, 5, 4), (138, 5, 5), (160, 4, 5), (163, 4, 6), (166, 4, 7), (185, 5, 7), (189, 0, 0), (194, 0, 1), (195, 0, 2), (198, 0, 3), (201, 0, 4), (204, 0, 5), (207, 0, 6), (210, 0, 7), (213, 0, 8), (216, 0, 9), (222, 4, 8), (225, 5, 8), (399, 1, 0), (417, 1, 1)]),
  (8, [(10, 8, 11), (42, 8, 8), (33, 8, 5)]),
  (16, [(7, 16, 8), (13, 16, 9)]),
  (17, [(9, 17, 1), (48, 17, 2)]),
  (25, [(22, 18, 1), (15, 18, 0), (79, 18, 3)]),
  (19, [(15, 19, 1), (9, 19, 0), (1048, 18, 2)])]
def ev_flw1 (o : Nat) (q : Nat × Nat × Nat) : Cond := match vwCl[q.2.1]? with
  | some r => .fieldLink (ev_own.getD o "") q.1 (r.2.1 q.2.2).1 (r.2.1 q.2.2).2.1 (r.2.1 q.2.2).2.2.1
  | none => .tt
def ev_flw : List Cond := ev_flt.flatMap (fun p => p.2.map (ev_flw1 p.1))
set_option maxRecDepth 100000 in
theorem ev_flw_in : GoodIn lw_tbl ev_flw := goodIn_c _ [(1, 116), (1, 120), (1, 123), (1, 126), (1, 129), (1, 133), (1, 135), (1, 138), (1, 140), (1, 144), (2, 49), (2, 50), (2, 46), (2, 44), (2, 48), (1, 225), (1, 228), (1, 231), (1, 193), (1, 124), (1, 127), (1, 121), (1, 190), (1, 142), (1, 80), (1, 182), (1, 187), (1, 59), (1, 197), (1, 132), (1, 72), (1, 199), (1, 170), (1, 75), (1, 78), (1, 176), (1, 179), (1, 119), (1, 137), (2, 7), (2, 9), (2, 10), (2, 11), (2, 12), (2, 5), (2, 15), (2, 13), (2, 14), (1, 227), (1, 58), (1, 62), (1, 65), (1, 68), (1, 230), (1, 188), (1, 173), (1, 69), (1, 70), (1, 73), (1, 76), (1, 79), (1, 56), (1, 60), (1, 63), (1, 66), (1, 189), (1, 192), (1, 195), (1, 196), (1, 198), (1, 168), (1, 171), (1, 174), (1, 177), (1, 180), (1, 183), (1, 185), (1, 141), (1, 117), (1, 131), (1, 146), (2, 69), (2, 75), (2, 76), (2, 77), (2, 78), (2, 79), (2, 80), (2, 81), (2, 82), (2, 83), (2, 84), (2, 6), (2, 8), (1, 229), (1, 186), (1, 226), (1, 61), (1, 64), (1, 67), (1, 57), (1, 169), (1, 172), (1, 175), (1, 178), (1, 181), (1, 184), (1, 71), (1, 74), (1, 77), (1, 191), (1, 118), (1, 122), (1, 125), (1, 128), (1, 130), (1, 134), (1, 136), (1, 139), (1, 143), (1, 145), (1, 81), (1, 194), (2, 45), (2, 47), (5, 191), (5, 187), (5, 185), (5, 235), (5, 238), (5, 171), (5, 172), (6, 198), (6, 197), (6, 200), (7, 100), (7, 99), (6, 199)] (by decide +kernel) (by decide +kernel)
set_option maxRecDepth 100000 in
theorem ev_fl_ok : ev_flt.all (fun p => p.2.all (fun q => match vwCl[q.2.1]? with | some r => decide (q.2.2 < r.2.2) && decide (q.2.1 < 9 ∨ (16 ≤ q.2.1 ∧ q.2.1 < 20)) | none => false)) = true := by decide +kernel
/-- calls: class of the code, index, method -/
def ev_tgt : List (Nat × List (Nat × Nat)) := [(0, [(36, 3), (46, 4), (50, 7), (60, 11), (64, 12), (70, 15), (74, 16), (77, 202), (82, 8)]),
  (1, [(17, 82), (32, 21), (35, 84)]),
  (2, [(11, 76), (20, 82), (29, 77), (32, 83), (36, 87), (58, 10), (62, 31), (66, 81), (69, 11), (72, 12), (85, 28), (88, 33), (91, 13), (95, 96), (101, 32), (104, 34), (110, 35), (113, 40), (117, 7), (143, 41), (146, 95), (152, 42), (155, 43), (161, 88), (170, 45), (179, 47), (182, 91), (191, 93), (188, 48), (203, 3), (206, 89)]),
  (3, [(41, 27), (46, 63), (49, 54), (53, 65), (56, 59), (59, 64), (65, 58), (68, 56), (72, 57), (78, 55), (93, 60), (97, 62), (120, 67), (125, 68), (130, 69), (135, 70), (140, 71), (145, 72), (150, 73), (155, 74), (160, 75), (163, 66), (167, 78), (170, 79), (174, 80), (186, 61), (189, 85), (193, 35), (196, 94), (199, 36), (202, 37), (205, 42), (208, 43), (214, 98)]),
  (5, [(53, 203), (59, 2), (69, 1), (76, 6), (95, 3), (105, 87), (109, 99), (113, 100), (122, 97), (126, 14), (129, 102)]),
  (7, [(29, 26), (39, 52), (46, 20), (53, 103), (58, 147), (69, 53), (82, 22), (94, 139), (97, 145), (125, 89), (141, 90), (157, 142), (169, 91), (172, 92), (175, 88), (179, 46), (182, 140), (219, 141), (228, 28), (231, 29), (234, 30), (237, 86), (248, 51), (251, 5), (257, 93), (260, 35), (263, 144), (266, 36), (269, 8), (272, 9), (275, 32), (278, 33), (284, 38), (287, 39), (303, 101), (311, 48), (320, 19), (348, 146), (352, 23), (356, 94), (359, 37), (368, 44), (377, 17), (380, 18), (383, 49), (386, 50), (389, 98), (410, 143), (413, 24), (423, 25)]),
  (8, [(9, 163), (58, 170), (62, 168), (100, 150), (103, 151)]),
  (20, [(7, 155), (13, 105), (21, 154), (28, 157), (70, 164), (80, 173), (83, 176), (88, 174), (93, 175), (98, 170), (102, 168), (110, 149), (129, 152), (133, 178), (146, 156), (200, 107), (177, 109), (316, 204), (183, 108), (240, 111), (206, 104), (207, 158), (211, 159), (215, 160), (219, 106), (222, 162), (226, 137), (203, 113), (229, 161), (233, 110), (235, 116), (238, 128), (243, 114), (246, 121), (249, 120), (252, 117), (255, 129), (256, 122), (259, 112), (262, 130), (265, 125), (268, 123), (271, 134), (274, 127), (277, 118), (280, 131), (283, 119), (286, 132), (289, 126), (292, 115), (295, 133), (298, 124), (301, 135), (304, 138), (307, 136), (310, 209)]),
  (17, [(1, 171), (131, 165), (129, 166), (69, 167), (73, 210), (118, 213), (123, 169)]),
  (23, [(1, 172)]),
  (18, [(7, 179), (29, 180), (50, 181), (53, 182), (23, 174), (137, 190)]),
  (25, [(40, 195), (43, 180), (100, 183), (208, 185), (83, 187), (191, 199), (245, 200), (248, 201), (104, 184), (108, 205), (114, 210), (397, 186), (399, 194)]),
  (19, [(489, 191), (552, 188), (549, 189), (1047, 187), (54, 206), (335, 195), (492, 196), (495, 198), (1059, 214)]),
  (26, [(9, 197)]),
  (21, [(339, 207), (343, 208), (245, 211)]),
  (27, [(122, 212)]),
  (28, [(105, 214)])]
def ev_tgw1 (o : Nat) (q : Nat × Nat) : Cond := match ev_me q.2 with
  | some e => .methodLink (ev_own.getD o "") q.1 (ev_y e)
  | none => .tt
def ev_tgw (p : Nat × List (Nat × Nat)) : List Cond := p.2.map (ev_tgw1 p.1)
def ev_tgp_0 : List (Nat × Nat) := [(3, 96), (4, 54), (4, 177), (3, 160), (3, 161), (5, 29), (5, 32), (5, 90), (5, 28)]
set_option maxRecDepth 100000 in
theorem ev_tgw_in_0 : GoodIn lw_tbl (ev_tgw (ev_tgt.getD 0 (0, []))) := goodIn_c _ ev_tgp_0 (by decide +kernel) (by decide +kernel)
def ev_tgp_1 : List (Nat × Nat) := [(2, 43), (4, 10), (5, 47)]
set_option maxRecDepth 100000 in
theorem ev_tgw_in_1 : GoodIn lw_tbl (ev_tgw (ev_tgt.getD 1 (0, []))) := goodIn_c _ ev_tgp_1 (by decide +kernel) (by decide +kernel)
def ev_tgp_2 : List (Nat × Nat) := [(1, 52), (1, 105), (2, 188), (2, 192), (3, 127), (3, 140), (3, 136), (3, 144), (3, 152), (4, 211), (3, 123), (3, 148), (3, 156), (3, 169), (4, 206), (4, 207), (4, 220), (4, 221), (4, 225), (3, 183), (3, 191), (5, 72), (5, 73), (4, 83), (4, 84), (5, 15), (5, 19), (5, 104), (5, 109), (5, 110), (4, 136)]
set_option maxRecDepth 100000 in
theorem ev_tgw_in_2 : GoodIn lw_tbl (ev_tgw (ev_tgt.getD 2 (0, []))) := goodIn_c _ ev_tgp_2 (by decide +kernel) (by decide +kernel)
def ev_tgp_3 : List (Nat × Nat) := [(2, 184), (2, 199), (2, 207), (3, 44), (2, 203), (3, 226), (2, 211), (2, 215), (2, 219), (2, 223), (2, 228), (3, 40), (3, 49), (3, 62), (3, 71), (3, 80), (3, 101), (3, 115), (3, 175), (3, 196), (3, 201), (3, 53), (3, 57), (3, 66), (3, 75), (3, 84), (3, 88), (3, 105), (3, 109), (3, 119), (3, 132), (3, 179), (3, 187), (3, 205)]
set_option maxRecDepth 100000 in
theorem ev_tgw_in_3 : GoodIn lw_tbl (ev_tgw (ev_tgt.getD 3 (0, []))) := goodIn_c _ ev_tgp_3 (by decide +kernel) (by decide +kernel)
def ev_tgp_4 : List (Nat × Nat) := [(2, 196), (5, 51), (3, 92), (4, 50), (3, 113), (3, 173), (3, 209), (3, 214), (3, 218), (3, 222), (4, 234)]
set_option maxRecDepth 100000 in
theorem ev_tgw_in_4 : GoodIn lw_tbl (ev_tgw (ev_tgt.getD 4 (0, []))) := goodIn_c _ ev_tgp_4 (by decide +kernel) (by decide +kernel)
def ev_tgp_5 : List (Nat × Nat) := [(1, 46), (2, 1), (2, 37), (2, 65), (7, 153), (2, 177), (4, 6), (4, 18), (4, 38), (4, 42), (4, 46), (4, 62), (4, 67), (4, 71), (4, 75), (4, 79), (4, 93), (4, 102), (4, 107), (4, 108), (4, 112), (4, 120), (4, 132), (4, 144), (4, 152), (4, 160), (4, 165), (4, 168), (4, 173), (4, 185), (4, 193), (4, 197), (4, 202), (4, 216), (4, 230), (5, 11), (5, 24), (5, 39), (5, 43), (5, 58), (5, 63), (5, 68), (5, 78), (5, 86), (5, 100), (5, 105), (5, 115), (5, 128), (5, 132), (5, 141)]
set_option maxRecDepth 100000 in
theorem ev_tgw_in_5 : GoodIn lw_tbl (ev_tgw (ev_tgt.getD 5 (0, []))) := goodIn_c _ ev_tgp_5 (by decide +kernel) (by decide +kernel)
def ev_tgp_6 : List (Nat × Nat) := [(5, 159), (7, 33), (7, 34), (7, 47), (7, 43)]
set_option maxRecDepth 100000 in
theorem ev_tgw_in_6 : GoodIn lw_tbl (ev_tgw (ev_tgt.getD 6 (0, []))) := goodIn_c _ ev_tgp_6 (by decide +kernel) (by decide +kernel)
def ev_tgp_7 : List (Nat × Nat) := [(7, 146), (7, 149), (7, 143), (5, 145), (6, 25), (6, 89), (6, 209), (6, 235), (6, 237), (7, 11), (7, 15), (7, 29), (7, 39), (7, 53), (7, 157), (4, 14), (4, 89), (7, 166), (4, 58), (4, 116), (1, 38), (5, 148), (6, 83), (7, 110), (2, 106), (7, 163), (5, 124), (4, 128), (7, 160), (4, 98), (4, 156), (5, 35), (4, 140), (4, 198), (4, 189), (4, 161), (5, 59), (4, 212), (4, 124), (5, 64), (5, 2), (4, 226), (5, 111), (5, 20), (4, 169), (5, 74), (4, 181), (5, 82), (5, 7), (4, 148), (5, 96), (4, 238), (5, 116), (5, 136), (5, 120), (7, 170)]
set_option maxRecDepth 100000 in
theorem ev_tgw_in_7 : GoodIn lw_tbl (ev_tgw (ev_tgt.getD 7 (0, []))) := goodIn_c _ ev_tgp_7 (by decide +kernel) (by decide +kernel)
def ev_tgp_8 : List (Nat × Nat) := [(5, 162), (6, 29), (6, 33), (6, 37), (6, 41), (7, 19), (7, 23)]
set_option maxRecDepth 100000 in
theorem ev_tgw_in_8 : GoodIn lw_tbl (ev_tgw (ev_tgt.getD 8 (0, []))) := goodIn_c _ ev_tgp_8 (by decide +kernel) (by decide +kernel)
def ev_tgp_9 : List (Nat × Nat) := [(5, 165)]
set_option maxRecDepth 100000 in
theorem ev_tgw_in_9 : GoodIn lw_tbl (ev_tgw (ev_tgt.getD 9 (0, []))) := goodIn_c _ ev_tgp_9 (by decide +kernel) (by decide +kernel)
def ev_tgp_10 : List (Nat × Nat) := [(6, 92), (6, 117), (7, 1), (6, 213), (6, 113), (7, 59)]
set_option maxRecDepth 100000 in
theorem ev_tgw_in_10 : GoodIn lw_tbl (ev_tgw (ev_tgt.getD 10 (0, []))) := goodIn_c _ ev_tgp_10 (by decide +kernel) (by decide +kernel)
def ev_tgp_11 : List (Nat × Nat) := [(6, 99), (6, 107), (6, 124), (6, 164), (6, 143), (7, 4), (6, 216), (6, 219), (6, 128), (6, 133), (6, 132), (6, 168), (6, 191)]
set_option maxRecDepth 100000 in
theorem ev_tgw_in_11 : GoodIn lw_tbl (ev_tgw (ev_tgt.getD 11 (0, []))) := goodIn_c _ ev_tgp_11 (by decide +kernel) (by decide +kernel)
def ev_tgp_12 : List (Nat × Nat) := [(7, 62), (7, 66), (7, 71), (7, 79), (7, 80), (2, 236), (3, 6), (3, 10), (3, 18)]
set_option maxRecDepth 100000 in
theorem ev_tgw_in_12 : GoodIn lw_tbl (ev_tgw (ev_tgt.getD 12 (0, []))) := goodIn_c _ ev_tgp_12 (by decide +kernel) (by decide +kernel)
def ev_tgp_13 : List (Nat × Nat) := [(3, 13)]
set_option maxRecDepth 100000 in
theorem ev_tgw_in_13 : GoodIn lw_tbl (ev_tgw (ev_tgt.getD 13 (0, []))) := goodIn_c _ ev_tgp_13 (by decide +kernel) (by decide +kernel)
def ev_tgp_14 : List (Nat × Nat) := [(7, 83), (7, 86), (7, 173)]
set_option maxRecDepth 100000 in
theorem ev_tgw_in_14 : GoodIn lw_tbl (ev_tgw (ev_tgt.getD 14 (0, []))) := goodIn_c _ ev_tgp_14 (by decide +kernel) (by decide +kernel)
def ev_tgp_15 : List (Nat × Nat) := [(7, 180)]
set_option maxRecDepth 100000 in
theorem ev_tgw_in_15 : GoodIn lw_tbl (ev_tgw (ev_tgt.getD 15 (0, []))) := goodIn_c _ ev_tgp_15 (by decide +kernel) (by decide +kernel)
def ev_tgp_16 : List (Nat × Nat) := [(7, 22)]
set_option maxRecDepth 100000 in
theorem ev_tgw_in_16 : GoodIn lw_tbl (ev_tgw (ev_tgt.getD 16 (0, []))) := goodIn_c _ ev_tgp_16 (by decide +kernel) (by decide +kernel)
set_option maxRecDepth 100000 in
theorem ev_tgw_in : ∀ p ∈ ev_tgt, GoodIn lw_tbl (ev_tgw p) := by
  intro p hp
  obtain ⟨i, hi⟩ := List.getElem?_of_mem hp
  have h9 : ev_tgt.getD i (0, []) = p := by rw [List.getD_eq_getElem?_getD, hi]; rfl
  have hl : i < 17 := (List.getElem?_eq_some_iff.mp hi).1
  rw [← h9]
  match i, hl with
  | 0, _ => exact ev_tgw_in_0
  | 1, _ => exact ev_tgw_in_1
  | 2, _ => exact ev_tgw_in_2
  | 3, _ => exact ev_tgw_in_3
  | 4, _ => exact ev_tgw_in_4
  | 5, _ => exact ev_tgw_in_5
  | 6, _ => exact ev_tgw_in_6
  | 7, _ => exact ev_tgw_in_7
  | 8, _ => exact ev_tgw_in_8
  | 9, _ => exact ev_tgw_in_9
  | 10, _ => exact ev_tgw_in_10
  | 11, _ => exact ev_tgw_in_11
  | 12, _ => exact ev_tgw_in_12
  | 13, _ => exact ev_tgw_in_13
  | 14, _ => exact ev_tgw_in_14
  | 15, _ => exact ev_tgw_in_15
  | 16, _ => exact ev_tgw_in_16
/-- the one call of a nest mate: class of the code, index, method -/
def ev_nst : Nat × Nat × Nat := (5, 17, 0)
def ev_nsw : Cond := .methodLinkNest "FlagLaundry$State" 17 ⟨"FlagLaundry$Flag", "<init>", "()V"⟩ "FlagLaundry"
/-- the other calls of nest mates: class of the code, index, method; their words -/
def ev_nsl : List (Nat × Nat × Nat) := [(20, 27, 148), (20, 53, 153)]
def ev_nslw : List Cond := [.methodLinkNest "FlagLaundryLaw" 27 ⟨"FlagLaundryLaw$Desk", "<init>", "()V"⟩ "FlagLaundryLaw", .methodLinkNest "FlagLaundryLaw" 53 ⟨"FlagLaundryLaw$Flag", "<init>", "()V"⟩ "FlagLaundryLaw"]
set_option maxRecDepth 100000 in
theorem ev_nslw_in : ∀ w ∈ ev_nslw, w ∈ lw_tbl := by
  have h : ev_nslw = ([(5, 153), (5, 222)] : List (Nat × Nat)).filterMap ev_chw := by decide +kernel
  intro w hw
  rw [h] at hw
  obtain ⟨q_, -, hq_⟩ := List.mem_filterMap.mp hw
  exact ev_chw_in hq_
set_option maxRecDepth 100000 in
theorem ev_nsw_in : ev_nsw ∈ lw_tbl := List.mem_of_getElem? (i := 143) (by decide +kernel)
/-- calls of the JDK: class of the code, index, 100 max 101 min 102 abs 103 Object() 104 arraycopy 105 length 106 charAt -/
def ev_nat : List (Nat × List (Nat × Nat)) := [(0, [(3, 103), (54, 100), (67, 101)]),
  (1, [(3, 103)]),
  (2, [(3, 103), (46, 101), (125, 100), (212, 102)]),
  (3, [(3, 103), (19, 101), (82, 105), (87, 106)]),
  (4, [(3, 103)]),
  (5, [(3, 103), (63, 104), (116, 100)]),
  (6, [(3, 103)]),
  (7, [(1, 103), (306, 101)]),
  (8, [(1, 103), (109, 100), (82, 101)]),
  (16, [(1, 103)]),
  (17, [(79, 100)]),
  (24, [(1, 103)]),
  (25, [(3, 103), (32, 105)]),
  (19, [(1, 103), (212, 104)]),
  (21, [(304, 101), (150, 104)]),
  (27, [(194, 100)])]
def ev_natn (k : Nat) : MethodName := match k with
  | 100 => Lib.Math.max.name
  | 101 => Lib.Math.min.name
  | 102 => Lib.Math.abs.name
  | 103 => Lib.objectInit
  | 104 => arraycopyName
  | 105 => ⟨"java/lang/String", "length", "()I"⟩
  | _ => ⟨"java/lang/String", "charAt", "(I)C"⟩
def ev_natw : List Cond := ev_nat.flatMap (fun p => p.2.map (fun q => .methodLink (ev_own.getD p.1 "") q.1 (ev_natn q.2)))
set_option maxRecDepth 100000 in
theorem ev_natw_in : GoodIn lw_tbl ev_natw := goodIn_c _ [(1, 115), (3, 165), (3, 168), (2, 40), (1, 49), (3, 131), (4, 88), (4, 137), (2, 4), (2, 181), (2, 232), (3, 2), (1, 55), (1, 108), (5, 55), (3, 213), (2, 68), (1, 41), (5, 6), (5, 156), (7, 51), (7, 52), (5, 225), (6, 81), (5, 168), (6, 95), (6, 96), (7, 65), (6, 195), (6, 79), (6, 80), (6, 44)] (by decide +kernel) (by decide +kernel)
def ev_jdw : List Cond := [.code Lib.Math.max.name Lib.Math.max.code 2 (some .int), .static Lib.Math.max.name, .code Lib.Math.min.name Lib.Math.min.code 2 (some .int), .static Lib.Math.min.name, .code Lib.Math.abs.name Lib.Math.abs.code 1 (some .int), .static Lib.Math.abs.name, .code Lib.objectInit ⟨#[0xb1]⟩ 1 none, .instanceMethod Lib.objectInit, .initialized "java/lang/Math", .static arraycopyName, .native arraycopyName, .initialized "java/lang/System"]
set_option maxRecDepth 100000 in
theorem ev_jdw_in : GoodIn lw_tbl ev_jdw := goodIn_c _ [(3, 167), (3, 166), (2, 183), (2, 182), (4, 139), (4, 138), (1, 43), (1, 42), (1, 15), (5, 56), (5, 57), (1, 17)] (by decide +kernel) (by decide +kernel)
/-- classes named by an index: class of the code, index, class -/
def ev_clt : List (Nat × List (Nat × Nat)) := [(1, [(9, 5)]),
  (2, [(9, 4), (18, 5)]),
  (5, [(9, 0)]),
  (7, [(27, 2), (37, 3), (44, 1), (51, 6)]),
  (8, [(7, 17)]),
  (20, [(25, 8), (51, 16), (76, 18), (14, 7)]),
  (18, [(18, 19)])]
def ev_clw1 (o : Nat) (q : Nat × Nat) : Cond := match vwCl[q.2]? with
  | some r => .classLink (ev_own.getD o "") q.1 r.1
  | none => .tt
def ev_clw : List Cond := ev_clt.flatMap (fun p => p.2.map (ev_clw1 p.1))
set_option maxRecDepth 100000 in
theorem ev_clw_in : GoodIn lw_tbl ev_clw := goodIn_c _ [(2, 41), (1, 50), (1, 103), (1, 109), (1, 44), (1, 239), (2, 35), (2, 63), (5, 157), (5, 151), (5, 220), (6, 86), (1, 36), (7, 57)] (by decide +kernel) (by decide +kernel)
/-- nest mates' fields: class of the code, index, (class, place) -/
def ev_fnt : List (Nat × List (Nat × Nat × Nat)) := [(8, [(76, 16, 8), (94, 16, 1), (97, 16, 6), (106, 16, 3), (112, 16, 4), (115, 16, 5)]),
  (20, [(32, 8, 0), (36, 8, 8), (41, 8, 10), (45, 8, 9), (48, 8, 2), (54, 16, 0), (57, 16, 1), (60, 16, 2), (63, 16, 3), (66, 8, 11), (118, 16, 8), (121, 8, 7), (124, 16, 10)])]
def ev_fnw1 (o : Nat) (q : Nat × Nat × Nat) : Cond := match vwCl[q.2.1]? with
  | some r => .fieldLinkNest (ev_own.getD o "") q.1 (r.2.1 q.2.2).1 (r.2.1 q.2.2).2.1 (r.2.1 q.2.2).2.2.1 "FlagLaundryLaw"
  | none => .tt
def ev_fnw : List Cond := ev_fnt.flatMap (fun p => p.2.map (ev_fnw1 p.1))
set_option maxRecDepth 100000 in
theorem ev_fnw_in : ∀ w ∈ ev_fnw, w ∈ lw_tbl := by
  have h : ev_fnw = ([(5, 236), (5, 227), (5, 234), (5, 230), (5, 232), (5, 233), (5, 183), (5, 188), (5, 190), (5, 189), (5, 184), (5, 226), (5, 228), (5, 229), (5, 231), (5, 192), (5, 237), (5, 186), (5, 239)] : List (Nat × Nat)).filterMap ev_chw := by decide +kernel
  intro w hw
  rw [h] at hw
  obtain ⟨q_, -, hq_⟩ := List.mem_filterMap.mp hw
  exact ev_chw_in hq_
set_option maxRecDepth 100000 in
theorem ev_fn_ok : ev_fnt.all (fun p => p.2.all (fun q => match vwCl[q.2.1]? with | some r => decide (q.2.2 < r.2.2) | none => false)) = true := by decide +kernel
set_option maxRecDepth 100000 in
theorem ev_cl_ok : ev_clt.all (fun p => p.2.all (fun q => decide (q.2 < 9 ∨ (16 ≤ q.2 ∧ q.2 < 20)))) = true := by decide +kernel
def ev_insw : List Cond := vwCl.flatMap (fun r => [.instantiable r.1 r.2.2, .initialized r.1])
set_option maxRecDepth 100000 in
theorem ev_insw_in : GoodIn lw_tbl ev_insw := goodIn_c _ [(1, 111), (1, 5), (2, 36), (1, 7), (1, 45), (1, 2), (2, 0), (1, 6), (1, 51), (1, 3), (1, 104), (1, 4), (2, 64), (1, 8), (1, 37), (1, 1), (5, 152), (1, 9), (1, 111), (1, 5), (1, 111), (1, 5), (1, 111), (1, 5), (1, 111), (1, 5), (1, 111), (1, 5), (1, 111), (1, 5), (1, 111), (1, 5), (5, 221), (1, 13), (5, 158), (1, 12), (6, 87), (1, 19), (7, 58), (1, 20)] (by decide +kernel) (by decide +kernel)
def ev_arrw : List Cond := [.arrayClass .byte, .arrayClass .int, .arrayClass .boolean, .arrayClass .long]
set_option maxRecDepth 100000 in
theorem ev_arrw_in : GoodIn lw_tbl ev_arrw := goodIn_c _ [(1, 101), (1, 102), (2, 62), (8, 35)] (by decide +kernel) (by decide +kernel)
set_option maxRecDepth 100000 in
theorem ev_ao_Flag : Cond.arrayOver (.object RX0) ∈ lw_tbl := List.mem_of_getElem? (i := 141) (by decide +kernel)
set_option maxRecDepth 100000 in
theorem ev_ao_State : Cond.arrayOver (.object RX5) ∈ lw_tbl := List.mem_of_getElem? (i := 313) (by decide +kernel)
set_option maxRecDepth 100000 in
theorem ev_ao_Obj : Cond.arrayOver (.object "java/lang/Object") ∈ lw_tbl := List.mem_of_getElem? (i := 1308) (by decide +kernel)
set_option maxRecDepth 100000 in
theorem ev_ao_II : Cond.arrayOver (.array .int) ∈ lw_tbl := List.mem_of_getElem? (i := 1210) (by decide +kernel)
/-- int constants: class of the code, index, value -/
def ev_cst : List (Nat × Nat × Int32) := [(22, 264, 65536), (22, 265, 1431655765), (22, 266, 858993459), (22, 267, 252645135), (25, 38, 2147483631), (25, 39, 2147483647), (27, 200, 2147483639), (30, 374, 65535)]
def ev_cstw : List Cond := ev_cst.map (fun q => .constant (ev_own.getD q.1 "") q.2.1 q.2.2)
set_option maxRecDepth 100000 in
theorem ev_cstw_in : GoodIn lw_tbl ev_cstw := goodIn_c _ [(8, 5), (5, 93), (5, 94), (5, 95), (6, 97), (6, 98), (6, 45), (8, 26)] (by decide +kernel) (by decide +kernel)
/-- throw sites: method, pc, (exception 0 state 1 index 2 argument, class index, text index, constructor index, wide) -/
def ev_thr : List (Nat × List (Nat × Nat × Nat × Nat × Nat × Nat)) := [(106, [(12, 1, 62, 64, 66, 0), (72, 2, 77, 79, 81, 0)]), (138, [(16, 0, 402, 421, 406, 1)]), (139, [(7, 0, 402, 426, 406, 1)]), (140, [(22, 1, 62, 428, 66, 1)]), (141, [(22, 1, 62, 430, 66, 1)]), (142, [(22, 1, 62, 432, 66, 1)]), (143, [(9, 1, 62, 434, 66, 1)]), (145, [(10, 2, 77, 436, 81, 1)]), (146, [(4, 2, 77, 438, 81, 1)])]
def ev_ex (k : Nat) : String := match k with
  | 0 => "java/lang/IllegalStateException"
  | 1 => "java/lang/IndexOutOfBoundsException"
  | _ => "java/lang/IllegalArgumentException"
/-- the classes that the law's handlers name: index, exception -/
def ev_hct : List (Nat × Nat) := []
def ev_hcw : List Cond := ev_hct.map (fun q => .classLink "FlagLaundryLaw" q.1 (ev_ex q.2))
set_option maxRecDepth 100000 in
theorem ev_hcw_in : GoodIn lw_tbl ev_hcw := fun w hw => absurd hw List.not_mem_nil
/-- what a throw needs of the tables: (class of the code, exception, class index, constructor index) -/
def ev_thk : List (Nat × Nat × Nat × Nat) := [(7, 1, 62, 66), (7, 2, 77, 81), (7, 0, 402, 406)]
set_option maxRecDepth 100000 in
theorem ev_thk_cl : GoodIn lw_tbl (ev_thk.map (fun q => Cond.classLink (ev_own.getD q.1 "") q.2.2.1 (ev_ex q.2.1))) := goodIn_c _ [(2, 110), (3, 230), (4, 22)] (by decide +kernel) (by decide +kernel)
set_option maxRecDepth 100000 in
theorem ev_thk_in : GoodIn lw_tbl [Cond.initialized (ev_ex 0), Cond.initialized (ev_ex 1), Cond.initialized (ev_ex 2)] := goodIn_c _ [(1, 32), (1, 30), (1, 31)] (by decide +kernel) (by decide +kernel)
set_option maxRecDepth 100000 in
theorem ev_thk_at : ev_thk.all (fun q => ((vx_atS (ev_own.getD q.1 "") q.2.2.2 (ev_ex q.2.1) ["java/lang/RuntimeException", "java/lang/Exception"]).filter goodWord).all (fun w => decide (w ∈ lw_tbl))) = true := by decide +kernel
def ev_ngw : List Cond := [.castable (ev_ex 0) (ev_ex 0), .castable (ev_ex 1) (ev_ex 1), .castable (ev_ex 2) (ev_ex 2), .declares ⟨"java/lang/RuntimeException", "<init>", "(Ljava/lang/String;)V"⟩, .declares ⟨"java/lang/Exception", "<init>", "(Ljava/lang/String;)V"⟩, .declares ⟨"java/lang/Throwable", "<init>", "(Ljava/lang/String;)V"⟩]
set_option maxRecDepth 100000 in
theorem ev_ngw_eq : ev_ngw = ([775, 383, 743, 385, 387, 389]).filterMap (fun i => lw_tbl[i]?) := by rfl
set_option maxRecDepth 100000 in
theorem ev_ngw_in : ∀ w ∈ ev_ngw, w ∈ lw_tbl := fun w hw => by
  rw [ev_ngw_eq] at hw
  obtain ⟨i, -, hi⟩ := List.mem_filterMap.mp hw
  exact List.mem_of_getElem? hi
set_option maxRecDepth 100000 in
theorem ev_thk_ng : ev_thk.all (fun q => ((vx_atS (ev_own.getD q.1 "") q.2.2.2 (ev_ex q.2.1) ["java/lang/RuntimeException", "java/lang/Exception"]).filter (fun w => !goodWord w)).all (fun w => decide (w ∈ ev_ngw))) = true := by decide +kernel
set_option maxRecDepth 100000 in
theorem ev_thk_ot : ev_thk.all (fun q => (Cond.classLink (ev_own.getD q.1 "") q.2.2.1 (ev_ex q.2.1) :: Cond.initialized (ev_ex q.2.1) :: vx_atS (ev_own.getD q.1 "") q.2.2.2 (ev_ex q.2.1) ["java/lang/RuntimeException", "java/lang/Exception"]).all vx_ot) = true := by decide +kernel
/-- String constants: class of the code, index, text -/
def ev_str : List (Nat × Nat × String) := [(7, 64, "not so many bytes in the buffer"),
  (3, 91, "line"),
  (3, 118, "colour"),
  (3, 123, "nation"),
  (3, 128, "tub"),
  (3, 133, "flag"),
  (3, 138, "put"),
  (3, 143, "wash"),
  (3, 148, "hang"),
  (3, 153, "wind"),
  (3, 158, "pass"),
  (7, 79, "the text has an error"),
  (7, 426, "no text was loaded"),
  (7, 436, "out of range"),
  (7, 432, "no such nation"),
  (7, 428, "no such flag"),
  (7, 430, "no such tub"),
  (7, 438, "this can not be done now"),
  (7, 434, "no such slot"),
  (7, 421, "nothing is saved there"),
  (20, 78, "line "),
  (20, 86, ";colour "),
  (20, 91, ";nation "),
  (20, 96, ";tub "),
  (20, 106, ";flag "),
  (20, 108, ";wind "),
  (20, 114, ";put "),
  (20, 116, " 0"),
  (20, 127, ";wash 0 0")]
/-- their bytes -/
def ev_sby : List (List Int32) := [[110, 111, 116, 32, 115, 111, 32, 109, 97, 110, 121, 32, 98, 121, 116, 101, 115, 32, 105, 110, 32, 116, 104, 101, 32, 98, 117, 102, 102, 101, 114],
  [108, 105, 110, 101],
  [99, 111, 108, 111, 117, 114],
  [110, 97, 116, 105, 111, 110],
  [116, 117, 98],
  [102, 108, 97, 103],
  [112, 117, 116],
  [119, 97, 115, 104],
  [104, 97, 110, 103],
  [119, 105, 110, 100],
  [112, 97, 115, 115],
  [116, 104, 101, 32, 116, 101, 120, 116, 32, 104, 97, 115, 32, 97, 110, 32, 101, 114, 114, 111, 114],
  [110, 111, 32, 116, 101, 120, 116, 32, 119, 97, 115, 32, 108, 111, 97, 100, 101, 100],
  [111, 117, 116, 32, 111, 102, 32, 114, 97, 110, 103, 101],
  [110, 111, 32, 115, 117, 99, 104, 32, 110, 97, 116, 105, 111, 110],
  [110, 111, 32, 115, 117, 99, 104, 32, 102, 108, 97, 103],
  [110, 111, 32, 115, 117, 99, 104, 32, 116, 117, 98],
  [116, 104, 105, 115, 32, 99, 97, 110, 32, 110, 111, 116, 32, 98, 101, 32, 100, 111, 110, 101, 32, 110, 111, 119],
  [110, 111, 32, 115, 117, 99, 104, 32, 115, 108, 111, 116],
  [110, 111, 116, 104, 105, 110, 103, 32, 105, 115, 32, 115, 97, 118, 101, 100, 32, 116, 104, 101, 114, 101],
  [108, 105, 110, 101, 32],
  [59, 99, 111, 108, 111, 117, 114, 32],
  [59, 110, 97, 116, 105, 111, 110, 32],
  [59, 116, 117, 98, 32],
  [59, 102, 108, 97, 103, 32],
  [59, 119, 105, 110, 100, 32],
  [59, 112, 117, 116, 32],
  [32, 48],
  [59, 119, 97, 115, 104, 32, 48, 32, 48]]
set_option maxRecDepth 100000 in
theorem ev_str_in : ∀ q ∈ ev_str, Cond.stringRef (ev_own.getD q.1 "") q.2.1 q.2.2 ∈ lw_tbl := by
  have h : (ev_str.map (fun q => Cond.stringRef (ev_own.getD q.1 "") q.2.1 q.2.2)) = ([422, 498, 559, 572, 581, 590, 611, 625, 685, 706, 711, 750, 782, 792, 817, 848, 857, 1033, 1122, 1131, 1319, 1465, 1467, 1481, 1498, 1499, 1507, 1508, 1509]).filterMap (fun i => lw_tbl[i]?) := by rfl
  intro q hq
  have h1 : Cond.stringRef (ev_own.getD q.1 "") q.2.1 q.2.2 ∈ ev_str.map (fun q => Cond.stringRef (ev_own.getD q.1 "") q.2.1 q.2.2) := List.mem_map.mpr ⟨q, hq, rfl⟩
  rw [h] at h1
  obtain ⟨i, -, hi⟩ := List.mem_filterMap.mp h1
  exact List.mem_of_getElem? hi
end
section
/-! code, by wip/gen/gen.py -/
def ev_cs_0 : List (Nat × List (Nat × List (Nat × Instr × Nat))) := [(0, ev_c_0), (1, ev_c_1), (2, ev_c_2), (3, ev_c_3), (4, ev_c_4), (5, ev_c_5), (6, ev_c_6), (7, ev_c_7), (8, ev_c_8), (9, ev_c_9), (10, ev_c_10), (11, ev_c_11), (12, ev_c_12), (13, ev_c_13), (14, ev_c_14), (15, ev_c_15)]
def ev_cs_1 : List (Nat × List (Nat × List (Nat × Instr × Nat))) := [(16, ev_c_16), (17, ev_c_17), (18, ev_c_18), (19, ev_c_19), (20, ev_c_20), (21, ev_c_21), (22, ev_c_22), (23, ev_c_23), (24, ev_c_24), (25, ev_c_25), (26, ev_c_26), (27, ev_c_27), (28, ev_c_28), (29, ev_c_29), (30, ev_c_30), (31, ev_c_31)]
def ev_cs_2 : List (Nat × List (Nat × List (Nat × Instr × Nat))) := [(32, ev_c_32), (33, ev_c_33), (34, ev_c_34), (35, ev_c_35), (36, ev_c_36), (37, ev_c_37), (38, ev_c_38), (39, ev_c_39), (40, ev_c_40), (41, ev_c_41), (42, ev_c_42), (43, ev_c_43), (44, ev_c_44), (45, ev_c_45), (46, ev_c_46), (47, ev_c_47)]
def ev_cs_3 : List (Nat × List (Nat × List (Nat × Instr × Nat))) := [(48, ev_c_48), (49, ev_c_49), (50, ev_c_50), (51, ev_c_51), (52, ev_c_52), (53, ev_c_53), (54, ev_c_54), (55, ev_c_55), (56, ev_c_56), (57, ev_c_57), (58, ev_c_58), (59, ev_c_59), (60, ev_c_60), (61, ev_c_61), (62, ev_c_62), (63, ev_c_63)]
def ev_cs_4 : List (Nat × List (Nat × List (Nat × Instr × Nat))) := [(64, ev_c_64), (65, ev_c_65), (66, ev_c_66), (67, ev_c_67), (68, ev_c_68), (69, ev_c_69), (70, ev_c_70), (71, ev_c_71), (72, ev_c_72), (73, ev_c_73), (74, ev_c_74), (75, ev_c_75), (76, ev_c_76), (77, ev_c_77), (78, ev_c_78), (79, ev_c_79)]
def ev_cs_5 : List (Nat × List (Nat × List (Nat × Instr × Nat))) := [(80, ev_c_80), (81, ev_c_81), (82, ev_c_82), (83, ev_c_83), (84, ev_c_84), (85, ev_c_85), (86, ev_c_86), (87, ev_c_87), (88, ev_c_88), (89, ev_c_89), (90, ev_c_90), (91, ev_c_91), (92, ev_c_92), (93, ev_c_93), (94, ev_c_94), (95, ev_c_95)]
def ev_cs_6 : List (Nat × List (Nat × List (Nat × Instr × Nat))) := [(96, ev_c_96), (97, ev_c_97), (98, ev_c_98), (99, ev_c_99), (100, ev_c_100), (101, ev_c_101), (102, ev_c_102), (103, ev_c_103), (104, ev_c_104), (105, ev_c_105), (106, ev_c_106), (107, ev_c_107), (108, ev_c_108), (109, ev_c_109), (110, ev_c_110), (111, ev_c_111)]
def ev_cs_7 : List (Nat × List (Nat × List (Nat × Instr × Nat))) := [(112, ev_c_112), (113, ev_c_113), (114, ev_c_114), (115, ev_c_115), (116, ev_c_116), (117, ev_c_117), (118, ev_c_118), (119, ev_c_119), (120, ev_c_120), (121, ev_c_121), (122, ev_c_122), (123, ev_c_123), (124, ev_c_124), (125, ev_c_125), (126, ev_c_126), (127, ev_c_127)]
def ev_cs_8 : List (Nat × List (Nat × List (Nat × Instr × Nat))) := [(128, ev_c_128), (129, ev_c_129), (130, ev_c_130), (131, ev_c_131), (132, ev_c_132), (133, ev_c_133), (134, ev_c_134), (135, ev_c_135), (136, ev_c_136), (137, ev_c_137), (138, ev_c_138), (139, ev_c_139), (140, ev_c_140), (141, ev_c_141), (142, ev_c_142), (143, ev_c_143)]
def ev_cs_9 : List (Nat × List (Nat × List (Nat × Instr × Nat))) := [(144, ev_c_144), (145, ev_c_145), (146, ev_c_146), (147, ev_c_147), (148, ev_c_148), (149, ev_c_149), (150, ev_c_150), (151, ev_c_151), (152, ev_c_152), (153, ev_c_153), (154, ev_c_154), (155, ev_c_155), (156, ev_c_156), (157, ev_c_157), (158, ev_c_158), (159, ev_c_159)]
def ev_cs_10 : List (Nat × List (Nat × List (Nat × Instr × Nat))) := [(160, ev_c_160), (161, ev_c_161), (162, ev_c_162), (163, ev_c_163), (164, ev_c_164), (165, ev_c_165), (166, ev_c_166), (167, ev_c_167), (168, ev_c_168), (169, ev_c_169), (170, ev_c_170), (171, ev_c_171), (172, ev_c_172), (173, ev_c_173), (174, ev_c_174), (175, ev_c_175)]
def ev_cs_11 : List (Nat × List (Nat × List (Nat × Instr × Nat))) := [(176, ev_c_176), (177, ev_c_177), (178, ev_c_178), (179, ev_c_179), (180, ev_c_180), (181, ev_c_181), (182, ev_c_182), (183, ev_c_183), (184, ev_c_184), (185, ev_c_185), (186, ev_c_186), (187, ev_c_187), (188, ev_c_188), (189, ev_c_189), (190, ev_c_190), (191, ev_c_191)]
def ev_cs_12 : List (Nat × List (Nat × List (Nat × Instr × Nat))) := [(192, ev_c_192), (193, ev_c_193), (194, ev_c_194), (195, ev_c_195), (196, ev_c_196), (197, ev_c_197), (198, ev_c_198), (199, ev_c_199), (200, ev_c_200), (201, ev_c_201), (202, ev_c_202), (203, ev_c_203), (204, ev_c_204), (205, ev_c_205), (206, ev_c_206), (207, ev_c_207)]
def ev_cs_13 : List (Nat × List (Nat × List (Nat × Instr × Nat))) := [(208, ev_c_208), (209, ev_c_209), (210, ev_c_210), (211, ev_c_211), (212, ev_c_212), (213, ev_c_213), (214, ev_c_214), (215, ev_c_215)]
def ev_css : List (Nat × List (Nat × List (Nat × List (Nat × Instr × Nat)))) := [(0, ev_cs_0), (1, ev_cs_1), (2, ev_cs_2), (3, ev_cs_3), (4, ev_cs_4), (5, ev_cs_5), (6, ev_cs_6), (7, ev_cs_7), (8, ev_cs_8), (9, ev_cs_9), (10, ev_cs_10), (11, ev_cs_11), (12, ev_cs_12), (13, ev_cs_13)]
def ev_cx (i : Nat) : List (Nat × List (Nat × Instr × Nat)) := match ev_look2 (i / 16) i ev_css with
  | some l => l
  | none => []
def ev_cd (i pc : Nat) : Option (Instr × Nat) := ev_look2 (pc / 32) pc (ev_cx i)
def ev_dok (i : Nat) (l : List (Nat × List (Nat × Instr × Nat))) : Prop := ∃ e, ev_mel i = some e ∧ ∀ q ∈ l, ∀ z ∈ q.2, decode (ev_by e) z.1 = .ok (z.2.1, z.2.2)
set_option maxRecDepth 100000 in
theorem ev_dk_0 : ∀ q ∈ ev_cs_0, ev_dok q.1 q.2 := List.forall_mem_cons.mpr ⟨⟨_, rfl, ev_d_0⟩, List.forall_mem_cons.mpr ⟨⟨_, rfl, ev_d_1⟩, List.forall_mem_cons.mpr ⟨⟨_, rfl, ev_d_2⟩, List.forall_mem_cons.mpr ⟨⟨_, rfl, ev_d_3⟩, List.forall_mem_cons.mpr ⟨⟨_, rfl, ev_d_4⟩, List.forall_mem_cons.mpr ⟨⟨_, rfl, ev_d_5⟩, List.forall_mem_cons.mpr ⟨⟨_, rfl, ev_d_6⟩, List.forall_mem_cons.mpr ⟨⟨_, rfl, ev_d_7⟩, List.forall_mem_cons.mpr ⟨⟨_, rfl, ev_d_8⟩, List.forall_mem_cons.mpr ⟨⟨_, rfl, ev_d_9⟩, List.forall_mem_cons.mpr ⟨⟨_, rfl, ev_d_10⟩, List.forall_mem_cons.mpr ⟨⟨_, rfl, ev_d_11⟩, List.forall_mem_cons.mpr ⟨⟨_, rfl, ev_d_12⟩, List.forall_mem_cons.mpr ⟨⟨_, rfl, ev_d_13⟩, List.forall_mem_cons.mpr ⟨⟨_, rfl, ev_d_14⟩, List.forall_mem_cons.mpr ⟨⟨_, rfl, ev_d_15⟩, fun _ h => absurd h List.not_mem_nil⟩⟩⟩⟩⟩⟩⟩⟩⟩⟩⟩⟩⟩⟩⟩⟩
set_option maxRecDepth 100000 in
theorem ev_dk_1 : ∀ q ∈ ev_cs_1, ev_dok q.1 q.2 := List.forall_mem_cons.mpr ⟨⟨_, rfl, ev_d_16⟩, List.forall_mem_cons.mpr ⟨⟨_, rfl, ev_d_17⟩, List.forall_mem_cons.mpr ⟨⟨_, rfl, ev_d_18⟩, List.forall_mem_cons.mpr ⟨⟨_, rfl, ev_d_19⟩, List.forall_mem_cons.mpr ⟨⟨_, rfl, ev_d_20⟩, List.forall_mem_cons.mpr ⟨⟨_, rfl, ev_d_21⟩, List.forall_mem_cons.mpr ⟨⟨_, rfl, ev_d_22⟩, List.forall_mem_cons.mpr ⟨⟨_, rfl, ev_d_23⟩, List.forall_mem_cons.mpr ⟨⟨_, rfl, ev_d_24⟩, List.forall_mem_cons.mpr ⟨⟨_, rfl, ev_d_25⟩, List.forall_mem_cons.mpr ⟨⟨_, rfl, ev_d_26⟩, List.forall_mem_cons.mpr ⟨⟨_, rfl, ev_d_27⟩, List.forall_mem_cons.mpr ⟨⟨_, rfl, ev_d_28⟩, List.forall_mem_cons.mpr ⟨⟨_, rfl, ev_d_29⟩, List.forall_mem_cons.mpr ⟨⟨_, rfl, ev_d_30⟩, List.forall_mem_cons.mpr ⟨⟨_, rfl, ev_d_31⟩, fun _ h => absurd h List.not_mem_nil⟩⟩⟩⟩⟩⟩⟩⟩⟩⟩⟩⟩⟩⟩⟩⟩
set_option maxRecDepth 100000 in
theorem ev_dk_2 : ∀ q ∈ ev_cs_2, ev_dok q.1 q.2 := List.forall_mem_cons.mpr ⟨⟨_, rfl, ev_d_32⟩, List.forall_mem_cons.mpr ⟨⟨_, rfl, ev_d_33⟩, List.forall_mem_cons.mpr ⟨⟨_, rfl, ev_d_34⟩, List.forall_mem_cons.mpr ⟨⟨_, rfl, ev_d_35⟩, List.forall_mem_cons.mpr ⟨⟨_, rfl, ev_d_36⟩, List.forall_mem_cons.mpr ⟨⟨_, rfl, ev_d_37⟩, List.forall_mem_cons.mpr ⟨⟨_, rfl, ev_d_38⟩, List.forall_mem_cons.mpr ⟨⟨_, rfl, ev_d_39⟩, List.forall_mem_cons.mpr ⟨⟨_, rfl, ev_d_40⟩, List.forall_mem_cons.mpr ⟨⟨_, rfl, ev_d_41⟩, List.forall_mem_cons.mpr ⟨⟨_, rfl, ev_d_42⟩, List.forall_mem_cons.mpr ⟨⟨_, rfl, ev_d_43⟩, List.forall_mem_cons.mpr ⟨⟨_, rfl, ev_d_44⟩, List.forall_mem_cons.mpr ⟨⟨_, rfl, ev_d_45⟩, List.forall_mem_cons.mpr ⟨⟨_, rfl, ev_d_46⟩, List.forall_mem_cons.mpr ⟨⟨_, rfl, ev_d_47⟩, fun _ h => absurd h List.not_mem_nil⟩⟩⟩⟩⟩⟩⟩⟩⟩⟩⟩⟩⟩⟩⟩⟩
set_option maxRecDepth 100000 in
theorem ev_dk_3 : ∀ q ∈ ev_cs_3, ev_dok q.1 q.2 := List.forall_mem_cons.mpr ⟨⟨_, rfl, ev_d_48⟩, List.forall_mem_cons.mpr ⟨⟨_, rfl, ev_d_49⟩, List.forall_mem_cons.mpr ⟨⟨_, rfl, ev_d_50⟩, List.forall_mem_cons.mpr ⟨⟨_, rfl, ev_d_51⟩, List.forall_mem_cons.mpr ⟨⟨_, rfl, ev_d_52⟩, List.forall_mem_cons.mpr ⟨⟨_, rfl, ev_d_53⟩, List.forall_mem_cons.mpr ⟨⟨_, rfl, ev_d_54⟩, List.forall_mem_cons.mpr ⟨⟨_, rfl, ev_d_55⟩, List.forall_mem_cons.mpr ⟨⟨_, rfl, ev_d_56⟩, List.forall_mem_cons.mpr ⟨⟨_, rfl, ev_d_57⟩, List.forall_mem_cons.mpr ⟨⟨_, rfl, ev_d_58⟩, List.forall_mem_cons.mpr ⟨⟨_, rfl, ev_d_59⟩, List.forall_mem_cons.mpr ⟨⟨_, rfl, ev_d_60⟩, List.forall_mem_cons.mpr ⟨⟨_, rfl, ev_d_61⟩, List.forall_mem_cons.mpr ⟨⟨_, rfl, ev_d_62⟩, List.forall_mem_cons.mpr ⟨⟨_, rfl, ev_d_63⟩, fun _ h => absurd h List.not_mem_nil⟩⟩⟩⟩⟩⟩⟩⟩⟩⟩⟩⟩⟩⟩⟩⟩
set_option maxRecDepth 100000 in
theorem ev_dk_4 : ∀ q ∈ ev_cs_4, ev_dok q.1 q.2 := List.forall_mem_cons.mpr ⟨⟨_, rfl, ev_d_64⟩, List.forall_mem_cons.mpr ⟨⟨_, rfl, ev_d_65⟩, List.forall_mem_cons.mpr ⟨⟨_, rfl, ev_d_66⟩, List.forall_mem_cons.mpr ⟨⟨_, rfl, ev_d_67⟩, List.forall_mem_cons.mpr ⟨⟨_, rfl, ev_d_68⟩, List.forall_mem_cons.mpr ⟨⟨_, rfl, ev_d_69⟩, List.forall_mem_cons.mpr ⟨⟨_, rfl, ev_d_70⟩, List.forall_mem_cons.mpr ⟨⟨_, rfl, ev_d_71⟩, List.forall_mem_cons.mpr ⟨⟨_, rfl, ev_d_72⟩, List.forall_mem_cons.mpr ⟨⟨_, rfl, ev_d_73⟩, List.forall_mem_cons.mpr ⟨⟨_, rfl, ev_d_74⟩, List.forall_mem_cons.mpr ⟨⟨_, rfl, ev_d_75⟩, List.forall_mem_cons.mpr ⟨⟨_, rfl, ev_d_76⟩, List.forall_mem_cons.mpr ⟨⟨_, rfl, ev_d_77⟩, List.forall_mem_cons.mpr ⟨⟨_, rfl, ev_d_78⟩, List.forall_mem_cons.mpr ⟨⟨_, rfl, ev_d_79⟩, fun _ h => absurd h List.not_mem_nil⟩⟩⟩⟩⟩⟩⟩⟩⟩⟩⟩⟩⟩⟩⟩⟩
set_option maxRecDepth 100000 in
theorem ev_dk_5 : ∀ q ∈ ev_cs_5, ev_dok q.1 q.2 := List.forall_mem_cons.mpr ⟨⟨_, rfl, ev_d_80⟩, List.forall_mem_cons.mpr ⟨⟨_, rfl, ev_d_81⟩, List.forall_mem_cons.mpr ⟨⟨_, rfl, ev_d_82⟩, List.forall_mem_cons.mpr ⟨⟨_, rfl, ev_d_83⟩, List.forall_mem_cons.mpr ⟨⟨_, rfl, ev_d_84⟩, List.forall_mem_cons.mpr ⟨⟨_, rfl, ev_d_85⟩, List.forall_mem_cons.mpr ⟨⟨_, rfl, ev_d_86⟩, List.forall_mem_cons.mpr ⟨⟨_, rfl, ev_d_87⟩, List.forall_mem_cons.mpr ⟨⟨_, rfl, ev_d_88⟩, List.forall_mem_cons.mpr ⟨⟨_, rfl, ev_d_89⟩, List.forall_mem_cons.mpr ⟨⟨_, rfl, ev_d_90⟩, List.forall_mem_cons.mpr ⟨⟨_, rfl, ev_d_91⟩, List.forall_mem_cons.mpr ⟨⟨_, rfl, ev_d_92⟩, List.forall_mem_cons.mpr ⟨⟨_, rfl, ev_d_93⟩, List.forall_mem_cons.mpr ⟨⟨_, rfl, ev_d_94⟩, List.forall_mem_cons.mpr ⟨⟨_, rfl, ev_d_95⟩, fun _ h => absurd h List.not_mem_nil⟩⟩⟩⟩⟩⟩⟩⟩⟩⟩⟩⟩⟩⟩⟩⟩
set_option maxRecDepth 100000 in
theorem ev_dk_6 : ∀ q ∈ ev_cs_6, ev_dok q.1 q.2 := List.forall_mem_cons.mpr ⟨⟨_, rfl, ev_d_96⟩, List.forall_mem_cons.mpr ⟨⟨_, rfl, ev_d_97⟩, List.forall_mem_cons.mpr ⟨⟨_, rfl, ev_d_98⟩, List.forall_mem_cons.mpr ⟨⟨_, rfl, ev_d_99⟩, List.forall_mem_cons.mpr ⟨⟨_, rfl, ev_d_100⟩, List.forall_mem_cons.mpr ⟨⟨_, rfl, ev_d_101⟩, List.forall_mem_cons.mpr ⟨⟨_, rfl, ev_d_102⟩, List.forall_mem_cons.mpr ⟨⟨_, rfl, ev_d_103⟩, List.forall_mem_cons.mpr ⟨⟨_, rfl, ev_d_104⟩, List.forall_mem_cons.mpr ⟨⟨_, rfl, ev_d_105⟩, List.forall_mem_cons.mpr ⟨⟨_, rfl, ev_d_106⟩, List.forall_mem_cons.mpr ⟨⟨_, rfl, ev_d_107⟩, List.forall_mem_cons.mpr ⟨⟨_, rfl, ev_d_108⟩, List.forall_mem_cons.mpr ⟨⟨_, rfl, ev_d_109⟩, List.forall_mem_cons.mpr ⟨⟨_, rfl, ev_d_110⟩, List.forall_mem_cons.mpr ⟨⟨_, rfl, ev_d_111⟩, fun _ h => absurd h List.not_mem_nil⟩⟩⟩⟩⟩⟩⟩⟩⟩⟩⟩⟩⟩⟩⟩⟩
set_option maxRecDepth 100000 in
theorem ev_dk_7 : ∀ q ∈ ev_cs_7, ev_dok q.1 q.2 := List.forall_mem_cons.mpr ⟨⟨_, rfl, ev_d_112⟩, List.forall_mem_cons.mpr ⟨⟨_, rfl, ev_d_113⟩, List.forall_mem_cons.mpr ⟨⟨_, rfl, ev_d_114⟩, List.forall_mem_cons.mpr ⟨⟨_, rfl, ev_d_115⟩, List.forall_mem_cons.mpr ⟨⟨_, rfl, ev_d_116⟩, List.forall_mem_cons.mpr ⟨⟨_, rfl, ev_d_117⟩, List.forall_mem_cons.mpr ⟨⟨_, rfl, ev_d_118⟩, List.forall_mem_cons.mpr ⟨⟨_, rfl, ev_d_119⟩, List.forall_mem_cons.mpr ⟨⟨_, rfl, ev_d_120⟩, List.forall_mem_cons.mpr ⟨⟨_, rfl, ev_d_121⟩, List.forall_mem_cons.mpr ⟨⟨_, rfl, ev_d_122⟩, List.forall_mem_cons.mpr ⟨⟨_, rfl, ev_d_123⟩, List.forall_mem_cons.mpr ⟨⟨_, rfl, ev_d_124⟩, List.forall_mem_cons.mpr ⟨⟨_, rfl, ev_d_125⟩, List.forall_mem_cons.mpr ⟨⟨_, rfl, ev_d_126⟩, List.forall_mem_cons.mpr ⟨⟨_, rfl, ev_d_127⟩, fun _ h => absurd h List.not_mem_nil⟩⟩⟩⟩⟩⟩⟩⟩⟩⟩⟩⟩⟩⟩⟩⟩
set_option maxRecDepth 100000 in
theorem ev_dk_8 : ∀ q ∈ ev_cs_8, ev_dok q.1 q.2 := List.forall_mem_cons.mpr ⟨⟨_, rfl, ev_d_128⟩, List.forall_mem_cons.mpr ⟨⟨_, rfl, ev_d_129⟩, List.forall_mem_cons.mpr ⟨⟨_, rfl, ev_d_130⟩, List.forall_mem_cons.mpr ⟨⟨_, rfl, ev_d_131⟩, List.forall_mem_cons.mpr ⟨⟨_, rfl, ev_d_132⟩, List.forall_mem_cons.mpr ⟨⟨_, rfl, ev_d_133⟩, List.forall_mem_cons.mpr ⟨⟨_, rfl, ev_d_134⟩, List.forall_mem_cons.mpr ⟨⟨_, rfl, ev_d_135⟩, List.forall_mem_cons.mpr ⟨⟨_, rfl, ev_d_136⟩, List.forall_mem_cons.mpr ⟨⟨_, rfl, ev_d_137⟩, List.forall_mem_cons.mpr ⟨⟨_, rfl, ev_d_138⟩, List.forall_mem_cons.mpr ⟨⟨_, rfl, ev_d_139⟩, List.forall_mem_cons.mpr ⟨⟨_, rfl, ev_d_140⟩, List.forall_mem_cons.mpr ⟨⟨_, rfl, ev_d_141⟩, List.forall_mem_cons.mpr ⟨⟨_, rfl, ev_d_142⟩, List.forall_mem_cons.mpr ⟨⟨_, rfl, ev_d_143⟩, fun _ h => absurd h List.not_mem_nil⟩⟩⟩⟩⟩⟩⟩⟩⟩⟩⟩⟩⟩⟩⟩⟩
set_option maxRecDepth 100000 in
theorem ev_dk_9 : ∀ q ∈ ev_cs_9, ev_dok q.1 q.2 := List.forall_mem_cons.mpr ⟨⟨_, rfl, ev_d_144⟩, List.forall_mem_cons.mpr ⟨⟨_, rfl, ev_d_145⟩, List.forall_mem_cons.mpr ⟨⟨_, rfl, ev_d_146⟩, List.forall_mem_cons.mpr ⟨⟨_, rfl, ev_d_147⟩, List.forall_mem_cons.mpr ⟨⟨_, rfl, ev_d_148⟩, List.forall_mem_cons.mpr ⟨⟨_, rfl, ev_d_149⟩, List.forall_mem_cons.mpr ⟨⟨_, rfl, ev_d_150⟩, List.forall_mem_cons.mpr ⟨⟨_, rfl, ev_d_151⟩, List.forall_mem_cons.mpr ⟨⟨_, rfl, ev_d_152⟩, List.forall_mem_cons.mpr ⟨⟨_, rfl, ev_d_153⟩, List.forall_mem_cons.mpr ⟨⟨_, rfl, ev_d_154⟩, List.forall_mem_cons.mpr ⟨⟨_, rfl, ev_d_155⟩, List.forall_mem_cons.mpr ⟨⟨_, rfl, ev_d_156⟩, List.forall_mem_cons.mpr ⟨⟨_, rfl, ev_d_157⟩, List.forall_mem_cons.mpr ⟨⟨_, rfl, ev_d_158⟩, List.forall_mem_cons.mpr ⟨⟨_, rfl, ev_d_159⟩, fun _ h => absurd h List.not_mem_nil⟩⟩⟩⟩⟩⟩⟩⟩⟩⟩⟩⟩⟩⟩⟩⟩
set_option maxRecDepth 100000 in
theorem ev_dk_10 : ∀ q ∈ ev_cs_10, ev_dok q.1 q.2 := List.forall_mem_cons.mpr ⟨⟨_, rfl, ev_d_160⟩, List.forall_mem_cons.mpr ⟨⟨_, rfl, ev_d_161⟩, List.forall_mem_cons.mpr ⟨⟨_, rfl, ev_d_162⟩, List.forall_mem_cons.mpr ⟨⟨_, rfl, ev_d_163⟩, List.forall_mem_cons.mpr ⟨⟨_, rfl, ev_d_164⟩, List.forall_mem_cons.mpr ⟨⟨_, rfl, ev_d_165⟩, List.forall_mem_cons.mpr ⟨⟨_, rfl, ev_d_166⟩, List.forall_mem_cons.mpr ⟨⟨_, rfl, ev_d_167⟩, List.forall_mem_cons.mpr ⟨⟨_, rfl, ev_d_168⟩, List.forall_mem_cons.mpr ⟨⟨_, rfl, ev_d_169⟩, List.forall_mem_cons.mpr ⟨⟨_, rfl, ev_d_170⟩, List.forall_mem_cons.mpr ⟨⟨_, rfl, ev_d_171⟩, List.forall_mem_cons.mpr ⟨⟨_, rfl, ev_d_172⟩, List.forall_mem_cons.mpr ⟨⟨_, rfl, ev_d_173⟩, List.forall_mem_cons.mpr ⟨⟨_, rfl, ev_d_174⟩, List.forall_mem_cons.mpr ⟨⟨_, rfl, ev_d_175⟩, fun _ h => absurd h List.not_mem_nil⟩⟩⟩⟩⟩⟩⟩⟩⟩⟩⟩⟩⟩⟩⟩⟩
set_option maxRecDepth 100000 in
theorem ev_dk_11 : ∀ q ∈ ev_cs_11, ev_dok q.1 q.2 := List.forall_mem_cons.mpr ⟨⟨_, rfl, ev_d_176⟩, List.forall_mem_cons.mpr ⟨⟨_, rfl, ev_d_177⟩, List.forall_mem_cons.mpr ⟨⟨_, rfl, ev_d_178⟩, List.forall_mem_cons.mpr ⟨⟨_, rfl, ev_d_179⟩, List.forall_mem_cons.mpr ⟨⟨_, rfl, ev_d_180⟩, List.forall_mem_cons.mpr ⟨⟨_, rfl, ev_d_181⟩, List.forall_mem_cons.mpr ⟨⟨_, rfl, ev_d_182⟩, List.forall_mem_cons.mpr ⟨⟨_, rfl, ev_d_183⟩, List.forall_mem_cons.mpr ⟨⟨_, rfl, ev_d_184⟩, List.forall_mem_cons.mpr ⟨⟨_, rfl, ev_d_185⟩, List.forall_mem_cons.mpr ⟨⟨_, rfl, ev_d_186⟩, List.forall_mem_cons.mpr ⟨⟨_, rfl, ev_d_187⟩, List.forall_mem_cons.mpr ⟨⟨_, rfl, ev_d_188⟩, List.forall_mem_cons.mpr ⟨⟨_, rfl, ev_d_189⟩, List.forall_mem_cons.mpr ⟨⟨_, rfl, ev_d_190⟩, List.forall_mem_cons.mpr ⟨⟨_, rfl, ev_d_191⟩, fun _ h => absurd h List.not_mem_nil⟩⟩⟩⟩⟩⟩⟩⟩⟩⟩⟩⟩⟩⟩⟩⟩
set_option maxRecDepth 100000 in
theorem ev_dk_12 : ∀ q ∈ ev_cs_12, ev_dok q.1 q.2 := List.forall_mem_cons.mpr ⟨⟨_, rfl, ev_d_192⟩, List.forall_mem_cons.mpr ⟨⟨_, rfl, ev_d_193⟩, List.forall_mem_cons.mpr ⟨⟨_, rfl, ev_d_194⟩, List.forall_mem_cons.mpr ⟨⟨_, rfl, ev_d_195⟩, List.forall_mem_cons.mpr ⟨⟨_, rfl, ev_d_196⟩, List.forall_mem_cons.mpr ⟨⟨_, rfl, ev_d_197⟩, List.forall_mem_cons.mpr ⟨⟨_, rfl, ev_d_198⟩, List.forall_mem_cons.mpr ⟨⟨_, rfl, ev_d_199⟩, List.forall_mem_cons.mpr ⟨⟨_, rfl, ev_d_200⟩, List.forall_mem_cons.mpr ⟨⟨_, rfl, ev_d_201⟩, List.forall_mem_cons.mpr ⟨⟨_, rfl, ev_d_202⟩, List.forall_mem_cons.mpr ⟨⟨_, rfl, ev_d_203⟩, List.forall_mem_cons.mpr ⟨⟨_, rfl, ev_d_204⟩, List.forall_mem_cons.mpr ⟨⟨_, rfl, ev_d_205⟩, List.forall_mem_cons.mpr ⟨⟨_, rfl, ev_d_206⟩, List.forall_mem_cons.mpr ⟨⟨_, rfl, ev_d_207⟩, fun _ h => absurd h List.not_mem_nil⟩⟩⟩⟩⟩⟩⟩⟩⟩⟩⟩⟩⟩⟩⟩⟩
set_option maxRecDepth 100000 in
theorem ev_dk_13 : ∀ q ∈ ev_cs_13, ev_dok q.1 q.2 := List.forall_mem_cons.mpr ⟨⟨_, rfl, ev_d_208⟩, List.forall_mem_cons.mpr ⟨⟨_, rfl, ev_d_209⟩, List.forall_mem_cons.mpr ⟨⟨_, rfl, ev_d_210⟩, List.forall_mem_cons.mpr ⟨⟨_, rfl, ev_d_211⟩, List.forall_mem_cons.mpr ⟨⟨_, rfl, ev_d_212⟩, List.forall_mem_cons.mpr ⟨⟨_, rfl, ev_d_213⟩, List.forall_mem_cons.mpr ⟨⟨_, rfl, ev_d_214⟩, List.forall_mem_cons.mpr ⟨⟨_, rfl, ev_d_215⟩, fun _ h => absurd h List.not_mem_nil⟩⟩⟩⟩⟩⟩⟩⟩
set_option maxRecDepth 100000 in
theorem ev_dk : ∀ p ∈ ev_css, ∀ q ∈ p.2, ev_dok q.1 q.2 := List.forall_mem_cons.mpr ⟨ev_dk_0, List.forall_mem_cons.mpr ⟨ev_dk_1, List.forall_mem_cons.mpr ⟨ev_dk_2, List.forall_mem_cons.mpr ⟨ev_dk_3, List.forall_mem_cons.mpr ⟨ev_dk_4, List.forall_mem_cons.mpr ⟨ev_dk_5, List.forall_mem_cons.mpr ⟨ev_dk_6, List.forall_mem_cons.mpr ⟨ev_dk_7, List.forall_mem_cons.mpr ⟨ev_dk_8, List.forall_mem_cons.mpr ⟨ev_dk_9, List.forall_mem_cons.mpr ⟨ev_dk_10, List.forall_mem_cons.mpr ⟨ev_dk_11, List.forall_mem_cons.mpr ⟨ev_dk_12, List.forall_mem_cons.mpr ⟨ev_dk_13, fun _ h => absurd h List.not_mem_nil⟩⟩⟩⟩⟩⟩⟩⟩⟩⟩⟩⟩⟩⟩
set_option maxRecDepth 100000 in
theorem ev_cd_ok {i pc : Nat} {ins : Instr} {n : Nat} {e : ev_ME} (he : ev_mel i = some e) (h : ev_cd i pc = some (ins, n)) : decode (ev_by e) pc = .ok (ins, n) := by
  unfold ev_cd at h
  obtain ⟨l, h1, h2⟩ := ev_look2_mem h
  unfold ev_cx at h1
  cases hc : ev_look2 (i / 16) i ev_css with
  | none => rw [hc] at h1; cases h1
  | some l2 =>
    rw [hc] at h1
    have h1' : (pc / 32, l) ∈ l2 := h1
    obtain ⟨l3, h3, h4⟩ := ev_look2_mem hc
    obtain ⟨e2, h5, h6⟩ := ev_dk (i / 16, l3) h3 (i, l2) h4
    have h7 : some e = some e2 := he.symm.trans h5
    have h8 : e = e2 := Option.some.inj h7
    rw [h8]
    exact h6 (pc / 32, l) h1' (pc, ins, n) h2
end
section
/-! an evaluator of the bytecode over flat worlds -/
/-- a world: cells, cells counted, slots counted, whether cells may still be made, kinds, lengths, numbers, references, longs, doubles -/
abbrev ev_W : Type := Nat × Nat × Nat × Bool × (Nat → Nat) × (Nat → Nat) × (Nat → Nat → Int32) × (Nat → Nat → Option Nat) × (Nat → Nat → Int64) × (Nat → Nat → UInt64)
abbrev w_n (w : ev_W) : Nat := w.1
abbrev w_c (w : ev_W) : Nat := w.2.1
abbrev w_z (w : ev_W) : Nat := w.2.2.1
abbrev w_l (w : ev_W) : Bool := w.2.2.2.1
abbrev w_K (w : ev_W) : Nat → Nat := w.2.2.2.2.1
abbrev w_L (w : ev_W) : Nat → Nat := w.2.2.2.2.2.1
abbrev w_I (w : ev_W) : Nat → Nat → Int32 := w.2.2.2.2.2.2.1
abbrev w_R (w : ev_W) : Nat → Nat → Option Nat := w.2.2.2.2.2.2.2.1
abbrev w_J (w : ev_W) : Nat → Nat → Int64 := w.2.2.2.2.2.2.2.2.1
abbrev w_D (w : ev_W) : Nat → Nat → UInt64 := w.2.2.2.2.2.2.2.2.2
def ev_u1 {α : Type} (f : Nat → α) (a : Nat) (x : α) : Nat → α := fun b => if b = a then x else f b
def ev_u2 {α : Type} (f : Nat → Nat → α) (a i : Nat) (x : α) : Nat → Nat → α := fun b => if b = a then (fun j => if j = i then x else f b j) else f b
def w_sI (w : ev_W) (a i : Nat) (x : Int32) : ev_W := (w.1, w.2.1, w.2.2.1, w.2.2.2.1, w.2.2.2.2.1, w.2.2.2.2.2.1, ev_u2 w.2.2.2.2.2.2.1 a i x, w.2.2.2.2.2.2.2.1, w.2.2.2.2.2.2.2.2.1, w.2.2.2.2.2.2.2.2.2)
def w_sR (w : ev_W) (a i : Nat) (x : Option Nat) : ev_W := (w.1, w.2.1, w.2.2.1, w.2.2.2.1, w.2.2.2.2.1, w.2.2.2.2.2.1, w.2.2.2.2.2.2.1, ev_u2 w.2.2.2.2.2.2.2.1 a i x, w.2.2.2.2.2.2.2.2.1, w.2.2.2.2.2.2.2.2.2)
def w_sJ (w : ev_W) (a i : Nat) (x : Int64) : ev_W := (w.1, w.2.1, w.2.2.1, w.2.2.2.1, w.2.2.2.2.1, w.2.2.2.2.2.1, w.2.2.2.2.2.2.1, w.2.2.2.2.2.2.2.1, ev_u2 w.2.2.2.2.2.2.2.2.1 a i x, w.2.2.2.2.2.2.2.2.2)
def w_sD (w : ev_W) (a i : Nat) (x : UInt64) : ev_W := (w.1, w.2.1, w.2.2.1, w.2.2.2.1, w.2.2.2.2.1, w.2.2.2.2.2.1, w.2.2.2.2.2.2.1, w.2.2.2.2.2.2.2.1, w.2.2.2.2.2.2.2.2.1, ev_u2 w.2.2.2.2.2.2.2.2.2 a i x)
/-- a new cell of kind k, length len -/
def w_nw (w : ev_W) (k len : Nat) : ev_W := (w.1 + 1, w.2.1 + 1, w.2.2.1 + len, w.2.2.2.1, ev_u1 w.2.2.2.2.1 w.1 k, ev_u1 w.2.2.2.2.2.1 w.1 len, ev_u1 w.2.2.2.2.2.2.1 w.1 (fun _ => 0), ev_u1 w.2.2.2.2.2.2.2.1 w.1 (fun _ => none), ev_u1 w.2.2.2.2.2.2.2.2.1 w.1 (fun _ => 0), ev_u1 w.2.2.2.2.2.2.2.2.2 w.1 (fun _ => 0))
/-- an exception has been made -/
def w_th (w : ev_W) : ev_W := (w.1, w.2.1 + 1, w.2.2.1 + 6, false, w.2.2.2.2)
/-- copying n numbers -/
def w_cp (w : ev_W) (a : Nat) (f : Nat → Int32) : ev_W := (w.1, w.2.1, w.2.2.1, w.2.2.2.1, w.2.2.2.2.1, w.2.2.2.2.2.1, ev_u1 w.2.2.2.2.2.2.1 a f, w.2.2.2.2.2.2.2.1, w.2.2.2.2.2.2.2.2.1, w.2.2.2.2.2.2.2.2.2)
/-- the script's name; a text's name is ev_S + 1 + its place -/
def ev_S : Nat := 1000000
/-- a kind that is an object's -/
abbrev ev_isO (k : Nat) : Prop := k < 9 ∨ (16 ≤ k ∧ k < 20)
abbrev ev_L : Type := List (Option Value)
/-- an outcome (an answer, or an exception's number), and the world behind it -/
abbrev ev_R : Type := (Option Value ⊕ Nat) × ev_W
def ev_fty (ci k : Nat) : Nat := (ev_ft.getD ci []).getD k 9
def ev_jmp (pc : Nat) (off : Int) : Option Nat := match (pc : Int) + off with
  | .ofNat t => some t
  | .negSucc _ => none
def ev_t1 (c : ClassFile.Cond) (x : Int32) : Bool := match c with
  | .eq => decide (x = 0)
  | .ne => decide (¬ x = 0)
  | .lt => decide (x < 0)
  | .ge => decide (0 ≤ x)
  | .gt => decide (0 < x)
  | .le => decide (x ≤ 0)
def ev_t2 (c : ClassFile.Cond) (x y : Int32) : Bool := match c with
  | .eq => decide (x = y)
  | .ne => decide (¬ x = y)
  | .lt => decide (x < y)
  | .ge => decide (y ≤ x)
  | .gt => decide (y < x)
  | .le => decide (x ≤ y)
def ev_ok (i : Int32) (n : Nat) : Bool := decide (0 ≤ i) && decide (i.toNatClampNeg < n)
def ev_cat (st : List Value) : Nat := (st.map fun v => v.category).sum
/-- may a method of this type answer so -/
def ev_rok (r : Option FieldType) (v : Option Value) : Bool := match r, v with
  | none, none => true
  | some .int, some (.int _) => true
  | some .boolean, some (.int x) => decide (x = 0 ∨ x = 1)
  | some .char, some (.int x) => decide (0 ≤ x) && decide (x < 256)
  | some .byte, some (.int x) => decide (x = 0 ∨ x = 1)
  | some .long, some (.long _) => true
  | some (.array _), some (.ref _) => true
  | some (.object _), some (.ref _) => true
  | some (.object _), some .null => true
  | some .float, some (.float _) => true
  | some .double, some (.double _) => true
  | _, _ => false
/-- the first locals -/
def ev_in (n : Nat) (as : List Value) : ev_L := as.map some ++ List.replicate (n - as.length) none
def ev_sto (ls : ev_L) (i : Nat) (v : Value) : ev_L := ls.set i (some v)
/-- no long value ends at i -/
def ev_c1 (ls : ev_L) (i : Nat) : Bool := match i with
  | 0 => true
  | j + 1 => match ls[j]? with
    | some (some v) => v.category == 1
    | _ => true
def ev_akind (t : ArrayType) : Option Nat := match t with
  | .byte => some 9
  | .int => some 10
  | .boolean => some 11
  | .long => some 14
  | _ => none
/-- the row of the table that takes the exception -/
def ev_han (pc E : Nat) : List (Nat × Nat × Nat × Nat) → Option Nat
  | [] => none
  | h :: r => match ev_look h.2.2.2 ev_hct with
    | some E2 => bif decide (h.1 ≤ pc) && decide (pc < h.2.1) && Nat.beq E E2 then some h.2.2.1 else ev_han pc E r
    | none => none
/-- what a handler answers: it stores the exception, pushes a number, returns -/
def ev_hret (m q : Nat) (ls : ev_L) : Option Int32 := match ev_cd m q with
  | some (.astore_n a, 1) => bif decide ((a : Nat) < ls.length) && ev_c1 ls a then (match ev_cd m (q + 1), ev_cd m (q + 2) with
    | some (.iconst k, 1), some (.ireturn, 1) => some (Int32.ofInt k)
    | _, _ => none) else none
  | some (.astore a, 2) => bif decide (a < ls.length) && ev_c1 ls a then (match ev_cd m (q + 2), ev_cd m (q + 3) with
    | some (.iconst k, 1), some (.ireturn, 1) => some (Int32.ofInt k)
    | _, _ => none) else none
  | _ => none
section EV
variable (go : Nat → Nat → ev_L → List Value → ev_W → Option ev_R) (cal : Nat → List Value → ev_W → Option ev_R) (m : Nat) (e : ev_ME) (pc : Nat) (ls : ev_L) (w : ev_W)
def ev_br (t : Bool) (off : Int) (r : List Value) : Option ev_R := match ev_jmp pc off with
  | some q => bif t then go m q ls r w else go m (pc + 3) ls r w
  | none => none
def ev_ldv (k : Nat) (len : Nat) (st : List Value) (v : Value) : Option ev_R := match k, v with
  | 0, .int x => go m (pc + len) ls (.int x :: st) w
  | 1, .ref a => go m (pc + len) ls (.ref a :: st) w
  | 1, .null => go m (pc + len) ls (.null :: st) w
  | 2, .float x => go m (pc + len) ls (.float x :: st) w
  | 3, .double x => go m (pc + len) ls (.double x :: st) w
  | _, _ => none
def ev_ld (i len : Nat) (k : Nat) (st : List Value) : Option ev_R := match ls[i]? with
  | some (some v) => ev_ldv go m pc ls w k len st v
  | _ => none
def ev_st1 (i len : Nat) (v : Value) (r : List Value) : Option ev_R := bif decide (i < ls.length) && ev_c1 ls i then go m (pc + len) (ev_sto ls i v) r w else none
def ev_st2 (i len : Nat) (v : Value) (r : List Value) : Option ev_R := bif decide (i + 1 < ls.length) && ev_c1 ls i then go m (pc + len) ((ev_sto ls i v).set (i + 1) none) r w else none
/-- behind a call -/
def ev_aft (rt : Option FieldType) (rest : List Value) (y : Option ev_R) : Option ev_R := match y with
  | some (.inl v, w1) => bif ev_rok rt v then go m (pc + 3) ls (v.toList ++ rest) w1 else none
  | some (.inr E, w1) => (match ev_hh e with
    | [] => some (.inr E, w1)
    | h :: r => (match ev_han pc E (h :: r) with
      | some q => (match ev_hret m q ls with
        | some k => bif ev_rok (ev_rt e) (some (.int k)) then some (.inl (some (.int k)), w1) else none
        | none => none)
      | none => none))
  | none => none
/-- the room of a callee fits the caller's -/
def ev_rmk (e2 : ev_ME) : Bool := decide (ev_fr e2 + 1 ≤ ev_fr e) && decide (8 + (ev_ml e2 + 11) + ev_lo e2 ≤ ev_lo e)
def ev_virt (j : Nat) (e2 : ev_ME) (st : List Value) : Option ev_R := match st.drop (ev_na e2) with
  | .ref a :: rest => bif decide (a < w_n w) && (Nat.beq (w_K w a) (ev_own1 e2) && (decide (ev_cat rest ≤ 8) && ev_rmk e e2)) then ev_aft go m e pc ls (ev_rt e2) rest (cal j (.ref a :: (st.take (ev_na e2)).reverse) w) else none
  | _ => none
def ev_stat (j : Nat) (e2 : ev_ME) (st : List Value) : Option ev_R := bif decide (ev_na e2 ≤ st.length) && (decide (ev_cat (st.drop (ev_na e2)) ≤ 8) && ev_rmk e e2) then ev_aft go m e pc ls (ev_rt e2) (st.drop (ev_na e2)) (cal j (st.take (ev_na e2)).reverse w) else none
def ev_init (j : Nat) (e2 : ev_ME) (st : List Value) : Option ev_R := match st.drop (ev_na e2) with
  | .ref a :: rest => bif decide (a < w_n w) && (Nat.beq (w_K w a) (ev_own1 e2) && (decide (ev_cat rest ≤ 8) && ev_rmk e e2)) then ev_aft go m e pc ls none rest (cal j (.ref a :: (st.take (ev_na e2)).reverse) w) else none
  | _ => none
/-- room for a method of the JDK without calls -/
def ev_rmn : Bool := decide (1 ≤ ev_fr e) && decide (21 ≤ ev_lo e)
def ev_natc (k : Nat) (st : List Value) : Option ev_R := match k, st with
  | 100, .int y :: .int x :: r => bif decide (ev_cat r ≤ 8) && ev_rmn e then go m (pc + 3) ls (.int (if x < y then y else x) :: r) w else none
  | 101, .int y :: .int x :: r => bif decide (ev_cat r ≤ 8) && ev_rmn e then go m (pc + 3) ls (.int (if y < x then y else x) :: r) w else none
  | 102, .int x :: r => bif decide (ev_cat r ≤ 8) && ev_rmn e then go m (pc + 3) ls (.int (if 0 ≤ x then x else 0 - x) :: r) w else none
  | _, _ => none
def ev_inv (kd : Nat) (ix : Nat) (st : List Value) : Option ev_R := match ev_look2 (ev_own1 e) ix ev_tgt with
  | some j => (match ev_me j with
    | some e2 => (match kd, ev_kd e2 with
      | 1, 1 => ev_virt go cal m e pc ls w j e2 st
      | 0, 0 => ev_stat go cal m e pc ls w j e2 st
      | 2, 2 => ev_init go cal m e pc ls w j e2 st
      | _, _ => none)
    | none => none)
  | none => (match ev_look2 (ev_own1 e) ix ev_nat with
    | some k => (match kd with
      | 0 => ev_natc go m e pc ls w k st
      | 2 => (match k, st with
        | 103, .ref a :: r => bif decide (ev_cat r ≤ 8) && ev_rmn e then go m (pc + 3) ls r w else none
        | _, _ => none)
      | _ => none)
    | none => bif Nat.beq kd 2 && (Nat.beq (ev_own1 e) ev_nst.1 && Nat.beq ix ev_nst.2.1) then (match ev_me ev_nst.2.2 with
      | some e2 => ev_init go cal m e pc ls w ev_nst.2.2 e2 st
      | none => none) else none)
def ev_getf (ix : Nat) (st : List Value) : Option ev_R := match st with
  | .ref a :: r => (match ev_look2 (ev_own1 e) ix ev_flt with
    | some q => bif decide (a < w_n w) && Nat.beq (w_K w a) q.1 then (match ev_fty q.1 q.2 with
      | 2 => go m (pc + 3) ls (va_rf (w_R w a q.2) :: r) w
      | 0 => go m (pc + 3) ls (.int (w_I w a q.2) :: r) w
      | 1 => go m (pc + 3) ls (.int (w_I w a q.2) :: r) w
      | _ => none) else none
    | none => none)
  | _ => none
/-- a final field is written in its own class's constructor alone -/
def ev_pfok (q : Nat × Nat) : Bool := match vwCl[q.1]? with
  | some r => bif (r.2.1 q.2).2.2.2 then (Nat.beq (ev_kd e) 2 || Nat.beq (ev_kd e) 3) && Nat.beq (ev_own1 e) q.1 else true
  | none => false
def ev_putf (ix : Nat) (st : List Value) : Option ev_R := match st with
  | v :: .ref a :: r => (match ev_look2 (ev_own1 e) ix ev_flt with
    | some q => bif decide (a < w_n w) && (Nat.beq (w_K w a) q.1 && ev_pfok e q) then (match ev_fty q.1 q.2, v with
      | 2, .ref b => go m (pc + 3) ls r (w_sR w a q.2 (some b))
      | 2, .null => go m (pc + 3) ls r (w_sR w a q.2 none)
      | 0, .int x => go m (pc + 3) ls r (w_sI w a q.2 x)
      | 1, .int x => bif decide (x = 0 ∨ x = 1) then go m (pc + 3) ls r (w_sI w a q.2 x) else none
      | _, _ => none) else none
    | none => none)
  | _ => none
def ev_ald (k1 k2 : Nat) (st : List Value) : Option ev_R := match st with
  | .int i :: .ref a :: r => bif decide (a < w_n w) && ((Nat.beq (w_K w a) k1 || Nat.beq (w_K w a) k2) && ev_ok i (w_L w a)) then go m (pc + 1) ls (.int (w_I w a i.toNatClampNeg) :: r) w else none
  | _ => none
def ev_ildS (st : List Value) : Option ev_R := match st with
  | .int i :: .ref a :: r => bif Nat.beq a ev_S then (bif Nat.beq m ev_LAW && ev_ok i (w_L w ev_S) then go m (pc + 1) ls (.int (w_I w ev_S i.toNatClampNeg) :: r) w else none) else ev_ald go m pc ls w 10 10 st
  | _ => none
def ev_alen (st : List Value) : Option ev_R := match st with
  | .ref a :: r => bif Nat.beq a ev_S then (bif Nat.beq m ev_LAW then go m (pc + 1) ls (.int (Int32.ofNat (w_L w ev_S)) :: r) w else none)
    else (bif decide (a < w_n w) && decide (9 ≤ w_K w a) && decide (w_K w a < 16) then go m (pc + 1) ls (.int (Int32.ofNat (w_L w a)) :: r) w else none)
  | _ => none
def ev_new1 (ix : Nat) (st : List Value) : Option ev_R := match ev_look2 (ev_own1 e) ix ev_clt with
  | some ci => (match vwCl[ci]? with
    | some q => bif w_l w && decide (w_n w < 1000) then go m (pc + 3) ls (.ref (w_n w) :: st) (w_nw w ci q.2.2) else none
    | none => none)
  | none => none
def ev_newa (t : ArrayType) (st : List Value) : Option ev_R := match st, ev_akind t with
  | .int i :: r, some k => bif w_l w && decide (w_n w < 1000) && ev_ok i 100000 then go m (pc + 2) ls (.ref (w_n w) :: r) (w_nw w k i.toNatClampNeg) else none
  | _, _ => none
def ev_newq (ix : Nat) (st : List Value) : Option ev_R := match st, ev_look2 (ev_own1 e) ix ev_clt with
  | .int i :: r, some 0 => bif w_l w && decide (w_n w < 1000) && ev_ok i 100000 then go m (pc + 3) ls (.ref (w_n w) :: r) (w_nw w 12 i.toNatClampNeg) else none
  | .int i :: r, some 5 => bif w_l w && decide (w_n w < 1000) && ev_ok i 100000 then go m (pc + 3) ls (.ref (w_n w) :: r) (w_nw w 13 i.toNatClampNeg) else none
  | _, _ => none
/-- the place of a text -/
def ev_strp (own ix : Nat) : List (Nat × Nat × String) → Nat → Option Nat
  | [], _ => none
  | q :: r, k => bif Nat.beq q.1 own && Nat.beq q.2.1 ix then some k else ev_strp own ix r (k + 1)
def ev_ins (st : List Value) (len : Nat) : Instr → Option ev_R
  | .iconst n => go m (pc + 1) ls (.int (Int32.ofInt n) :: st) w
  | .bipush n => go m (pc + 2) ls (.int (Int8.ofInt n).toInt32 :: st) w
  | .sipush n => go m (pc + 3) ls (.int (Int16.ofInt n).toInt32 :: st) w
  | .ldc ix => (match ev_strp (ev_own1 e) ix ev_str 0 with
    | some k => go m (pc + 2) ls (.ref (ev_S + 1 + k) :: st) w
    | none => none)
  | .iload_n k => ev_ld go m pc ls w k 1 0 st
  | .iload i => ev_ld go m pc ls w i 2 0 st
  | .aload_n k => ev_ld go m pc ls w k 1 1 st
  | .aload i => ev_ld go m pc ls w i 2 1 st
  | .fload i => ev_ld go m pc ls w i 2 2 st
  | .dload i => ev_ld go m pc ls w i 2 3 st
  | .istore_n k => (match st with | .int x :: r => ev_st1 go m pc ls w k 1 (.int x) r | _ => none)
  | .istore i => (match st with | .int x :: r => ev_st1 go m pc ls w i 2 (.int x) r | _ => none)
  | .astore_n k => (match st with | .ref x :: r => ev_st1 go m pc ls w k 1 (.ref x) r | _ => none)
  | .astore i => (match st with | .ref x :: r => ev_st1 go m pc ls w i 2 (.ref x) r | _ => none)
  | .fstore i => (match st with | .float x :: r => ev_st1 go m pc ls w i 2 (.float x) r | _ => none)
  | .dstore i => (match st with | .double x :: r => ev_st2 go m pc ls w i 2 (.double x) r | _ => none)
  | .iinc i n => (match ls[i]? with
    | some (some (.int x)) => bif ev_c1 ls i then go m (pc + 3) (ev_sto ls i (.int (x + Int32.ofInt n))) st w else none
    | _ => none)
  | .iadd => (match st with | .int y :: .int x :: r => go m (pc + 1) ls (.int (x + y) :: r) w | _ => none)
  | .isub => (match st with | .int y :: .int x :: r => go m (pc + 1) ls (.int (x - y) :: r) w | _ => none)
  | .imul => (match st with | .int y :: .int x :: r => go m (pc + 1) ls (.int (x * y) :: r) w | _ => none)
  | .iand => (match st with | .int y :: .int x :: r => go m (pc + 1) ls (.int (x &&& y) :: r) w | _ => none)
  | .ior => (match st with | .int y :: .int x :: r => go m (pc + 1) ls (.int (x ||| y) :: r) w | _ => none)
  | .ixor => (match st with | .int y :: .int x :: r => go m (pc + 1) ls (.int (x ^^^ y) :: r) w | _ => none)
  | .ishl => (match st with | .int y :: .int x :: r => go m (pc + 1) ls (.int (x <<< (y &&& 31)) :: r) w | _ => none)
  | .ishr => (match st with | .int y :: .int x :: r => go m (pc + 1) ls (.int (x >>> (y &&& 31)) :: r) w | _ => none)
  | .idiv => (match st with | .int y :: .int x :: r => bif decide (y = 0) then none else go m (pc + 1) ls (.int (x / y) :: r) w | _ => none)
  | .irem => (match st with | .int y :: .int x :: r => bif decide (y = 0) then none else go m (pc + 1) ls (.int (x - x / y * y) :: r) w | _ => none)
  | .i2l => (match st with | .int x :: r => go m (pc + 1) ls (.long x.toInt64 :: r) w | _ => none)
  | .i2b => (match st with | .int x :: r => go m (pc + 1) ls (.int x.toInt8.toInt32 :: r) w | _ => none)
  | .i2f => (match st with | .int x :: r => go m (pc + 1) ls (.float (FP.i2f x) :: r) w | _ => none)
  | .i2d => (match st with | .int x :: r => go m (pc + 1) ls (.double (FP.i2d x) :: r) w | _ => none)
  | .lcmp => (match st with | .long y :: .long x :: r => go m (pc + 1) ls (.int (lg_cmp x y) :: r) w | _ => none)
  | .fconst n => bif decide (n = 0) then go m (pc + 1) ls (.float FP.fconst0 :: st) w else none
  | .dconst n => bif decide (n = 0) then go m (pc + 1) ls (.double FP.dconst0 :: st) w else none
  | .dup => (match st with | v :: r => bif Nat.beq v.category 1 then go m (pc + 1) ls (v :: v :: r) w else none | _ => none)
  | .pop => (match st with | v :: r => bif Nat.beq v.category 1 then go m (pc + 1) ls r w else none | _ => none)
  | .dup2 => (match st with | v :: u :: r => bif Nat.beq v.category 1 && Nat.beq u.category 1 then go m (pc + 1) ls (v :: u :: v :: u :: r) w else none | _ => none)
  | .ifCond c off => (match st with | .int x :: r => ev_br go m pc ls w (ev_t1 c x) off r | _ => none)
  | .if_icmp c off => (match st with | .int y :: .int x :: r => ev_br go m pc ls w (ev_t2 c x y) off r | _ => none)
  | .goto off => (match ev_jmp pc off with | some q => go m q ls st w | none => none)
  | .tableswitch d lo hi offs => (match st with
    | .int x :: r => bif decide (x.toInt < lo) || decide (hi < x.toInt) then (match ev_jmp pc d with | some q => go m q ls r w | none => none)
      else (match offs[(x.toInt - lo).toNat]? with
        | some off => (match ev_jmp pc off with | some q => go m q ls r w | none => none)
        | none => none)
    | _ => none)
  | .getfield ix => ev_getf go m e pc ls w ix st
  | .putfield ix => ev_putf go m e pc ls w ix st
  | .iaload => ev_ildS go m pc ls w st
  | .baload => ev_ald go m pc ls w 9 11 st
  | .laload => (match st with
    | .int i :: .ref a :: r => bif decide (a < w_n w) && (Nat.beq (w_K w a) 14 && ev_ok i (w_L w a)) then go m (pc + 1) ls (.long (w_J w a i.toNatClampNeg) :: r) w else none
    | _ => none)
  | .aaload => (match st with
    | .int i :: .ref a :: r => bif decide (a < w_n w) && ((Nat.beq (w_K w a) 12 || Nat.beq (w_K w a) 13) && ev_ok i (w_L w a)) then go m (pc + 1) ls (va_rf (w_R w a i.toNatClampNeg) :: r) w else none
    | _ => none)
  | .iastore => (match st with
    | .int x :: .int i :: .ref a :: r => bif decide (a < w_n w) && (Nat.beq (w_K w a) 10 && ev_ok i (w_L w a)) then go m (pc + 1) ls r (w_sI w a i.toNatClampNeg x) else none
    | _ => none)
  | .bastore => (match st with
    | .int x :: .int i :: .ref a :: r => bif decide (a < w_n w) && ev_ok i (w_L w a) then (match w_K w a with
      | 9 => go m (pc + 1) ls r (w_sI w a i.toNatClampNeg (vp_nar .byte x))
      | 11 => go m (pc + 1) ls r (w_sI w a i.toNatClampNeg (vp_nar .boolean x))
      | _ => none) else none
    | _ => none)
  | .lastore => (match st with
    | .long x :: .int i :: .ref a :: r => bif decide (a < w_n w) && (Nat.beq (w_K w a) 14 && ev_ok i (w_L w a)) then go m (pc + 1) ls r (w_sJ w a i.toNatClampNeg x) else none
    | _ => none)
  | .aastore => (match st with
    | .ref b :: .int i :: .ref a :: r => bif decide (a < w_n w) && (decide (b < w_n w) && ev_ok i (w_L w a)) then (match w_K w a, w_K w b with
      | 12, 0 => go m (pc + 1) ls r (w_sR w a i.toNatClampNeg (some b))
      | 13, 5 => go m (pc + 1) ls r (w_sR w a i.toNatClampNeg (some b))
      | _, _ => none) else none
    | _ => none)
  | .arraylength => ev_alen go m pc ls w st
  | .new ix => ev_new1 go m e pc ls w ix st
  | .newarray t => ev_newa go m pc ls w t st
  | .anewarray ix => ev_newq go m e pc ls w ix st
  | .invokevirtual ix => ev_inv go cal m e pc ls w 1 ix st
  | .invokestatic ix => ev_inv go cal m e pc ls w 0 ix st
  | .invokespecial ix => ev_inv go cal m e pc ls w 2 ix st
  | .ireturn => (match st with | [.int x] => bif ev_rok (ev_rt e) (some (.int x)) then some (.inl (some (.int x)), w) else none | _ => none)
  | .freturn => (match st with | [.float x] => bif ev_rok (ev_rt e) (some (.float x)) then some (.inl (some (.float x)), w) else none | _ => none)
  | .dreturn => (match st with | [.double x] => bif ev_rok (ev_rt e) (some (.double x)) then some (.inl (some (.double x)), w) else none | _ => none)
  | .areturn => (match st with
    | [.ref x] => bif ev_rok (ev_rt e) (some (.ref x)) then some (.inl (some (.ref x)), w) else none
    | _ => none)
  | .return_ => (match st with | [] => bif ev_rok (ev_rt e) none then some (.inl none, w) else none | _ => none)
  | _ => none
/-- the length that an instruction's row asks for -/
def ev_lok (n : Nat) : Instr → Bool
  | .bipush _ => Nat.beq n 2
  | .sipush _ => Nat.beq n 3
  | .ldc _ => Nat.beq n 2
  | .iload _ => Nat.beq n 2
  | .aload _ => Nat.beq n 2
  | .fload _ => Nat.beq n 2
  | .dload _ => Nat.beq n 2
  | .istore _ => Nat.beq n 2
  | .astore _ => Nat.beq n 2
  | .fstore _ => Nat.beq n 2
  | .dstore _ => Nat.beq n 2
  | .iinc _ _ => Nat.beq n 3
  | .ifCond _ _ => Nat.beq n 3
  | .if_icmp _ _ => Nat.beq n 3
  | .goto _ => Nat.beq n 3
  | .tableswitch _ _ _ _ => true
  | .getfield _ => Nat.beq n 3
  | .putfield _ => Nat.beq n 3
  | .new _ => Nat.beq n 3
  | .newarray _ => Nat.beq n 2
  | .anewarray _ => Nat.beq n 3
  | .invokevirtual _ => Nat.beq n 3
  | .invokestatic _ => Nat.beq n 3
  | .invokespecial _ => Nat.beq n 3
  | _ => Nat.beq n 1
def ev_body (st : List Value) : Option ev_R := match ev_look2 m pc ev_thr with
  | some q => (match st with | [] => some (.inr q.1, w_th w) | _ => none)
  | none => (match ev_mel m with
    | some e => (match ev_cd m pc with
      | some q => bif ev_lok q.2 q.1 then ev_ins go cal m e pc ls w st q.2 q.1 else none
      | none => none)
    | none => none)
end EV
/-- the evaluator: F steps, method m, place pc, locals, stack, world -/
def ev (F : Nat) : Nat → Nat → ev_L → List Value → ev_W → Option ev_R := Nat.rec (fun _ _ _ _ _ => none) (fun _ g m pc ls st w => ev_body g (fun j as w1 => match ev_me j with
  | some e2 => bif as.all (fun v => Nat.beq v.category 1) && decide (as.length ≤ ev_ml e2) then g j 0 (ev_in (ev_ml e2) as) [] w1 else none
  | none => none) m pc ls w st) F
/-- a call, evaluated in F steps -/
def ev_call (F : Nat) (j : Nat) (as : List Value) (w : ev_W) : Option ev_R := match ev_me j with
  | some e2 => bif as.all (fun v => Nat.beq v.category 1) && decide (as.length ≤ ev_ml e2) then ev F j 0 (ev_in (ev_ml e2) as) [] w else none
  | none => none
theorem ev_0 (m pc : Nat) (ls : ev_L) (st : List Value) (w : ev_W) : ev 0 m pc ls st w = none := rfl
theorem ev_s (F m pc : Nat) (ls : ev_L) (st : List Value) (w : ev_W) : ev (F + 1) m pc ls st w = ev_body (ev F) (ev_call F) m pc ls w st := rfl
end
section
/-! what the evaluator says of the machine: worlds and contexts -/
def ev_all : List Cond := lw_tbl.filter goodWord
theorem ev_all_of {ws : List Cond} (h : GoodIn lw_tbl ws) (h2 : ws.all goodWord = true) : ∀ w ∈ ws, w ∈ ev_all := fun w hw => List.mem_filter.mpr ⟨(h w hw).1, List.all_eq_true.mp h2 w hw⟩
theorem goodWord_of {w : Cond} (h : (w.onTables && w.keeps) = true ∨ ∃ ty, w = .arrayClass ty) : goodWord w = true := by
  rcases h with h | ⟨ty, rfl⟩
  · cases w <;> first | rfl | exact h
  · rfl
theorem ev_all_in {ws : List Cond} (h : GoodIn lw_tbl ws) {w : Cond} (hw : w ∈ ws) : w ∈ ev_all := List.mem_filter.mpr ⟨(h w hw).1, goodWord_of (h w hw).2⟩
theorem ev_all_good {w : Cond} (h : w ∈ ev_all) : (w.onTables && w.keeps) = true ∨ ∃ ty, w = .arrayClass ty := good_of_word (List.mem_filter.mp h).2
theorem ev_good {ws : List Cond} (h : ∀ w ∈ ws, w ∈ ev_all) : GoodIn ev_all ws := fun w hw => ⟨h w hw, ev_all_good (h w hw)⟩
/-- a class of the worlds: its rows -/
def ev_clok (r : vw_C) : Prop := ∃ ty : Nat → FieldType, (∀ k, k < r.2.2 → parseFieldDescriptor (r.2.1 k).2.2.1 = some (ty k)) ∧ (∀ a, a < r.2.2 → ∀ b, b < r.2.2 → a ≠ b → (r.2.1 a).2.1 ≠ (r.2.1 b).2.1) ∧ (∀ w ∈ u_ws r.1 r.2.1 r.2.2, w ∈ ev_all)
def ev_ftk (t : Nat) (ty : FieldType) : Bool := match t, ty with
  | 0, .int => true
  | 1, .boolean => true
  | 2, .object _ => true
  | 2, .array _ => true
  | 3, .byte => true
  | _, _ => false
/-- a class's fields: their kinds are those of the table, their types' -/
def ev_clft (ci : Nat) (r : vw_C) : Prop := ∃ ty : Nat → FieldType, (∀ k, k < r.2.2 → parseFieldDescriptor (r.2.1 k).2.2.1 = some (ty k)) ∧ (∀ a, a < r.2.2 → ∀ b, b < r.2.2 → a ≠ b → (r.2.1 a).2.1 ≠ (r.2.1 b).2.1) ∧ (∀ w ∈ u_ws r.1 r.2.1 r.2.2, w ∈ ev_all) ∧ (ev_ft.getD ci []).length = r.2.2 ∧ (∀ k, k < r.2.2 → ev_ftk (ev_fty ci k) (ty k) = true) ∧ ∀ k, k < r.2.2 → (r.2.1 k).2.2.2 = true → (r.2.1 k).1 = r.1
set_option maxRecDepth 100000 in
theorem ev_cls (ci : Nat) (r : vw_C) (h : vwCl[ci]? = some r) : ev_clft ci r := by
  have hl : ci < 20 := (List.getElem?_eq_some_iff.mp h).1
  match ci, hl with
  | 0, _ => cases h; exact ⟨tyX0, tyX0_ok, nmX0, fun w hw => ev_all_in ev_layX0 hw, rfl, by decide +kernel, by decide +kernel⟩
  | 1, _ => cases h; exact ⟨tyX1, tyX1_ok, nmX1, fun w hw => ev_all_in ev_layX1 hw, rfl, by decide +kernel, by decide +kernel⟩
  | 2, _ => cases h; exact ⟨tyX2, tyX2_ok, nmX2, fun w hw => ev_all_in ev_layX2 hw, rfl, by decide +kernel, by decide +kernel⟩
  | 3, _ => cases h; exact ⟨tyX3, tyX3_ok, nmX3, fun w hw => ev_all_in ev_layX3 hw, rfl, by decide +kernel, by decide +kernel⟩
  | 4, _ => cases h; exact ⟨tyX4, tyX4_ok, nmX4, fun w hw => ev_all_in ev_layX4 hw, rfl, by decide +kernel, by decide +kernel⟩
  | 5, _ => cases h; exact ⟨tyX5, tyX5_ok, nmX5, fun w hw => ev_all_in ev_layX5 hw, rfl, by decide +kernel, by decide +kernel⟩
  | 6, _ => cases h; exact ⟨tyX6, tyX6_ok, nmX6, fun w hw => ev_all_in ev_layX6 hw, rfl, by decide +kernel, by decide +kernel⟩
  | 7, _ => cases h; exact ⟨tyX7, tyX7_ok, nmX7, fun w hw => ev_all_in ev_layX7 hw, rfl, by decide +kernel, by decide +kernel⟩
  | 8, _ => cases h; exact ⟨tyX8, tyX8_ok, nmX8, fun w hw => ev_all_in ev_layX8 hw, rfl, by decide +kernel, by decide +kernel⟩
  | 9, _ => cases h; exact ⟨tyX0, tyX0_ok, nmX0, fun w hw => ev_all_in ev_layX0 hw, rfl, by decide +kernel, by decide +kernel⟩
  | 10, _ => cases h; exact ⟨tyX0, tyX0_ok, nmX0, fun w hw => ev_all_in ev_layX0 hw, rfl, by decide +kernel, by decide +kernel⟩
  | 11, _ => cases h; exact ⟨tyX0, tyX0_ok, nmX0, fun w hw => ev_all_in ev_layX0 hw, rfl, by decide +kernel, by decide +kernel⟩
  | 12, _ => cases h; exact ⟨tyX0, tyX0_ok, nmX0, fun w hw => ev_all_in ev_layX0 hw, rfl, by decide +kernel, by decide +kernel⟩
  | 13, _ => cases h; exact ⟨tyX0, tyX0_ok, nmX0, fun w hw => ev_all_in ev_layX0 hw, rfl, by decide +kernel, by decide +kernel⟩
  | 14, _ => cases h; exact ⟨tyX0, tyX0_ok, nmX0, fun w hw => ev_all_in ev_layX0 hw, rfl, by decide +kernel, by decide +kernel⟩
  | 15, _ => cases h; exact ⟨tyX0, tyX0_ok, nmX0, fun w hw => ev_all_in ev_layX0 hw, rfl, by decide +kernel, by decide +kernel⟩
  | 16, _ => cases h; exact ⟨tyX9, tyX9_ok, nmX9, fun w hw => ev_all_in ev_layX9 hw, rfl, by decide +kernel, by decide +kernel⟩
  | 17, _ => cases h; exact ⟨tyJx4a65c, tyJx4a65c_ok, nmJx4a65c, fun w hw => ev_all_in ev_layJx4a65c hw, rfl, by decide +kernel, by decide +kernel⟩
  | 18, _ => cases h; exact ⟨tyJ4, tyJ4_ok, nmJ4, fun w hw => ev_all_in ev_layJ4 hw, rfl, by decide +kernel, by decide +kernel⟩
  | 19, _ => cases h; exact ⟨tyJ0, tyJ0_ok, nmJ0, fun w hw => ev_all_in ev_layJ0 hw, rfl, by decide +kernel, by decide +kernel⟩
/-- a method's rows -/
def ev_meok (e : ev_ME) : Prop := (∀ w ∈ ev_mw e, w ∈ ev_all) ∧ ev_own.getD (ev_own1 e) "" = (ev_y e).cls ∧ plainName (ev_y e).cls = true ∧ ((ev_y e).cls ≠ "java/lang/invoke/MethodHandle" ∧ (ev_y e).cls ≠ "java/lang/invoke/VarHandle") ∧ (parseMethodDescriptor (ev_y e).desc).map (fun d => d.parameters.length) = some (ev_na e) ∧ (ev_kd e = 2 ∨ ev_kd e = 3 → (ev_y e).name = "<init>" ∧ ev_hh e = [] ∧ ev_rt e = none) ∧ (ev_kd e = 1 → ev_hh e = [] ∧ ev_isO (ev_own1 e) ∧ ∃ r, vwCl[ev_own1 e]? = some r ∧ r.1 = (ev_y e).cls) ∧ (ev_hh e ≠ [] → (ev_y e).cls = "FlagLaundryLaw")
def ev_meb (e : ev_ME) : Bool := decide (ev_own.getD (ev_own1 e) "" = (ev_y e).cls) && plainName (ev_y e).cls && decide ((ev_y e).cls ≠ "java/lang/invoke/MethodHandle") && decide ((ev_y e).cls ≠ "java/lang/invoke/VarHandle") && decide ((parseMethodDescriptor (ev_y e).desc).map (fun d => d.parameters.length) = some (ev_na e)) && (bif Nat.beq (ev_kd e) 2 || Nat.beq (ev_kd e) 3 then decide ((ev_y e).name = "<init>") && (ev_hh e).isEmpty && (ev_rt e).isNone else true) && (bif Nat.beq (ev_kd e) 1 then (ev_hh e).isEmpty && decide (ev_isO (ev_own1 e)) && (match vwCl[ev_own1 e]? with | some r => decide (r.1 = (ev_y e).cls) | none => false) else true) && ((ev_hh e).isEmpty || decide ((ev_y e).cls = "FlagLaundryLaw"))
theorem ev_meok_of {e : ev_ME} (h : ev_meb e = true) (hw : ∀ w ∈ ev_mw e, w ∈ ev_all) : ev_meok e := by
  simp only [ev_meb, Bool.and_eq_true, decide_eq_true_eq] at h
  obtain ⟨⟨⟨⟨⟨⟨⟨h1, h2⟩, h3⟩, h4⟩, h5⟩, h6⟩, h7⟩, h10⟩ := h
  refine ⟨hw, h1, h2, ⟨h3, h4⟩, h5, fun hk => ?_, fun hk => ?_, fun hk => ?_⟩
  · have hb : (Nat.beq (ev_kd e) 2 || Nat.beq (ev_kd e) 3) = true := by
      rcases hk with hk | hk <;> rw [hk] <;> rfl
    rw [hb] at h6
    simp only [cond_true, Bool.and_eq_true, decide_eq_true_eq, List.isEmpty_iff, Option.isNone_iff_eq_none] at h6
    exact ⟨h6.1.1, h6.1.2, h6.2⟩
  · rw [hk] at h7
    simp only [show Nat.beq 1 1 = true from rfl, cond_true, Bool.and_eq_true, List.isEmpty_iff, decide_eq_true_eq] at h7
    refine ⟨h7.1.1, h7.1.2, ?_⟩
    have h8 := h7.2
    cases hr : vwCl[ev_own1 e]? with
    | none => rw [hr] at h8; cases h8
    | some r => rw [hr] at h8; exact ⟨r, rfl, of_decide_eq_true h8⟩
  · simp only [Bool.or_eq_true, List.isEmpty_iff, decide_eq_true_eq] at h10
    rcases h10 with h10 | h10
    · exact absurd h10 hk
    · exact h10
end
section
set_option maxRecDepth 100000 in
theorem ev_mb_0 : ev_ms_0.all ev_meb = true := by decide +kernel
theorem ev_mo_0 : ∀ e ∈ ev_ms_0, ev_meok e := fun e he => ev_meok_of (List.all_eq_true.mp ev_mb_0 e he) (fun w hw => ev_all_in ev_msw_0 (List.mem_flatMap.mpr ⟨e, he, hw⟩))
set_option maxRecDepth 100000 in
theorem ev_mb_1 : ev_ms_1.all ev_meb = true := by decide +kernel
theorem ev_mo_1 : ∀ e ∈ ev_ms_1, ev_meok e := fun e he => ev_meok_of (List.all_eq_true.mp ev_mb_1 e he) (fun w hw => ev_all_in ev_msw_1 (List.mem_flatMap.mpr ⟨e, he, hw⟩))
set_option maxRecDepth 100000 in
theorem ev_mb_2 : ev_ms_2.all ev_meb = true := by decide +kernel
theorem ev_mo_2 : ∀ e ∈ ev_ms_2, ev_meok e := fun e he => ev_meok_of (List.all_eq_true.mp ev_mb_2 e he) (fun w hw => ev_all_in ev_msw_2 (List.mem_flatMap.mpr ⟨e, he, hw⟩))
set_option maxRecDepth 100000 in
theorem ev_mb_3 : ev_ms_3.all ev_meb = true := by decide +kernel
theorem ev_mo_3 : ∀ e ∈ ev_ms_3, ev_meok e := fun e he => ev_meok_of (List.all_eq_true.mp ev_mb_3 e he) (fun w hw => ev_all_in ev_msw_3 (List.mem_flatMap.mpr ⟨e, he, hw⟩))
set_option maxRecDepth 100000 in
theorem ev_mb_4 : ev_ms_4.all ev_meb = true := by decide +kernel
theorem ev_mo_4 : ∀ e ∈ ev_ms_4, ev_meok e := fun e he => ev_meok_of (List.all_eq_true.mp ev_mb_4 e he) (fun w hw => ev_all_in ev_msw_4 (List.mem_flatMap.mpr ⟨e, he, hw⟩))
set_option maxRecDepth 100000 in
theorem ev_mb_5 : ev_ms_5.all ev_meb = true := by decide +kernel
theorem ev_mo_5 : ∀ e ∈ ev_ms_5, ev_meok e := fun e he => ev_meok_of (List.all_eq_true.mp ev_mb_5 e he) (fun w hw => ev_all_in ev_msw_5 (List.mem_flatMap.mpr ⟨e, he, hw⟩))
set_option maxRecDepth 100000 in
theorem ev_mb_6 : ev_ms_6.all ev_meb = true := by decide +kernel
theorem ev_mo_6 : ∀ e ∈ ev_ms_6, ev_meok e := fun e he => ev_meok_of (List.all_eq_true.mp ev_mb_6 e he) (fun w hw => ev_all_in ev_msw_6 (List.mem_flatMap.mpr ⟨e, he, hw⟩))
set_option maxRecDepth 100000 in
theorem ev_mb_7 : ev_ms_7.all ev_meb = true := by decide +kernel
theorem ev_mo_7 : ∀ e ∈ ev_ms_7, ev_meok e := fun e he => ev_meok_of (List.all_eq_true.mp ev_mb_7 e he) (fun w hw => ev_all_in ev_msw_7 (List.mem_flatMap.mpr ⟨e, he, hw⟩))
set_option maxRecDepth 100000 in
theorem ev_mb_8 : ev_ms_8.all ev_meb = true := by decide +kernel
theorem ev_mo_8 : ∀ e ∈ ev_ms_8, ev_meok e := fun e he => ev_meok_of (List.all_eq_true.mp ev_mb_8 e he) (fun w hw => ev_all_in ev_msw_8 (List.mem_flatMap.mpr ⟨e, he, hw⟩))
set_option maxRecDepth 100000 in
theorem ev_mb_9 : ev_ms_9.all ev_meb = true := by decide +kernel
theorem ev_mo_9 : ∀ e ∈ ev_ms_9, ev_meok e := fun e he => ev_meok_of (List.all_eq_true.mp ev_mb_9 e he) (fun w hw => ev_all_in ev_msw_9 (List.mem_flatMap.mpr ⟨e, he, hw⟩))
set_option maxRecDepth 100000 in
theorem ev_mb_10 : ev_ms_10.all ev_meb = true := by decide +kernel
theorem ev_mo_10 : ∀ e ∈ ev_ms_10, ev_meok e := fun e he => ev_meok_of (List.all_eq_true.mp ev_mb_10 e he) (fun w hw => ev_all_in ev_msw_10 (List.mem_flatMap.mpr ⟨e, he, hw⟩))
set_option maxRecDepth 100000 in
theorem ev_mb_11 : ev_ms_11.all ev_meb = true := by decide +kernel
theorem ev_mo_11 : ∀ e ∈ ev_ms_11, ev_meok e := fun e he => ev_meok_of (List.all_eq_true.mp ev_mb_11 e he) (fun w hw => ev_all_in ev_msw_11 (List.mem_flatMap.mpr ⟨e, he, hw⟩))
set_option maxRecDepth 100000 in
theorem ev_mb_12 : ev_ms_12.all ev_meb = true := by decide +kernel
theorem ev_mo_12 : ∀ e ∈ ev_ms_12, ev_meok e := fun e he => ev_meok_of (List.all_eq_true.mp ev_mb_12 e he) (fun w hw => ev_all_in ev_msw_12 (List.mem_flatMap.mpr ⟨e, he, hw⟩))
set_option maxRecDepth 100000 in
theorem ev_mb_13 : ev_ms_13.all ev_meb = true := by decide +kernel
theorem ev_mo_13 : ∀ e ∈ ev_ms_13, ev_meok e := fun e he => ev_meok_of (List.all_eq_true.mp ev_mb_13 e he) (fun w hw => ev_all_in ev_msw_13 (List.mem_flatMap.mpr ⟨e, he, hw⟩))
theorem ev_mo : ∀ p ∈ ev_mss, ∀ e ∈ p.2, ev_meok e := List.forall_mem_cons.mpr ⟨ev_mo_0, List.forall_mem_cons.mpr ⟨ev_mo_1, List.forall_mem_cons.mpr ⟨ev_mo_2, List.forall_mem_cons.mpr ⟨ev_mo_3, List.forall_mem_cons.mpr ⟨ev_mo_4, List.forall_mem_cons.mpr ⟨ev_mo_5, List.forall_mem_cons.mpr ⟨ev_mo_6, List.forall_mem_cons.mpr ⟨ev_mo_7, List.forall_mem_cons.mpr ⟨ev_mo_8, List.forall_mem_cons.mpr ⟨ev_mo_9, List.forall_mem_cons.mpr ⟨ev_mo_10, List.forall_mem_cons.mpr ⟨ev_mo_11, List.forall_mem_cons.mpr ⟨ev_mo_12, List.forall_mem_cons.mpr ⟨ev_mo_13, fun _ h => absurd h List.not_mem_nil⟩⟩⟩⟩⟩⟩⟩⟩⟩⟩⟩⟩⟩⟩
theorem ev_me_ok {j : Nat} {e : ev_ME} (h : ev_me j = some e) : ev_meok e := by
  unfold ev_me at h
  cases hl : ev_look (j / 16) ev_mss with
  | none => rw [hl] at h; cases h
  | some l => rw [hl] at h; exact ev_mo _ (ev_look_mem hl) e (List.mem_of_getElem? h)
theorem ev_me_law (j : Nat) {e : ev_ME} (h : ev_me j = some e) : Nat.beq j ev_LAW = false := by
  cases hb : Nat.beq j ev_LAW with
  | false => rfl
  | true =>
    have e1 := Nat.eq_of_beq_eq_true hb
    subst e1
    have h9 : (ev_me ev_LAW).isSome = false := by decide +kernel
    rw [h] at h9
    cases h9
end
section
/-! worlds in the heap -/
def ev_ρ (base : Nat) (ext : Nat → Nat) : Nat → Nat := fun k => if k < ev_S then base + k else ext k
def ev_v (base : Nat) (ext : Nat → Nat) : Value → Value
  | .ref k => .ref (ev_ρ base ext k)
  | .int x => .int x
  | .long x => .long x
  | .float x => .float x
  | .double x => .double x
  | .null => .null
  | .retAddr k => .retAddr k
theorem ev_v_cat (base : Nat) (ext : Nat → Nat) (v : Value) : (ev_v base ext v).category = v.category := by cases v <;> rfl
theorem ev_v_rf (base : Nat) (ext : Nat → Nat) (r : Option Nat) : ev_v base ext (va_rf r) = va_rf (r.map (ev_ρ base ext)) := by cases r <;> rfl
theorem ev_v_cats (base : Nat) (ext : Nat → Nat) (st : List Value) : ((st.map (ev_v base ext)).map fun v => v.category) = st.map fun v => v.category := by
  rw [List.map_map]
  exact List.map_congr_left fun v _ => ev_v_cat base ext v
/-- what a field holds -/
def ev_fv (base : Nat) (ext : Nat → Nat) (w : ev_W) (a : Nat) (q : Nat × Nat) : Value := if q.1 = 2 then va_rf ((w_R w a q.2).map (ev_ρ base ext)) else .int (w_I w a q.2)
def ev_fs (base : Nat) (ext : Nat → Nat) (w : ev_W) (a ci : Nat) : List Value := (ev_ft.getD ci []).zipIdx.map (ev_fv base ext w a)
/-- a cell, by its kind -/
def ev_ent (cy : Nat → ClassId) (base : Nat) (ext : Nat → Nat) (w : ev_W) (a : Nat) : va_E :=
  if ev_isO (w_K w a) then .inr (w_K w a, ev_fs base ext w a (w_K w a))
  else .inl (cy (w_K w a), w_L w a, if w_K w a = 12 ∨ w_K w a = 13 ∨ w_K w a = 15 ∨ w_K w a = 20 then .inr (.inr (.inr (.inr (fun j => (w_R w a j).map (ev_ρ base ext))))) else if w_K w a = 14 then .inr (.inl (w_J w a)) else .inl (w_I w a))
def ev_ws (cy : Nat → ClassId) (base : Nat) (ext : Nat → Nat) (w : ev_W) : va_W := (List.range (w_n w)).map (fun a => (base + a, ev_ent cy base ext w a))
def ev_tys (cy : Nat → ClassId) : List (ClassId × FieldType) := [(cy 9, .byte), (cy 10, .int), (cy 11, .boolean), (cy 12, .object RX0), (cy 13, .object RX5), (cy 14, .long), (cy 15, .object "java/lang/Object"), (cy 20, .array .int)]
def ev_A (base : Nat) : Nat → Prop := fun q => base ≤ q
/-- the heap holds the world -/
def ev_M (D : va_G) (cy : Nat → ClassId) (base : Nat) (ext : Nat → Nat) (SL : Nat) (SX : Nat → Int32) (w : ev_W) (H : Heap) : Prop :=
  va_P D vwCl (ev_ws cy base ext w) H ∧ w_n w ≤ 1000 ∧ base + w_n w ≤ H.size ∧ (w_l w = true → H.size = base + w_n w) ∧ w_L w ev_S = SL ∧ w_I w ev_S = SX
theorem ev_ws_at {cy : Nat → ClassId} {base : Nat} {ext : Nat → Nat} {w : ev_W} {a : Nat} (h : a < w_n w) : (ev_ws cy base ext w)[a]? = some (base + a, ev_ent cy base ext w a) := by
  unfold ev_ws
  rw [List.getElem?_map, List.getElem?_range h]
  rfl
theorem ev_ws_of {cy : Nat → ClassId} {base : Nat} {ext : Nat → Nat} {w : ev_W} {k : Nat} {q : Nat × va_E} (h : (ev_ws cy base ext w)[k]? = some q) : k < w_n w ∧ q = (base + k, ev_ent cy base ext w k) := by
  have hl : k < (ev_ws cy base ext w).length := (List.getElem?_eq_some_iff.mp h).1
  have hl2 : k < w_n w := by
    unfold ev_ws at hl
    rw [List.length_map, List.length_range] at hl
    exact hl
  rw [ev_ws_at hl2] at h
  exact ⟨hl2, (Option.some.inj h).symm⟩
theorem ev_dis (cy : Nat → ClassId) (base : Nat) (ext : Nat → Nat) (w : ev_W) : va_D (ev_A base) (ev_ws cy base ext w) := by
  refine ⟨fun i j p q hi hj h => ?_, fun k q h => ?_⟩
  · obtain ⟨-, rfl⟩ := ev_ws_of hi
    obtain ⟨-, rfl⟩ := ev_ws_of hj
    have h1 : base + i = base + j := h
    omega
  · obtain ⟨-, rfl⟩ := ev_ws_of h
    exact Nat.le_add_right _ _
/-- two worlds that differ in one cell -/
theorem ev_ws_set {cy : Nat → ClassId} {base : Nat} {ext : Nat → Nat} {w w1 : ev_W} {a : Nat} (hn : w_n w1 = w_n w) (h : ∀ b, b ≠ a → ev_ent cy base ext w1 b = ev_ent cy base ext w b) : (ev_ws cy base ext w).set a (base + a, ev_ent cy base ext w1 a) = ev_ws cy base ext w1 := by
  apply List.ext_getElem?
  intro k
  rw [List.getElem?_set]
  by_cases hk : k < w_n w
  · have hk1 : k < w_n w1 := by rw [hn]; exact hk
    have hlen : (ev_ws cy base ext w).length = w_n w := by unfold ev_ws; rw [List.length_map, List.length_range]
    rw [ev_ws_at hk1, ev_ws_at hk]
    by_cases e : a = k
    · subst e
      rw [if_pos rfl, if_pos (by rw [hlen]; exact hk)]
    · rw [if_neg e, h k (fun q => e q.symm)]
  · have e1 : (ev_ws cy base ext w1)[k]? = none := List.getElem?_eq_none (by unfold ev_ws; rw [List.length_map, List.length_range, hn]; omega)
    have e2 : (ev_ws cy base ext w)[k]? = none := List.getElem?_eq_none (by unfold ev_ws; rw [List.length_map, List.length_range]; omega)
    have hlen : (ev_ws cy base ext w).length = w_n w := by unfold ev_ws; rw [List.length_map, List.length_range]
    rw [e1, e2]
    by_cases e : a = k
    · subst e
      rw [if_pos rfl, if_neg (by rw [hlen]; exact hk)]
    · rw [if_neg e]
theorem ev_M_ws {D : va_G} {cy : Nat → ClassId} {base : Nat} {ext : Nat → Nat} {SL : Nat} {SX : Nat → Int32} {w w1 : ev_W} {H H1 : Heap} {a : Nat} {en : va_E} (h : ev_M D cy base ext SL SX w H) (ha : a < w_n w)
    (hn : w_n w1 = w_n w) (hl : w_l w1 = w_l w) (hL : w_L w1 = w_L w) (hI : w_I w1 ev_S = w_I w ev_S) (he : ∀ b, b ≠ a → ev_ent cy base ext w1 b = ev_ent cy base ext w b) (hen : en = ev_ent cy base ext w1 a)
    (hP : va_P D vwCl ((ev_ws cy base ext w).set a (base + a, en)) H1) (hz : H1.size = H.size) : ev_M D cy base ext SL SX w1 H1 := by
  obtain ⟨h1, h2, h3, h4, h5, h6⟩ := h
  subst hen
  rw [ev_ws_set hn he] at hP
  exact ⟨hP, by rw [hn]; exact h2, by rw [hn, hz]; exact h3, fun q => by rw [hz, hn]; exact h4 (by rw [← hl]; exact q), by rw [hL]; exact h5, by rw [hI]; exact h6⟩
/-- a write outside the worlds' cells, or a larger heap -/
theorem ev_M_kept {D : va_G} {cy : Nat → ClassId} {base : Nat} {ext : Nat → Nat} {SL : Nat} {SX : Nat → Int32} {w w1 : ev_W} {H H1 : Heap} (h : ev_M D cy base ext SL SX w H) (hw : w1.2.2.2.2 = w.2.2.2.2) (hn : w_n w1 = w_n w) (hl : w_l w1 = false) (hz : H.size ≤ H1.size) (hk : ∀ q, q < H.size → H1[q]? = H[q]?) : ev_M D cy base ext SL SX w1 H1 := by
  obtain ⟨h1, h2, h3, h4, h5, h6⟩ := h
  have e : ev_ws cy base ext w1 = ev_ws cy base ext w := by
    unfold ev_ws
    rw [hn]
    refine List.map_congr_left fun a _ => ?_
    unfold ev_ent ev_fs ev_fv w_K w_L w_R w_I w_J
    rw [hw]
  refine ⟨?_, by rw [hn]; exact h2, by rw [hn]; omega, fun q => (by rw [hl] at q; cases q), ?_, ?_⟩
  · rw [e]
    exact h1.kept fun k q hq => hk q.1 (h1 k q hq).lt
  · unfold w_L at h5 ⊢; rw [hw]; exact h5
  · unfold w_I at h6 ⊢; rw [hw]; exact h6
/-- a new cell -/
theorem ev_M_new {D : va_G} {cy : Nat → ClassId} {base : Nat} {ext : Nat → Nat} {SL : Nat} {SX : Nat → Int32} {w : ev_W} {H H1 : Heap} {k len : Nat} (h : ev_M D cy base ext SL SX w H) (hl : w_l w = true) (hlt : w_n w < 1000) (hz : H1.size = H.size + 1) (hk : ∀ q, q < H.size → H1[q]? = H[q]?)
    (ha : va_at D vwCl (base + w_n w, ev_ent cy base ext (w_nw w k len) (w_n w)) H1) : ev_M D cy base ext SL SX (w_nw w k len) H1 := by
  obtain ⟨h1, h2, h3, h4, h5, h6⟩ := h
  have h4' := h4 hl
  have hS : ¬ ev_S = w_n w := by unfold ev_S; omega
  refine ⟨fun i q hq => ?_, by show w_n w + 1 ≤ 1000; omega, by show base + (w_n w + 1) ≤ H1.size; omega, fun _ => by show H1.size = base + (w_n w + 1); omega, ?_, ?_⟩
  · obtain ⟨hi, rfl⟩ := ev_ws_of hq
    have hi' : i < w_n w + 1 := hi
    by_cases e : i = w_n w
    · subst e; exact ha
    · have hi2 : i < w_n w := by omega
      have e2 : ev_ent cy base ext (w_nw w k len) i = ev_ent cy base ext w i := by
        unfold ev_ent ev_fs ev_fv w_nw w_K w_L w_R w_I w_J ev_u1
        simp only [if_neg e]
      rw [e2]
      have h9 := h1 i _ (ev_ws_at hi2)
      exact h9.kept (hk _ h9.lt)
  · show ev_u1 (w_L w) (w_n w) len ev_S = SL
    unfold ev_u1; rw [if_neg hS]; exact h5
  · show ev_u1 (w_I w) (w_n w) (fun _ => 0) ev_S = SX
    unfold ev_u1; rw [if_neg hS]; exact h6
theorem ev_fs_at {base : Nat} {ext : Nat → Nat} {w : ev_W} {a ci k : Nat} (hk : k < (ev_ft.getD ci []).length) : (ev_fs base ext w a ci)[k]? = some (ev_fv base ext w a (ev_fty ci k, k)) := by
  unfold ev_fs ev_fty
  generalize ev_ft.getD ci [] = l9 at hk ⊢
  have e9 : l9.getD k 9 = l9[k] := by
    rw [List.getD_eq_getElem?_getD, List.getElem?_eq_getElem hk]
    rfl
  rw [List.getElem?_map, List.getElem?_zipIdx, List.getElem?_eq_getElem hk, e9]
  simp only [Option.map_some, Nat.zero_add]
theorem ev_fs_len {base : Nat} {ext : Nat → Nat} {w : ev_W} {a ci : Nat} : (ev_fs base ext w a ci).length = (ev_ft.getD ci []).length := by
  unfold ev_fs
  rw [List.length_map, List.length_zipIdx]
/-- a field is written: the list of what the object holds -/
theorem ev_fs_set {base : Nat} {ext : Nat → Nat} {w w1 : ev_W} {a ci k : Nat} {v : Value} (hv : k < (ev_ft.getD ci []).length → ev_fv base ext w1 a (ev_fty ci k, k) = v) (ho : ∀ j t, j ≠ k → ev_fv base ext w1 a (t, j) = ev_fv base ext w a (t, j)) : (ev_fs base ext w a ci).set k v = ev_fs base ext w1 a ci := by
  apply List.ext_getElem?
  intro j
  rw [List.getElem?_set]
  by_cases hj : j < (ev_ft.getD ci []).length
  · rw [ev_fs_at hj, ev_fs_at hj, ev_fs_len]
    by_cases e : k = j
    · subst e
      rw [if_pos rfl, if_pos hj, hv hj]
    · rw [if_neg e, ho j _ (fun q => e q.symm)]
  · have e1 : (ev_fs base ext w a ci)[j]? = none := List.getElem?_eq_none (by rw [ev_fs_len]; omega)
    have e2 : (ev_fs base ext w1 a ci)[j]? = none := List.getElem?_eq_none (by rw [ev_fs_len]; omega)
    rw [e1, e2]
    by_cases e : k = j
    · subst e
      rw [if_pos rfl, if_neg (by rw [ev_fs_len]; exact hj)]
    · rw [if_neg e]
/-! locals -/
def ev_EL (base : Nat) (ext : Nat → Nat) (L : Array Slot) (nL : Nat) (ls : ev_L) : Prop := ls.length = nL ∧ L.size = nL ∧ lv_wf L ∧ ∀ (i : Nat) (v : Value), ls[i]? = some (some v) → L[i]? = some (.val (ev_v base ext v))
def ev_prs (base : Nat) (ext : Nat → Nat) (ls : ev_L) : List (Nat × Value) := ls.zipIdx.filterMap (fun q => q.1.map (fun v => (q.2, ev_v base ext v)))
theorem ev_prs_mem {base : Nat} {ext : Nat → Nat} {ls : ev_L} {q : Nat × Value} : q ∈ ev_prs base ext ls ↔ ∃ v, ls[q.1]? = some (some v) ∧ q.2 = ev_v base ext v := by
  unfold ev_prs
  rw [List.mem_filterMap]
  constructor
  · rintro ⟨⟨o, i⟩, h1, h2⟩
    cases o with
    | none => cases h2
    | some v =>
      cases h2
      have h3 := List.mem_zipIdx_iff_getElem?.mp h1
      exact ⟨v, h3, rfl⟩
  · rintro ⟨v, h1, h2⟩
    refine ⟨(some v, q.1), List.mem_zipIdx_iff_getElem?.mpr h1, ?_⟩
    show some (q.1, ev_v base ext v) = some q
    rw [← h2]
theorem ev_EL_has {base : Nat} {ext : Nat → Nat} {L : Array Slot} {nL : Nat} {ls : ev_L} (h : ev_EL base ext L nL ls) : lv_has L nL (ev_prs base ext ls) := by
  refine ⟨h.2.1, h.2.2.1, fun q hq => ?_⟩
  obtain ⟨v, h1, h2⟩ := ev_prs_mem.mp hq
  rw [h2]
  exact h.2.2.2 _ _ h1
theorem ev_c1_of {ls : ev_L} {i j : Nat} {v : Value} (h : ev_c1 ls i = true) (hj : j + 1 = i) (hv : ls[j]? = some (some v)) : v.category = 1 := by
  subst hj
  unfold ev_c1 at h
  dsimp only at h
  rw [hv] at h
  exact eq_of_beq h
theorem ev_EL_st1 {base : Nat} {ext : Nat → Nat} {L : Array Slot} {nL i : Nat} {ls : ev_L} {v : Value} (h : ev_EL base ext L nL ls) (hi : i < ls.length) (hc : ev_c1 ls i = true) {L' : Array Slot}
    (h' : lv_has L' nL ((i, ev_v base ext v) :: (ev_prs base ext ls).filter (fun q => !(q.1 == i) && !(q.1 + 1 == i && q.2.category == 2)))) : ev_EL base ext L' nL (ev_sto ls i v) := by
  refine ⟨by unfold ev_sto; rw [List.length_set]; exact h.1, h'.1, h'.2.1, fun j u hj => ?_⟩
  unfold ev_sto at hj
  rw [List.getElem?_set] at hj
  by_cases e : i = j
  · subst e
    rw [if_pos rfl, if_pos hi] at hj
    cases hj
    exact h'.2.2 (i, ev_v base ext v) List.mem_cons_self
  · rw [if_neg e] at hj
    refine h'.2.2 (j, ev_v base ext u) (List.mem_cons_of_mem _ (List.mem_filter.mpr ⟨ev_prs_mem.mpr ⟨u, hj, rfl⟩, ?_⟩))
    have e1 : (j == i) = false := by rw [beq_eq_false_iff_ne]; exact fun q => e q.symm
    simp only [e1, Bool.not_false, Bool.true_and, ev_v_cat]
    by_cases e2 : j + 1 = i
    · rw [ev_c1_of hc e2 hj]
      simp
    · simp [e2]
theorem ev_EL_st2 {base : Nat} {ext : Nat → Nat} {L : Array Slot} {nL i : Nat} {ls : ev_L} {v : Value} (h : ev_EL base ext L nL ls) (hi : i + 1 < ls.length) (hc : ev_c1 ls i = true) {L' : Array Slot}
    (h' : lv_has L' nL ((i, ev_v base ext v) :: (ev_prs base ext ls).filter (fun q => !(q.1 == i) && (!(q.1 == i + 1) && !(q.1 + 1 == i && q.2.category == 2))))) : ev_EL base ext L' nL ((ev_sto ls i v).set (i + 1) none) := by
  refine ⟨by unfold ev_sto; rw [List.length_set, List.length_set]; exact h.1, h'.1, h'.2.1, fun j u hj => ?_⟩
  unfold ev_sto at hj
  rw [List.getElem?_set] at hj
  by_cases e0 : i + 1 = j
  · subst e0
    rw [if_pos rfl] at hj
    split at hj <;> cases hj
  rw [if_neg e0, List.getElem?_set] at hj
  by_cases e : i = j
  · subst e
    rw [if_pos rfl, if_pos (by omega)] at hj
    cases hj
    exact h'.2.2 (i, ev_v base ext v) List.mem_cons_self
  · rw [if_neg e] at hj
    refine h'.2.2 (j, ev_v base ext u) (List.mem_cons_of_mem _ (List.mem_filter.mpr ⟨ev_prs_mem.mpr ⟨u, hj, rfl⟩, ?_⟩))
    have e1 : (j == i) = false := by rw [beq_eq_false_iff_ne]; exact fun q => e q.symm
    have e3 : (j == i + 1) = false := by rw [beq_eq_false_iff_ne]; exact fun q => e0 q.symm
    simp only [e1, e3, Bool.not_false, Bool.true_and, ev_v_cat]
    by_cases e2 : j + 1 = i
    · rw [ev_c1_of hc e2 hj]
      simp
    · simp [e2]
/-- the locals at a method's entry, its arguments one slot each -/
theorem ev_lsl {vs : List Value} (h : ∀ v ∈ vs, v.category = 1) : lg_sl vs = vs.map Slot.val := by
  induction vs with
  | nil => rfl
  | cons v r ih =>
    unfold lg_sl at ih ⊢
    rw [List.flatMap_cons, ih (fun u hu => h u (List.mem_cons_of_mem _ hu)), if_neg (by rw [h v List.mem_cons_self]; decide)]
    rfl
theorem ev_EL_in {base : Nat} {ext : Nat → Nat} {n : Nat} {as : List Value} (h : ∀ v ∈ as, v.category = 1) (hn : as.length ≤ n) : ev_EL base ext ((lg_sl (as.map (ev_v base ext)) ++ List.replicate (n - (lg_sl (as.map (ev_v base ext))).length) Slot.unset).toArray) n (ev_in n as) := by
  have hc : ∀ v ∈ as.map (ev_v base ext), v.category = 1 := fun v hv => by
    obtain ⟨u, hu, rfl⟩ := List.mem_map.mp hv
    rw [ev_v_cat]; exact h u hu
  have hlen : (lg_sl (as.map (ev_v base ext))).length = as.length := by rw [ev_lsl hc, List.length_map, List.length_map]
  have h1 := lv_entry (as.map (ev_v base ext)) (n := n) (by rw [hlen]; exact hn)
  refine ⟨by unfold ev_in; rw [List.length_append, List.length_map, List.length_replicate]; omega, h1.1, h1.2.1, fun i v hv => ?_⟩
  rw [ev_lsl hc]
  unfold ev_in at hv
  have hi : i < as.length := by
    rcases Nat.lt_or_ge i as.length with q | q
    · exact q
    · rw [List.getElem?_append_right (by rw [List.length_map]; exact q)] at hv
      rw [List.getElem?_replicate] at hv
      split at hv <;> cases hv
  rw [List.getElem?_append_left (by rw [List.length_map]; exact hi), List.getElem?_map] at hv
  rw [List.getElem?_toArray, List.getElem?_append_left (by rw [List.length_map, List.length_map]; exact hi), List.getElem?_map, List.getElem?_map]
  cases ha : as[i]? with
  | none => rw [ha] at hv; cases hv
  | some u =>
    rw [ha] at hv
    cases hv
    rfl
end
section
/-! rows of the kit once more, with the heap's size -/
section EVR
variable {p : Program} {l : Launch} {e : Env} {R : Room} {s : State} {m : MethodId} {args : Array Value} {below : List Frame} {meth : Method} {c : Code} {H : Heap} {locs : List Loc} {cells slots : Nat} {Q : State → Prop}
variable {cc : ByteArray} {pc : Nat} {ls : Array Slot} {rest : List Value} {D : va_G} {cl : List vw_C} {A : Nat → Prop} {a : Nat} {tys : List (ClassId × FieldType)} {ws : va_W} {H0 : Heap}
theorem ev_put (hexec : p.tables.exec = Jvm.exec) (hb : c.code = cc) {own ref C : String} {T : u_T} {N ci index : Nat} {Ts : List Cond} (hts : ∀ w ∈ Ts, w.before args s = true) (hin : ∀ w ∈ u_ws C T N, w ∈ Ts) (ty0 : Nat → FieldType) (hty : ∀ k, k < N → parseFieldDescriptor (T k).2.2.1 = some (ty0 k)) (hnm : ∀ a, a < N → ∀ b, b < N → a ≠ b → (T a).2.1 ≠ (T b).2.1) (hown : s.vm.findClass own = some m.cls) (hK : va_K D cl tys s) (hP : va_P D cl ws H) (hD : va_D A ws) (hS0 : va_S A H0 H locs) (q0 : Nat) {fs : List Value} (he : ws[q0]? = some (a, .inr (ci, fs))) (hc : cl[ci]? = some (C, T, N)) (k : Nat) (hk : k < N) (hlink : (Cond.fieldLink own index ref (T k).2.1 (T k).2.2.1).before args s = true) (hsame : ∀ x, s.fieldFound? (T k).1 (T k).2.1 (T k).2.2.1 = some x → s.fieldFound? ref (T k).2.1 (T k).2.2.1 = some x) (hfin : (T k).2.2.2 = true → meth.name = "<init>" ∧ (T k).1 = own) {ty : FieldType} {v : Value} (hd : parseFieldDescriptor (T k).2.2.1 = some ty) (hn : narrow ty v = v) (hfit : fits ty v = true) (hl : k < fs.length)
    (hdg : decode cc pc = .ok (.putfield index, 3)) (kk : ∀ (H1 : Heap) (locs1 : List Loc), va_P D cl (ws.set q0 (a, .inr (ci, fs.set k v))) H1 → H1.size = H.size → va_S A H0 H1 locs1 → W p l e R s m args below meth c H1 locs1 cells slots Q (F0 m (pc + 3) ls rest)) : W p l e R s m args below meth c H locs cells slots Q (F0 m pc ls (v :: .ref a :: rest)) := by
  have hap := va_apart (own := own) hts hin ty0 hty hnm hK hc
  obtain ⟨r, h1, cell, q1, q2, q3, q4⟩ := hP q0 _ he
  have hr : r = (C, T, N) := Option.some.inj (h1.symm.trans hc)
  subst hr
  obtain ⟨hS, hfc, kC, hkC, hkind⟩ := hK.1 ci _ hc
  obtain ⟨cf, kf, fi, f, hi, hsl⟩ := hS k hk
  have hlay := hts _ (hin _ (u_in_lay hk))
  unfold u_lay at hlay
  have hst := (u_facts hfc hkC (u_lays hts hin hk) hi).1
  cases hff : (T k).2.2.2 with
  | false =>
    rw [if_neg (by rw [hff]; decide)] at hlay
    have h6 := u_store hfc hkC hkind hlay hi hd hn hfit
    refine W.putK hexec hb (f := f) ⟨hown, hlink, ⟨_, _, _, hsame _ hi⟩, hst⟩ (by rw [q2]; exact h6) q1 q3 (by rw [hsl]; exact k2_hasslot (q4 k hk)) rfl rfl hdg fun H' e1 e2 e3 => ?_
    rw [hsl] at e1 ⊢
    exact kk H' _ (hP.set hD he ⟨_, hc, t_OB.to (V := updV (vp_V fs) k v) ⟨_, e1, q2, q3, t_set q4 hap hk v⟩ (fun j _ => vp_updV_set hl v j)⟩ e3) e2 (hS0.put e2 e3 (hD.2 q0 _ he))
  | true =>
    rw [if_pos hff] at hlay
    obtain ⟨hin2, hdecl⟩ := hfin hff
    have hcf : m.cls = cf := by
      obtain ⟨_, _, c', _, _, _, -, -, hf', -, -, -, hown2, -⟩ := Cond.laysFinal_spec hlay
      have e1 : c' = cf := by have := hi.symm.trans hf'; simp at this; exact this.1.symm
      rw [hdecl] at hown2
      rw [← e1]; exact Option.some.inj (hown.symm.trans hown2)
    have h6 := u_fits hfc hkC hkind (Or.inr hlay) hi hd hn hfit
    refine W.putFinK hexec hb hown hlink (hsame _ hi) hst hcf hin2 (by rw [q2]; exact h6) q1 q3 (by rw [hsl]; exact k2_hasslot (q4 k hk)) rfl rfl hdg fun H' e1 e2 e3 => ?_
    rw [hsl] at e1 ⊢
    exact kk H' _ (hP.set hD he ⟨_, hc, t_OB.to (V := updV (vp_V fs) k v) ⟨_, e1, q2, q3, t_set q4 hap hk v⟩ (fun j _ => vp_updV_set hl v j)⟩ e3) e2 (hS0.put e2 e3 (hD.2 q0 _ he))
theorem ev_iast (hexec : p.tables.exec = Jvm.exec) (hb : c.code = cc) (hK : va_K D cl tys s) (hP : va_P D cl ws H) (hD : va_D A ws) (hS : va_S A H0 H locs) (q0 t0 : Nat) {cA : ClassId} {n : Nat} {f : Nat → Int32} (ha : ws[q0]? = some (a, .inl (cA, n, .inl f))) (ht : tys[t0]? = some (cA, .int)) {i : Int32} {x : Int32} (hin : vp_in i n) (hdg : decode cc pc = .ok (.iastore, 1))
    (kk : ∀ (H1 : Heap) (locs1 : List Loc), va_P D cl (ws.set q0 (a, .inl (cA, n, .inl (upd f i.toNatClampNeg x)))) H1 → H1.size = H.size → va_S A H0 H1 locs1 → W p l e R s m args below meth c H1 locs1 cells slots Q (F0 m (pc + 1) ls rest)) : W p l e R s m args below meth c H locs cells slots Q (F0 m pc ls (.int x :: .int i :: .ref a :: rest)) := by
  refine W.iast hexec hb (hP q0 _ ha) ((hK.2 t0 _ ht).1 n (fun j => .int (f j))) (fun q => by cases q) (by show ¬ (i < 0 ∨ (arrV _ _ _).slots.size ≤ _); rw [arrV_size]; exact hin) rfl rfl hdg fun H1 e z oq => ?_
  refine kk H1 _ (hP.set hD ha ?_ oq) z (hS.put z oq (hD.2 q0 _ ha))
  show H1[a]? = some (vp_cell _ _)
  rw [e]
  rw [vp_cell_i, vp_cell_i, arrV_store]
  congr 2
  funext q
  by_cases hq : q = i.toNatClampNeg
  · subst hq
    simp [updV, upd]
  · simp [updV, upd, hq]
theorem ev_bast (hexec : p.tables.exec = Jvm.exec) (hb : c.code = cc) (hK : va_K D cl tys s) (hP : va_P D cl ws H) (hD : va_D A ws) (hS : va_S A H0 H locs) (q0 t0 : Nat) {cA : ClassId} {n : Nat} {f : Nat → Int32} (ha : ws[q0]? = some (a, .inl (cA, n, .inl f))) (ht : tys[t0]? = some (cA, .byte)) {i : Int32} {x : Int32} (hin : vp_in i n) (hdg : decode cc pc = .ok (.bastore, 1))
    (kk : ∀ (H1 : Heap) (locs1 : List Loc), va_P D cl (ws.set q0 (a, .inl (cA, n, .inl (upd f i.toNatClampNeg (vp_nar .byte x))))) H1 → H1.size = H.size → va_S A H0 H1 locs1 → W p l e R s m args below meth c H1 locs1 cells slots Q (F0 m (pc + 1) ls rest)) : W p l e R s m args below meth c H locs cells slots Q (F0 m pc ls (.int x :: .int i :: .ref a :: rest)) := by
  refine W.bast hexec hb (hP q0 _ ha) ((hK.2 t0 _ ht).1 n (fun j => .int (f j))) (fun q => by cases q) (by show ¬ (i < 0 ∨ (arrV _ _ _).slots.size ≤ _); rw [arrV_size]; exact hin) rfl rfl hdg fun H1 e z oq => ?_
  refine kk H1 _ (hP.set hD ha ?_ oq) z (hS.put z oq (hD.2 q0 _ ha))
  show H1[a]? = some (vp_cell _ _)
  rw [e]
  rw [vp_cell_i, vp_cell_i, arrV_store]
  congr 2
  funext q
  by_cases hq : q = i.toNatClampNeg
  · subst hq
    simp [updV, upd, vp_nar]
    try rfl
  · simp [updV, upd, hq]
theorem ev_zast (hexec : p.tables.exec = Jvm.exec) (hb : c.code = cc) (hK : va_K D cl tys s) (hP : va_P D cl ws H) (hD : va_D A ws) (hS : va_S A H0 H locs) (q0 t0 : Nat) {cA : ClassId} {n : Nat} {f : Nat → Int32} (ha : ws[q0]? = some (a, .inl (cA, n, .inl f))) (ht : tys[t0]? = some (cA, .boolean)) {i : Int32} {x : Int32} (hin : vp_in i n) (hdg : decode cc pc = .ok (.bastore, 1))
    (kk : ∀ (H1 : Heap) (locs1 : List Loc), va_P D cl (ws.set q0 (a, .inl (cA, n, .inl (upd f i.toNatClampNeg (vp_nar .boolean x))))) H1 → H1.size = H.size → va_S A H0 H1 locs1 → W p l e R s m args below meth c H1 locs1 cells slots Q (F0 m (pc + 1) ls rest)) : W p l e R s m args below meth c H locs cells slots Q (F0 m pc ls (.int x :: .int i :: .ref a :: rest)) := by
  refine W.zast hexec hb (hP q0 _ ha) ((hK.2 t0 _ ht).1 n (fun j => .int (f j))) (fun q => by cases q) (by show ¬ (i < 0 ∨ (arrV _ _ _).slots.size ≤ _); rw [arrV_size]; exact hin) rfl rfl hdg fun H1 e z oq => ?_
  refine kk H1 _ (hP.set hD ha ?_ oq) z (hS.put z oq (hD.2 q0 _ ha))
  show H1[a]? = some (vp_cell _ _)
  rw [e]
  rw [vp_cell_i, vp_cell_i, arrV_store]
  congr 2
  funext q
  by_cases hq : q = i.toNatClampNeg
  · subst hq
    simp [updV, upd, vp_nar]
    try rfl
  · simp [updV, upd, hq]
theorem ev_last (hexec : p.tables.exec = Jvm.exec) (hb : c.code = cc) (hK : va_K D cl tys s) (hP : va_P D cl ws H) (hD : va_D A ws) (hS : va_S A H0 H locs) (q0 t0 : Nat) {cA : ClassId} {n : Nat} {f : Nat → Int64} (ha : ws[q0]? = some (a, .inl (cA, n, .inr (.inl f)))) (ht : tys[t0]? = some (cA, .long)) {i : Int32} {x : Int64} (hin : vp_in i n) (hdg : decode cc pc = .ok (.lastore, 1))
    (kk : ∀ (H1 : Heap) (locs1 : List Loc), va_P D cl (ws.set q0 (a, .inl (cA, n, .inr (.inl (vp_updL f i.toNatClampNeg x))))) H1 → H1.size = H.size → va_S A H0 H1 locs1 → W p l e R s m args below meth c H1 locs1 cells slots Q (F0 m (pc + 1) ls rest)) : W p l e R s m args below meth c H locs cells slots Q (F0 m pc ls (.long x :: .int i :: .ref a :: rest)) := by
  refine W.last hexec hb (hP q0 _ ha) ((hK.2 t0 _ ht).1 n (fun j => .long (f j))) (fun q => by cases q) (by show ¬ (i < 0 ∨ (arrV _ _ _).slots.size ≤ _); rw [arrV_size]; exact hin) rfl rfl hdg fun H1 e z oq => ?_
  refine kk H1 _ (hP.set hD ha ?_ oq) z (hS.put z oq (hD.2 q0 _ ha))
  show H1[a]? = some (vp_cell _ _)
  rw [e]
  rw [vp_cell_l, vp_cell_l, arrV_store]
  congr 2
  funext q
  by_cases hq : q = i.toNatClampNeg
  · subst hq
    simp [updV, vp_updL]
  · simp [updV, vp_updL, hq]
theorem ev_dast (hexec : p.tables.exec = Jvm.exec) (hb : c.code = cc) (hK : va_K D cl tys s) (hP : va_P D cl ws H) (hD : va_D A ws) (hS : va_S A H0 H locs) (q0 t0 : Nat) {cA : ClassId} {n : Nat} {f : Nat → UInt64} (ha : ws[q0]? = some (a, .inl (cA, n, .inr (.inr (.inr (.inl f)))))) (ht : tys[t0]? = some (cA, .double)) {i : Int32} {x : UInt64} (hin : vp_in i n) (hdg : decode cc pc = .ok (.dastore, 1))
    (kk : ∀ (H1 : Heap) (locs1 : List Loc), va_P D cl (ws.set q0 (a, .inl (cA, n, .inr (.inr (.inr (.inl (vf_upd f i.toNatClampNeg x))))))) H1 → H1.size = H.size → va_S A H0 H1 locs1 → W p l e R s m args below meth c H1 locs1 cells slots Q (F0 m (pc + 1) ls rest)) : W p l e R s m args below meth c H locs cells slots Q (F0 m pc ls (.double x :: .int i :: .ref a :: rest)) := by
  refine W.dast hexec hb (hP q0 _ ha) ((hK.2 t0 _ ht).1 n (fun j => .double (f j))) (fun q => by cases q) (by show ¬ (i < 0 ∨ (arrV _ _ _).slots.size ≤ _); rw [arrV_size]; exact hin) rfl rfl hdg fun H1 e z oq => ?_
  refine kk H1 _ (hP.set hD ha ?_ oq) z (hS.put z oq (hD.2 q0 _ ha))
  show H1[a]? = some (vp_cell _ _)
  rw [e]
  rw [vp_cell_d, vp_cell_d, arrV_store]
  congr 2
  funext q
  by_cases hq : q = i.toNatClampNeg
  · subst hq
    simp [updV, vf_upd]
  · simp [updV, vf_upd, hq]
theorem ev_aast (hexec : p.tables.exec = Jvm.exec) (hb : c.code = cc) (hK : va_K D cl tys s) (hP : va_P D cl ws H) (hD : va_D A ws) (hS : va_S A H0 H locs) (q0 t0 qk ci : Nat) {cA : ClassId} {r : vw_C} {n v : Nat} {vs : List Value} {f : Nat → Option Nat} (ha : ws[q0]? = some (a, .inl (cA, n, .inr (.inr (.inr (.inr f)))))) (ht : tys[t0]? = some (cA, .object r.1)) (hv : ws[qk]? = some (v, .inr (ci, vs))) (hc : cl[ci]? = some r) {i : Int32} (hin : vp_in i n) (hdg : decode cc pc = .ok (.aastore, 1))
    (kk : ∀ (H1 : Heap) (locs1 : List Loc), va_P D cl (ws.set q0 (a, .inl (cA, n, .inr (.inr (.inr (.inr (va_up f i.toNatClampNeg (some v)))))))) H1 → H1.size = H.size → va_S A H0 H1 locs1 → W p l e R s m args below meth c H1 locs1 cells slots Q (F0 m (pc + 1) ls rest)) : W p l e R s m args below meth c H locs cells slots Q (F0 m pc ls (.ref v :: .int i :: .ref a :: rest)) := by
  have hlt : i.toNatClampNeg < n := Nat.not_le.mp fun q => hin (Or.inr q)
  have h0 : ¬ i < 0 := fun q => hin (Or.inl q)
  obtain ⟨r', hr', cellV, g1, g2, g3, -⟩ := hP qk _ hv
  have hcls := (hK.1 ci r hc).2
  obtain ⟨kA, comp, k1, k2, k3, -⟩ := (hK.2 t0 _ ht).2
  have hcomp : comp = D.1 ci := Option.some.inj (k3.symm.trans hcls.1)
  subst hcomp
  obtain ⟨kC, hkC, -⟩ := hcls.2
  refine W.aast hexec hb (hP q0 _ ha) (fun q h => by cases h) (fun h => by cases h) k1 k2 rfl hkC ⟨h0, by show _ < (arrV _ _ _).slots.size; rw [arrV_size]; exact hlt⟩ g1 (fun q h => by rw [g3] at h; cases h) (by rw [g2]; exact hkC) (by rw [g2]; exact va_assign hcls) rfl rfl hdg fun H1 e z oq => ?_
  refine kk H1 _ (hP.set hD ha ?_ oq) z (hS.put z oq (hD.2 q0 _ ha))
  show H1[a]? = some (vp_cell _ _)
  rw [e]
  rw [vp_cell_q, vp_cell_q, arrV_store]
  congr 2
  funext q
  by_cases hq : q = i.toNatClampNeg
  · subst hq
    simp [updV, va_up, va_rf]
  · simp [updV, va_up, hq]
/-- a new object, at the heap's end -/
theorem ev_newo {c0 : Code} (hexec : p.tables.exec = Jvm.exec) (hb : c0.code = cc) {own C : String} {T : u_T} {N ci index : Nat} {Ts : List Cond} (hts : ∀ w ∈ Ts, w.before args s = true) (hin : ∀ w ∈ u_ws C T N, w ∈ Ts) (ty : Nat → FieldType) (hty : ∀ k, k < N → parseFieldDescriptor (T k).2.2.1 = some (ty k)) (hown : s.vm.findClass own = some m.cls) (hcl : (Cond.classLink own index C).before args s = true) (hinst : (Cond.instantiable C N).before args s = true) (hini : (Cond.initialized C).before args s = true)
    (hK : va_K D cl tys s) (hS : va_S A H0 H locs) (hc : cl[ci]? = some (C, T, N)) {fs : List Value} (hfs : ∀ j, j < N → defaultValue (ty j) = vp_V fs j) (hcells : cells + 1 ≤ R.cells) (hslots : slots + N ≤ R.slots) (hdg : decode cc pc = .ok (.new index, 3))
    (kk : ∀ H1 : Heap, H1.size = H.size + 1 → (∀ q, q < H.size → H1[q]? = H[q]?) → va_at D cl (H.size, .inr (ci, fs)) H1 → va_S A H0 H1 locs →
      W p l e R s m args below meth c0 H1 locs (cells + 1) (slots + N) Q (F0 m (pc + 3) ls (.ref H.size :: rest))) : W p l e R s m args below meth c0 H locs cells slots Q (F0 m pc ls rest) := by
  have hKn := hK.1 ci _ hc
  refine W.newcK hexec hb hown hcl hinst hini rfl hdg hcells hslots hKn.2.1 rfl fun H1 kC hkC e1 z1 o1 => ?_
  exact kk H1 z1 o1 ⟨_, hc, (u_born ty hts hin hKn hkC e1 hty).to hfs⟩ ⟨Nat.le_trans hS.1 (by omega), fun x h1 h2 => (o1 x (Nat.lt_of_lt_of_le h1 hS.1)).trans (hS.2.1 x h1 h2), hS.2.2⟩
theorem ev_newar (hexec : p.tables.exec = Jvm.exec) (hb : c.code = cc) {atype : ArrayType} (harr : (Cond.arrayClass (newarray.typeOf atype)).before args s = true) {ty : FieldType} (hty : newarray.typeOf atype = ty) (hK : va_K D cl tys s) (hS : va_S A H0 H locs) {cA : ClassId} {t0 : Nat} (ht : tys[t0]? = some (cA, ty)) (hpr : ∀ C, ty ≠ .object C)
    {n : Int32} {N' : Nat} {a0 : vp_A} (ha : ∀ cA : ClassId, vp_cell cA a0 = arrV cA N' (fun _ => defaultValue ty)) (hn : ¬ n < 0) (hN : n.toNatClampNeg = N') (hbytes : N' * componentBytes ty ≤ 536870912) (hcells : cells + 1 ≤ R.cells) (hslots : slots + N' ≤ R.slots) (hdg : decode cc pc = .ok (.newarray atype, 2))
    (kk : ∀ H1 : Heap, H1.size = H.size + 1 → (∀ q, q < H.size → H1[q]? = H[q]?) → va_at D cl (H.size, .inl (cA, a0)) H1 → va_S A H0 H1 locs →
      W p l e R s m args below meth c H1 locs (cells + 1) (slots + N') Q (F0 m (pc + 2) ls (.ref H.size :: rest))) : W p l e R s m args below meth c H locs cells slots Q (F0 m pc ls (.int n :: rest)) := by
  subst hty
  refine va_newaK hexec hb harr rfl hdg rfl hn hN hbytes hcells hslots rfl fun H1 cB e1 z1 o1 hAr hNm => ?_
  have h9 : s.vm.findClass ("[" ++ (newarray.typeOf atype).toString) = some cA := by
    have h8 := (hK.2 t0 _ ht).2
    cases atype <;> exact h8
  have h7 : cB = cA := Option.some.inj (hNm.symm.trans h9)
  subst h7
  refine kk H1 z1 o1 ?_ ⟨Nat.le_trans hS.1 (by omega), fun x h1 h2 => (o1 x (Nat.lt_of_lt_of_le h1 hS.1)).trans (hS.2.1 x h1 h2), hS.2.2⟩
  show H1[H.size]? = some (vp_cell _ _)
  rw [ha]
  exact e1
theorem ev_newqr (hexec : p.tables.exec = Jvm.exec) (hb : c.code = cc) {own C : String} {index : Nat} (hown : s.vm.findClass own = some m.cls) (hclink : (Cond.classLink own index C).before args s = true) (hover : va_AO C s) (hK : va_K D cl tys s) (hS : va_S A H0 H locs) {cA : ClassId} {t0 : Nat} (ht : tys[t0]? = some (cA, .object C))
    {n : Int32} {N' : Nat} (hn : ¬ n < 0) (hN : n.toNatClampNeg = N') (hbytes : N' * 4 ≤ 536870912) (hcells : cells + 1 ≤ R.cells) (hslots : slots + N' ≤ R.slots) (hdg : decode cc pc = .ok (.anewarray index, 3))
    (kk : ∀ H1 : Heap, H1.size = H.size + 1 → (∀ q, q < H.size → H1[q]? = H[q]?) → va_at D cl (H.size, .inl (cA, N', .inr (.inr (.inr (.inr (fun _ => none)))))) H1 → va_S A H0 H1 locs →
      W p l e R s m args below meth c H1 locs (cells + 1) (slots + N') Q (F0 m (pc + 3) ls (.ref H.size :: rest))) : W p l e R s m args below meth c H locs cells slots Q (F0 m pc ls (.int n :: rest)) := by
  subst hN
  refine W.anew hexec hb hown hclink (va_AO.use hover) rfl hdg rfl hn hbytes hcells hslots fun cB kA comp f1 f2 f3 f4 => ?_
  obtain ⟨kA2, comp2, g1, g2, g3, g4⟩ := (hK.2 t0 _ ht).2
  have h7 : cB = cA := Option.some.inj (f1.symm.trans g4)
  subst h7
  generalize hH1 : H.push ({ cls := cB, slots := Array.replicate n.toNatClampNeg .null, vm := .none } : Cell) = H1
  have z1 : H1.size = H.size + 1 := by rw [← hH1, Array.size_push]
  have e1 : H1[H.size]? = some (arrV cB n.toNatClampNeg (fun _ => .null)) := by rw [← hH1, Array.getElem?_push_size, ← arrV_new]
  have o1 : ∀ q : Nat, q < H.size → H1[q]? = H[q]? := fun q hq => by rw [← hH1, Array.getElem?_push, if_neg (Nat.ne_of_lt hq)]
  refine kk H1 z1 o1 ?_ ⟨Nat.le_trans hS.1 (by omega), fun x h1 h2 => (o1 x (Nat.lt_of_lt_of_le h1 hS.1)).trans (hS.2.1 x h1 h2), hS.2.2⟩
  show H1[H.size]? = some (vp_cell _ _)
  rw [vp_cell_q]
  exact e1
/-- behind a call of a contract that returns or throws: whatever it says of its end -/
theorem ev_callG {mc ms : Nat} {free : Addr → Prop} {st0 : List Value} {Qa : State → Outcome → State → Prop} {XC : String → State → State → Prop} (hr : vx_Run p l e R s m args below meth c H locs cells slots mc ms (F0 m pc ls st0) rest Qa XC free)
    (hS : va_S A H0 H locs) (hf : ∀ q, free q → A q) (hQF : ∀ st v t, st.heap = H → Qa st (.returned v) t → H.size ≤ t.heap.size ∧ ∀ q : Nat, q < H.size → ¬ A q → t.heap[q]? = H[q]?) (hXF : ∀ E st t, st.heap = H → XC E st t → H.size ≤ t.heap.size ∧ ∀ q : Nat, q < H.size → ¬ A q → t.heap[q]? = H[q]?)
    (kx : ∀ (E : String) (ce : Cell) (q9 : Addr) (st t : State) (H1 : Heap) (locs1 : List Loc), st.heap = H → t.heap = H1 → XC E st t → va_S A H0 H1 locs1 → H1[q9]? = some ce → ce.vm = .none → s.vm.findClass E = some ce.cls → vx_W p l e R s m args below meth c H1 locs1 (cells + mc) (slots + ms) Q (F0 m pc ls rest) q9)
    (kk : ∀ (v : Option Value) (st t : State) (H1 : Heap) (locs1 : List Loc), st.heap = H → t.heap = H1 → Qa st (.returned v) t → va_S A H0 H1 locs1 → W p l e R s m args below meth c H1 locs1 (cells + mc) (slots + ms) Q (F0 m (pc + 3) ls (v.toList ++ rest))) : W p l e R s m args below meth c H locs cells slots Q (F0 m pc ls st0) := by
  intro T hT X
  have key : ∀ (t T' : State) (L : List Loc), T'.heap = t.heap → H.size ≤ t.heap.size → (∀ q : Nat, q < H.size → ¬ A q → t.heap[q]? = H[q]?) → (∀ q ∈ L, free q.base) → va_S A H0 T'.heap (locs ++ L) := by
    intro t T' L e1 z1 k1 hL
    refine ⟨Nat.le_trans hS.1 (by rw [e1]; exact z1), fun q h1 h2 => ?_, fun q hq => ?_⟩
    · rw [e1, k1 q (Nat.lt_of_lt_of_le h1 hS.1) h2]
      exact hS.2.1 q h1 h2
    · rcases List.mem_append.mp hq with h | h
      · exact hS.2.2 q h
      · exact hf _ (hL q h)
  rcases hr T hT X with ⟨v, st₀, t, T', L, h0, X', hL, e1, e2, hq, st⟩ | ⟨q, st₀, t, T', L, E, ce, h0, X', hL, e1, e2, hx, hce, hcv, hcl, st⟩
  · obtain ⟨z1, k1⟩ := hQF st₀ v t h0 hq
    obtain ⟨t2, a1, b1⟩ := kk v st₀ t T'.heap (locs ++ L) h0 e1.symm hq (key t T' L e1 z1 k1 hL) T' rfl X'
    exact ⟨t2, st t2 a1, b1⟩
  · obtain ⟨z1, k1⟩ := hXF E st₀ t h0 hx
    obtain ⟨t2, a1, b1⟩ := kx E ce q st₀ t T'.heap (locs ++ L) h0 e1.symm hx (key t T' L e1 z1 k1 hL) (by rw [e1]; exact hce) hcv hcl T' rfl X'
    exact ⟨t2, st.trans a1, b1⟩
end EVR
end
section
/-! contexts of a walk -/
/-- a String constant's object: its bytes; and two statics that String's methods read -/
def zs_fd : String := "Ljava/util/function/BiFunction;"
def zs_pc : String := "jdk/internal/util/Preconditions"
def zs_1 (b : List Int32) (a : Nat) (A : Nat → Prop) (U : State) (H : Heap) : Prop := va_O "java/lang/String" a A U H ∧ va_OF "java/lang/String" "coder" "B" (.int 0) a A U H ∧ (∃ v : Nat, va_OF "java/lang/String" "value" "[B" (.ref v) a A U H ∧ va_T .byte v b.length (fun j => .int (b.getD j 0)) A U H) ∧ va_Z "java/lang/String" "COMPACT_STRINGS" "Z" (.int 1) A U H ∧ va_Zq zs_pc "SIOOBE_FORMATTER" zs_fd A U H
theorem zs_1.moved {b : List Int32} {a : Nat} {A : Nat → Prop} {u U : State} {H : Heap} (hvm : u.vm.Alike U.vm) (h : zs_1 b a A u H) : zs_1 b a A U H := by
  obtain ⟨h1_, h2_, ⟨v_, h3_, h4_⟩, h5_, h6_⟩ := h
  exact ⟨va_O.moved hvm h1_, va_OF.moved hvm h2_, ⟨v_, va_OF.moved hvm h3_, va_T.moved hvm h4_⟩, va_Z.moved hvm h5_, va_Zq.moved hvm h6_⟩
theorem zs_1.kept {b : List Int32} {a : Nat} {A : Nat → Prop} {U : State} {H H1 : Heap} (h : zs_1 b a A U H) (hq : ∀ a : Nat, a < H.size → ¬ A a → H1[a]? = H[a]?) : zs_1 b a A U H1 := by
  obtain ⟨h1_, h2_, ⟨v_, h3_, h4_⟩, h5_, h6_⟩ := h
  exact ⟨h1_.kept hq, h2_.kept hq, ⟨v_, h3_.kept hq, h4_.kept hq⟩, h5_.kept hq, h6_.kept hq⟩
/-- statics of the JDK that the law's road reads: ArrayList's empty row 100, Integer's digits 101, 102, the one Unsafe 103 (names of things outside the world) -/
def zt_A (base : Nat) (ext : Nat → Nat) (U : State) (H : Heap) : Prop :=
  va_Z "java/lang/String" "COMPACT_STRINGS" "Z" (.int 1) (ev_A base) U H ∧ va_Zq zs_pc "SIOOBE_FORMATTER" zs_fd (ev_A base) U H ∧
  va_Z "java/util/ArrayList" "DEFAULTCAPACITY_EMPTY_ELEMENTDATA" "[Ljava/lang/Object;" (.ref (ext (ev_S + 100))) (ev_A base) U H ∧ va_T (.object "java/lang/Object") (ext (ev_S + 100)) 0 (fun _ => .null) (ev_A base) U H ∧
  va_Z "java/lang/Integer" "DigitOnes" "[B" (.ref (ext (ev_S + 101))) (ev_A base) U H ∧ va_T .byte (ext (ev_S + 101)) 100 (fun j => .int (Int32.ofNat (48 + j % 10))) (ev_A base) U H ∧
  va_Z "java/lang/Integer" "DigitTens" "[B" (.ref (ext (ev_S + 102))) (ev_A base) U H ∧ va_T .byte (ext (ev_S + 102)) 100 (fun j => .int (Int32.ofNat (48 + j / 10))) (ev_A base) U H ∧
  va_Z "jdk/internal/util/ArraysSupport" "U" "Ljdk/internal/misc/Unsafe;" (.ref (ext (ev_S + 103))) (ev_A base) U H ∧ va_O "jdk/internal/misc/Unsafe" (ext (ev_S + 103)) (ev_A base) U H ∧
  va_Z "jdk/internal/misc/Unsafe" "ARRAY_LONG_BASE_OFFSET" "I" (.int 16) (ev_A base) U H ∧ va_Z "jdk/internal/util/ArraysSupport" "LOG2_ARRAY_LONG_INDEX_SCALE" "I" (.int 3) (ev_A base) U H
theorem zt_A.go {base : Nat} {ext : Nat → Nat} {s U : State} {H H1 : Heap} (hW : s.vm.Alike U.vm) (h : zt_A base ext s H) (hk : ∀ a, a < H.size → ¬ ev_A base a → H1[a]? = H[a]?) : zt_A base ext U H1 := by
  obtain ⟨h1_, h2_, h3_, h4_, h5_, h6_, h7_, h8_, h9_, ha_, hb_, hc_⟩ := h
  exact ⟨(va_Z.moved hW h1_).kept hk, (va_Zq.moved hW h2_).kept hk, (va_Z.moved hW h3_).kept hk, (va_T.moved hW h4_).kept hk, (va_Z.moved hW h5_).kept hk, (va_T.moved hW h6_).kept hk, (va_Z.moved hW h7_).kept hk, (va_T.moved hW h8_).kept hk, (va_Z.moved hW h9_).kept hk, (va_O.moved hW ha_).kept hk, (va_Z.moved hW hb_).kept hk, (va_Z.moved hW hc_).kept hk⟩
/-- a class that rows of rows are made of -/
def zt_II (U : State) : Prop := (Cond.arrayOver (.array .int)).before #[] U = true
def ev_F (base : Nat) (ext : Nat → Nat) (U : State) (H : Heap) : Prop :=
  (∀ w ∈ ev_ngw, va_Nw w U) ∧ (∀ j k, j < 3 → k < 3 → j ≠ k → va_Nc (ev_ex j) (ev_ex k) U) ∧ va_AO RX0 U ∧ va_AO RX5 U ∧ va_Nw ev_nsw U ∧ (∀ (k : Nat) (q : Nat × Nat × String), ev_str[k]? = some q → vk_R (ev_own.getD q.1 "") q.2.1 q.2.2 (ext (ev_S + 1 + k)) U ∧ zs_1 (ev_sby.getD k []) (ext (ev_S + 1 + k)) (ev_A base) U H) ∧
  vx_Zq Bundle.tN "UNASSIGNED_STACK" Bundle.steD (ev_A base) U H ∧ vx_Zq Bundle.tN "SUPPRESSED_SENTINEL" Bundle.listD (ev_A base) U H ∧
  zt_A base ext U H ∧ va_AO "java/lang/Object" U ∧ zt_II U ∧ (∀ w ∈ ev_nslw, va_Nw w U) ∧ ∀ w ∈ ev_fnw, va_Nw w U
theorem ev_F_go {base : Nat} {ext : Nat → Nat} {s U : State} {H H1 : Heap} (hW : s.WarmedH U.vm) (h : ev_F base ext s H) (hk : ∀ a, a < H.size → ¬ ev_A base a → H1[a]? = H[a]?) : ev_F base ext U H1 := by
  obtain ⟨h1, h2, h3, h4, h5, h6, h7, h8, h9_, ha_, hb_, hc_, hd_⟩ := h
  refine ⟨fun w hw => ?_, fun j k hj hk hn => (h2 j k hj hk hn).moved hW.alike, h3.moved hW.alike, h4.moved hW.alike, ?_, fun k q hq => ⟨(h6 k q hq).1.warm hW, ((h6 k q hq).2.moved hW.alike).kept hk⟩, ?_, ?_, h9_.go hW.alike hk, ha_.moved hW.alike, over_moved hW.alike hb_, fun w hw => ?_, fun w hw => ?_⟩
  · have h9 := h1 w hw
    unfold ev_ngw at hw
    simp only [List.mem_cons, List.not_mem_nil, or_false] at hw
    rcases hw with rfl | rfl | rfl | rfl | rfl | rfl
    · exact va_tabs rfl (rfl : (s.setVm U.vm).vm = U.vm) (A := #[]) (by rw [Cond.castable_setVm hW.alike]; exact h9)
    · exact va_tabs rfl (rfl : (s.setVm U.vm).vm = U.vm) (A := #[]) (by rw [Cond.castable_setVm hW.alike]; exact h9)
    · exact va_tabs rfl (rfl : (s.setVm U.vm).vm = U.vm) (A := #[]) (by rw [Cond.castable_setVm hW.alike]; exact h9)
    · exact va_tabs rfl (rfl : (s.setVm U.vm).vm = U.vm) (A := #[]) (by rw [Cond.declares_setVm hW.alike]; exact h9)
    · exact va_tabs rfl (rfl : (s.setVm U.vm).vm = U.vm) (A := #[]) (by rw [Cond.declares_setVm hW.alike]; exact h9)
    · exact va_tabs rfl (rfl : (s.setVm U.vm).vm = U.vm) (A := #[]) (by rw [Cond.declares_setVm hW.alike]; exact h9)
  · exact va_Nw.warmM hW h5
  · exact (vx_Zq.moved hW.alike h7).kept hk
  · exact (vx_Zq.moved hW.alike h8).kept hk
  · have h10_ := hc_ w hw
    unfold ev_nslw at hw
    simp only [List.mem_cons, List.not_mem_nil, or_false] at hw
    rcases hw with rfl | rfl
    · exact va_Nw.warmM hW h10_
    · exact va_Nw.warmM hW h10_
  · have h10_ := hd_ w hw
    unfold ev_fnw at hw
    obtain ⟨p_, -, hp_⟩ := List.mem_flatMap.mp hw
    obtain ⟨q_, hq_, rfl⟩ := List.mem_map.mp hp_
    unfold ev_fnw1 at h10_ ⊢
    split
    · rename_i r_ hr_
      rw [hr_] at h10_
      exact va_Nw.warmF hW h10_
    · rename_i hr_
      rfl
/-- what a method's body stands in -/
def ev_Cx (D : va_G) (cy : Nat → ClassId) (base : Nat) (ext : Nat → Nat) (SL : Nat) (SX : Nat → Int32) (l : Launch) (j : Nat) (z : ev_ME) (p : Program) (R : Room) (s : State) (m : MethodId) (args : Array Value) (meth : Method) (c : Code) : Prop :=
  p.tables.exec = Jvm.exec ∧ c.code = ev_by z ∧ meth.sig.returnType = ev_rt z ∧ c.maxLocals = ev_ml z ∧ s.vm.findClass (ev_y z).cls = some m.cls ∧ (∀ w ∈ ev_all, w.before args s = true) ∧ meth.locks = false ∧ (ev_kd z ≠ 0 → meth.name = (ev_y z).name) ∧ va_K D vwCl (ev_tys cy) s ∧ ev_F base ext s s.heap ∧ base ≤ s.heap.size ∧
  ev_own.getD (ev_own1 z) "" = (ev_y z).cls ∧ (ev_hh z ≠ [] → c.exceptionTable.toList = tableOf (ev_hh z)) ∧ ev_fr z ≤ R.frames ∧ ev_lo z ≤ R.locals ∧ l.stackTraces = false ∧ (va_X (ext ev_S) SL SX s s.heap ∧ ext ev_S < s.heap.size ∧ ext ev_S < base)
/-- the row at which an answer is returned -/
def ev_rat (z : ev_ME) (pc : Nat) (v : Option Value) : Prop := match v with
  | none => decode (ev_by z) pc = .ok (.return_, 1)
  | some (.int _) => decode (ev_by z) pc = .ok (.ireturn, 1)
  | some (.float _) => decode (ev_by z) pc = .ok (.freturn, 1)
  | some (.double _) => decode (ev_by z) pc = .ok (.dreturn, 1)
  | some (.ref _) => decode (ev_by z) pc = .ok (.areturn, 1)
  | some (.long _) => decode (ev_by z) pc = .ok (.lreturn, 1)
  | _ => False
/-- what is wanted of a walk's end -/
def ev_End (D : va_G) (cy : Nat → ClassId) (base : Nat) (ext : Nat → Nat) (SL : Nat) (SX : Nat → Int32) (l : Launch) (z : ev_ME) (p : Program) (e : Env) (R : Room) (s : State) (m : MethodId) (args : Array Value) (below : List Frame) (meth : Method) (c : Code) (o : Option Value ⊕ Nat) (w1 : ev_W) (K N : Nat) (Q : State → Prop) : Prop :=
  (∀ (v : Option Value) (H1 : Heap) (locs1 : List Loc) (L1 : Array Slot) (pc1 : Nat), o = .inl v → ev_M D cy base ext SL SX w1 H1 → va_S (ev_A base) s.heap H1 locs1 → ev_rok (ev_rt z) v = true → ev_rat z pc1 v → W p l e R s m args below meth c H1 locs1 K N Q (F0 m pc1 L1 ((v.map (ev_v base ext)).toList))) ∧
  (∀ E, o = .inr E → ∃ Qc XC mc ms, Q = vx_MQ below Qc XC args s mc ms (ev_A base) ∧ K ≤ mc ∧ N ≤ ms ∧ (ev_hh z = [] → ∀ x ∈ c.exceptionTable.toList, False) ∧ ∀ t : State, ev_M D cy base ext SL SX w1 t.heap → va_F (ev_A base) s t → XC (ev_ex E) s t)
/-- from this place the machine comes to that end -/
def ev_Snd (D : va_G) (cy : Nat → ClassId) (base : Nat) (ext : Nat → Nat) (SL : Nat) (SX : Nat → Int32) (l : Launch) (j pc : Nat) (ls : ev_L) (st : List Value) (w : ev_W) (o : Option Value ⊕ Nat) (w1 : ev_W) : Prop :=
  w_c w ≤ w_c w1 ∧ w_z w ≤ w_z w1 ∧ ∀ (z : ev_ME), ev_mel j = some z → ∀ (p : Program) (e : Env) (R : Room) (s : State) (m : MethodId) (args : Array Value) (below : List Frame) (meth : Method) (c : Code), ev_Cx D cy base ext SL SX l j z p R s m args meth c →
    ∀ (H : Heap) (locs : List Loc) (cells slots : Nat) (Q : State → Prop) (L : Array Slot) (K N : Nat), ev_M D cy base ext SL SX w H → va_S (ev_A base) s.heap H locs → ev_EL base ext L (ev_ml z) ls → cells + w_c w1 = K + w_c w → slots + w_z w1 = N + w_z w → K ≤ R.cells → N ≤ R.slots →
      ev_End D cy base ext SL SX l z p e R s m args below meth c o w1 K N Q → W p l e R s m args below meth c H locs cells slots Q (F0 m pc L (st.map (ev_v base ext)))
section SND
variable {D : va_G} {cy : Nat → ClassId} {base : Nat} {ext : Nat → Nat} {SL : Nat} {SX : Nat → Int32} {l : Launch} {j pc pc' : Nat} {ls ls' : ev_L} {st st' : List Value} {w w' : ev_W} {o : Option Value ⊕ Nat} {w1 : ev_W}
/-- a step that moves the stack alone -/
theorem ev_pstep (h : ev_Snd D cy base ext SL SX l j pc' ls st' w o w1) (k : ∀ (z : ev_ME), ev_mel j = some z → ∀ (p : Program) (e : Env) (R : Room) (s : State) (m : MethodId) (args : Array Value) (below : List Frame) (meth : Method) (c : Code), ev_Cx D cy base ext SL SX l j z p R s m args meth c →
    ∀ (H : Heap) (locs : List Loc) (cells slots : Nat) (Q : State → Prop) (L : Array Slot), ev_M D cy base ext SL SX w H → va_S (ev_A base) s.heap H locs → ev_EL base ext L (ev_ml z) ls → cells ≤ R.cells → slots ≤ R.slots → W p l e R s m args below meth c H locs cells slots Q (F0 m pc' L (st'.map (ev_v base ext))) → W p l e R s m args below meth c H locs cells slots Q (F0 m pc L (st.map (ev_v base ext)))) : ev_Snd D cy base ext SL SX l j pc ls st w o w1 := by
  refine ⟨h.1, h.2.1, fun z hz p e R s m args below meth c hC H locs cells slots Q L K N hM hS hE hc hs hK hN hend => ?_⟩
  have h1 := h.1
  have h2 := h.2.1
  exact k z hz p e R s m args below meth c hC H locs cells slots Q L hM hS hE (by omega) (by omega) (h.2.2 z hz p e R s m args below meth c hC H locs cells slots Q L K N hM hS hE hc hs hK hN hend)
/-- a step that stores a local -/
theorem ev_lstep (h : ev_Snd D cy base ext SL SX l j pc' ls' st' w o w1) (k : ∀ (z : ev_ME), ev_mel j = some z → ∀ (p : Program) (e : Env) (R : Room) (s : State) (m : MethodId) (args : Array Value) (below : List Frame) (meth : Method) (c : Code), ev_Cx D cy base ext SL SX l j z p R s m args meth c →
    ∀ (H : Heap) (locs : List Loc) (cells slots : Nat) (Q : State → Prop) (L : Array Slot), ev_EL base ext L (ev_ml z) ls → (∀ L' : Array Slot, ev_EL base ext L' (ev_ml z) ls' → W p l e R s m args below meth c H locs cells slots Q (F0 m pc' L' (st'.map (ev_v base ext)))) → W p l e R s m args below meth c H locs cells slots Q (F0 m pc L (st.map (ev_v base ext)))) : ev_Snd D cy base ext SL SX l j pc ls st w o w1 :=
  ⟨h.1, h.2.1, fun z hz p e R s m args below meth c hC H locs cells slots Q L K N hM hS hE hc hs hK hN hend => k z hz p e R s m args below meth c hC H locs cells slots Q L hE (fun L' hE' => h.2.2 z hz p e R s m args below meth c hC H locs cells slots Q L' K N hM hS hE' hc hs hK hN hend)⟩
/-- a step that writes to the heap, making nothing -/
theorem ev_mstep (hc : w_c w' = w_c w) (hz : w_z w' = w_z w) (h : ev_Snd D cy base ext SL SX l j pc' ls st' w' o w1) (k : ∀ (z : ev_ME), ev_mel j = some z → ∀ (p : Program) (e : Env) (R : Room) (s : State) (m : MethodId) (args : Array Value) (below : List Frame) (meth : Method) (c : Code), ev_Cx D cy base ext SL SX l j z p R s m args meth c →
    ∀ (H : Heap) (locs : List Loc) (cells slots : Nat) (Q : State → Prop) (L : Array Slot), ev_M D cy base ext SL SX w H → va_S (ev_A base) s.heap H locs → (∀ (H1 : Heap) (locs1 : List Loc), ev_M D cy base ext SL SX w' H1 → va_S (ev_A base) s.heap H1 locs1 → W p l e R s m args below meth c H1 locs1 cells slots Q (F0 m pc' L (st'.map (ev_v base ext)))) → W p l e R s m args below meth c H locs cells slots Q (F0 m pc L (st.map (ev_v base ext)))) : ev_Snd D cy base ext SL SX l j pc ls st w o w1 := by
  obtain ⟨h1, h2, h3⟩ := h
  rw [hc] at h1
  rw [hz] at h2
  exact ⟨h1, h2, fun z hz9 p e R s m args below meth c hC H locs cells slots Q L K N hM hS hE hcc hss hK hN hend => k z hz9 p e R s m args below meth c hC H locs cells slots Q L hM hS (fun H1 locs1 hM1 hS1 => h3 z hz9 p e R s m args below meth c hC H1 locs1 cells slots Q L K N hM1 hS1 hE (by rw [hc]; exact hcc) (by rw [hz]; exact hss) hK hN hend)⟩
/-- a step that makes one cell of n slots -/
theorem ev_nstep {n : Nat} (hc : w_c w' = w_c w + 1) (hz : w_z w' = w_z w + n) (h : ev_Snd D cy base ext SL SX l j pc' ls st' w' o w1) (k : ∀ (z : ev_ME), ev_mel j = some z → ∀ (p : Program) (e : Env) (R : Room) (s : State) (m : MethodId) (args : Array Value) (below : List Frame) (meth : Method) (c : Code), ev_Cx D cy base ext SL SX l j z p R s m args meth c →
    ∀ (H : Heap) (locs : List Loc) (cells slots : Nat) (Q : State → Prop) (L : Array Slot), ev_M D cy base ext SL SX w H → va_S (ev_A base) s.heap H locs → cells + 1 ≤ R.cells → slots + n ≤ R.slots → (∀ (H1 : Heap), ev_M D cy base ext SL SX w' H1 → va_S (ev_A base) s.heap H1 locs → W p l e R s m args below meth c H1 locs (cells + 1) (slots + n) Q (F0 m pc' L (st'.map (ev_v base ext)))) → W p l e R s m args below meth c H locs cells slots Q (F0 m pc L (st.map (ev_v base ext)))) : ev_Snd D cy base ext SL SX l j pc ls st w o w1 := by
  obtain ⟨h1, h2, h3⟩ := h
  rw [hc] at h1
  rw [hz] at h2
  refine ⟨by omega, by omega, fun z hz9 p e R s m args below meth c hC H locs cells slots Q L K N hM hS hE hcc hss hK hN hend => k z hz9 p e R s m args below meth c hC H locs cells slots Q L hM hS (by omega) (by omega) (fun H1 hM1 hS1 => h3 z hz9 p e R s m args below meth c hC H1 locs (cells + 1) (slots + n) Q L K N hM1 hS1 hE (by rw [hc]; omega) (by rw [hz]; omega) hK hN hend)⟩
/-- a return -/
theorem ev_rstep {v : Option Value} (hv : (v.map (ev_v base ext)).toList = st.map (ev_v base ext)) (hr : ∀ z, ev_mel j = some z → ev_rok (ev_rt z) v = true ∧ ev_rat z pc v) : ev_Snd D cy base ext SL SX l j pc ls st w (.inl v) w := by
  refine ⟨Nat.le_refl _, Nat.le_refl _, fun z hz p e R s m args below meth c hC H locs cells slots Q L K N hM hS hE hc hs hK hN hend => ?_⟩
  have e1 : cells = K := by omega
  have e2 : slots = N := by omega
  subst e1; subst e2
  rw [← hv]
  exact hend.1 v H locs L pc rfl hM hS (hr z hz).1 (hr z hz).2
end SND
end
section
/-! one law an instruction, by wip/gen/ins.py -/
section INS
variable {D : va_G} {cy : Nat → ClassId} {base : Nat} {ext : Nat → Nat} {SL : Nat} {SX : Nat → Int32} {l : Launch} {j pc : Nat} {ls : ev_L} {r st : List Value} {w : ev_W} {o : Option Value ⊕ Nat} {w1 : ev_W}
theorem ev_x_iconst {n : Int} (hd : ∀ z, ev_mel j = some z → decode (ev_by z) pc = .ok (.iconst n, 1)) (h : ev_Snd D cy base ext SL SX l j (pc + 1) ls (.int (Int32.ofInt n) :: st) w o w1) : ev_Snd D cy base ext SL SX l j pc ls (st) w o w1 := ev_pstep h (fun z hz p e R s m args below meth c hC H locs cells slots Q L hM hS hE hcR hsR k => lv_iconst hC.1 hC.2.1 (hd z hz) rfl k)
theorem ev_x_bipush {n : Int} (hd : ∀ z, ev_mel j = some z → decode (ev_by z) pc = .ok (.bipush n, 2)) (h : ev_Snd D cy base ext SL SX l j (pc + 2) ls (.int (Int8.ofInt n).toInt32 :: st) w o w1) : ev_Snd D cy base ext SL SX l j pc ls (st) w o w1 := ev_pstep h (fun z hz p e R s m args below meth c hC H locs cells slots Q L hM hS hE hcR hsR k => lv_bipush hC.1 hC.2.1 (hd z hz) rfl k)
theorem ev_x_sipush {n : Int} (hd : ∀ z, ev_mel j = some z → decode (ev_by z) pc = .ok (.sipush n, 3)) (h : ev_Snd D cy base ext SL SX l j (pc + 3) ls (.int (Int16.ofInt n).toInt32 :: st) w o w1) : ev_Snd D cy base ext SL SX l j pc ls (st) w o w1 := ev_pstep h (fun z hz p e R s m args below meth c hC H locs cells slots Q L hM hS hE hcR hsR k => lv_sipush hC.1 hC.2.1 (hd z hz) rfl k)
theorem ev_x_iadd {x y : Int32} (hd : ∀ z, ev_mel j = some z → decode (ev_by z) pc = .ok (.iadd, 1)) (h : ev_Snd D cy base ext SL SX l j (pc + 1) ls (.int (x + y) :: r) w o w1) : ev_Snd D cy base ext SL SX l j pc ls (.int y :: .int x :: r) w o w1 := ev_pstep h (fun z hz p e R s m args below meth c hC H locs cells slots Q L hM hS hE hcR hsR k => lv_iadd hC.1 hC.2.1 (hd z hz) k)
theorem ev_x_isub {x y : Int32} (hd : ∀ z, ev_mel j = some z → decode (ev_by z) pc = .ok (.isub, 1)) (h : ev_Snd D cy base ext SL SX l j (pc + 1) ls (.int (x - y) :: r) w o w1) : ev_Snd D cy base ext SL SX l j pc ls (.int y :: .int x :: r) w o w1 := ev_pstep h (fun z hz p e R s m args below meth c hC H locs cells slots Q L hM hS hE hcR hsR k => lv_isub hC.1 hC.2.1 (hd z hz) k)
theorem ev_x_imul {x y : Int32} (hd : ∀ z, ev_mel j = some z → decode (ev_by z) pc = .ok (.imul, 1)) (h : ev_Snd D cy base ext SL SX l j (pc + 1) ls (.int (x * y) :: r) w o w1) : ev_Snd D cy base ext SL SX l j pc ls (.int y :: .int x :: r) w o w1 := ev_pstep h (fun z hz p e R s m args below meth c hC H locs cells slots Q L hM hS hE hcR hsR k => lv_imul hC.1 hC.2.1 (hd z hz) k)
theorem ev_x_iand {x y : Int32} (hd : ∀ z, ev_mel j = some z → decode (ev_by z) pc = .ok (.iand, 1)) (h : ev_Snd D cy base ext SL SX l j (pc + 1) ls (.int (x &&& y) :: r) w o w1) : ev_Snd D cy base ext SL SX l j pc ls (.int y :: .int x :: r) w o w1 := ev_pstep h (fun z hz p e R s m args below meth c hC H locs cells slots Q L hM hS hE hcR hsR k => lv_iand hC.1 hC.2.1 (hd z hz) k)
theorem ev_x_ior {x y : Int32} (hd : ∀ z, ev_mel j = some z → decode (ev_by z) pc = .ok (.ior, 1)) (h : ev_Snd D cy base ext SL SX l j (pc + 1) ls (.int (x ||| y) :: r) w o w1) : ev_Snd D cy base ext SL SX l j pc ls (.int y :: .int x :: r) w o w1 := ev_pstep h (fun z hz p e R s m args below meth c hC H locs cells slots Q L hM hS hE hcR hsR k => lv_ior hC.1 hC.2.1 (hd z hz) k)
theorem ev_x_ixor {x y : Int32} (hd : ∀ z, ev_mel j = some z → decode (ev_by z) pc = .ok (.ixor, 1)) (h : ev_Snd D cy base ext SL SX l j (pc + 1) ls (.int (x ^^^ y) :: r) w o w1) : ev_Snd D cy base ext SL SX l j pc ls (.int y :: .int x :: r) w o w1 := ev_pstep h (fun z hz p e R s m args below meth c hC H locs cells slots Q L hM hS hE hcR hsR k => lv_ixor hC.1 hC.2.1 (hd z hz) k)
theorem ev_x_ishl {x y : Int32} (hd : ∀ z, ev_mel j = some z → decode (ev_by z) pc = .ok (.ishl, 1)) (h : ev_Snd D cy base ext SL SX l j (pc + 1) ls (.int (x <<< (y &&& 31)) :: r) w o w1) : ev_Snd D cy base ext SL SX l j pc ls (.int y :: .int x :: r) w o w1 := ev_pstep h (fun z hz p e R s m args below meth c hC H locs cells slots Q L hM hS hE hcR hsR k => lv_ishl hC.1 hC.2.1 (hd z hz) k)
theorem ev_x_ishr {x y : Int32} (hd : ∀ z, ev_mel j = some z → decode (ev_by z) pc = .ok (.ishr, 1)) (h : ev_Snd D cy base ext SL SX l j (pc + 1) ls (.int (x >>> (y &&& 31)) :: r) w o w1) : ev_Snd D cy base ext SL SX l j pc ls (.int y :: .int x :: r) w o w1 := ev_pstep h (fun z hz p e R s m args below meth c hC H locs cells slots Q L hM hS hE hcR hsR k => lv_ishr hC.1 hC.2.1 (hd z hz) k)
theorem ev_x_idiv {x y : Int32} (hne : ¬ y = 0) (hd : ∀ z, ev_mel j = some z → decode (ev_by z) pc = .ok (.idiv, 1)) (h : ev_Snd D cy base ext SL SX l j (pc + 1) ls (.int (x / y) :: r) w o w1) : ev_Snd D cy base ext SL SX l j pc ls (.int y :: .int x :: r) w o w1 := ev_pstep h (fun z hz p e R s m args below meth c hC H locs cells slots Q L hM hS hE hcR hsR k => lv_idiv hC.1 hC.2.1 (hd z hz) hne k)
theorem ev_x_irem {x y : Int32} (hne : ¬ y = 0) (hd : ∀ z, ev_mel j = some z → decode (ev_by z) pc = .ok (.irem, 1)) (h : ev_Snd D cy base ext SL SX l j (pc + 1) ls (.int (x - x / y * y) :: r) w o w1) : ev_Snd D cy base ext SL SX l j pc ls (.int y :: .int x :: r) w o w1 := ev_pstep h (fun z hz p e R s m args below meth c hC H locs cells slots Q L hM hS hE hcR hsR k => lv_irem hC.1 hC.2.1 (hd z hz) hne k)
theorem ev_x_i2l {x : Int32} (hd : ∀ z, ev_mel j = some z → decode (ev_by z) pc = .ok (.i2l, 1)) (h : ev_Snd D cy base ext SL SX l j (pc + 1) ls (.long x.toInt64 :: r) w o w1) : ev_Snd D cy base ext SL SX l j pc ls (.int x :: r) w o w1 := ev_pstep h (fun z hz p e R s m args below meth c hC H locs cells slots Q L hM hS hE hcR hsR k => lv_i2l hC.1 hC.2.1 (hd z hz) rfl k)
theorem ev_x_i2b {x : Int32} (hd : ∀ z, ev_mel j = some z → decode (ev_by z) pc = .ok (.i2b, 1)) (h : ev_Snd D cy base ext SL SX l j (pc + 1) ls (.int x.toInt8.toInt32 :: r) w o w1) : ev_Snd D cy base ext SL SX l j pc ls (.int x :: r) w o w1 := ev_pstep h (fun z hz p e R s m args below meth c hC H locs cells slots Q L hM hS hE hcR hsR k => lv_i2b hC.1 hC.2.1 (hd z hz) rfl k)
theorem ev_x_i2f {x : Int32} (hd : ∀ z, ev_mel j = some z → decode (ev_by z) pc = .ok (.i2f, 1)) (h : ev_Snd D cy base ext SL SX l j (pc + 1) ls (.float (FP.i2f x) :: r) w o w1) : ev_Snd D cy base ext SL SX l j pc ls (.int x :: r) w o w1 := ev_pstep h (fun z hz p e R s m args below meth c hC H locs cells slots Q L hM hS hE hcR hsR k => lv_i2f hC.1 hC.2.1 (hd z hz) k)
theorem ev_x_i2d {x : Int32} (hd : ∀ z, ev_mel j = some z → decode (ev_by z) pc = .ok (.i2d, 1)) (h : ev_Snd D cy base ext SL SX l j (pc + 1) ls (.double (FP.i2d x) :: r) w o w1) : ev_Snd D cy base ext SL SX l j pc ls (.int x :: r) w o w1 := ev_pstep h (fun z hz p e R s m args below meth c hC H locs cells slots Q L hM hS hE hcR hsR k => lv_i2d hC.1 hC.2.1 (hd z hz) k)
theorem ev_x_lcmp {x y : Int64} (hd : ∀ z, ev_mel j = some z → decode (ev_by z) pc = .ok (.lcmp, 1)) (h : ev_Snd D cy base ext SL SX l j (pc + 1) ls (.int (lg_cmp x y) :: r) w o w1) : ev_Snd D cy base ext SL SX l j pc ls (.long y :: .long x :: r) w o w1 := ev_pstep h (fun z hz p e R s m args below meth c hC H locs cells slots Q L hM hS hE hcR hsR k => W.lcmp hC.1 hC.2.1 (hd z hz) k)
theorem ev_x_fconst  (hd : ∀ z, ev_mel j = some z → decode (ev_by z) pc = .ok (.fconst 0, 1)) (h : ev_Snd D cy base ext SL SX l j (pc + 1) ls (.float FP.fconst0 :: st) w o w1) : ev_Snd D cy base ext SL SX l j pc ls (st) w o w1 := ev_pstep h (fun z hz p e R s m args below meth c hC H locs cells slots Q L hM hS hE hcR hsR k => lv_fconst0 hC.1 hC.2.1 (hd z hz) k)
theorem ev_x_dconst  (hd : ∀ z, ev_mel j = some z → decode (ev_by z) pc = .ok (.dconst 0, 1)) (h : ev_Snd D cy base ext SL SX l j (pc + 1) ls (.double FP.dconst0 :: st) w o w1) : ev_Snd D cy base ext SL SX l j pc ls (st) w o w1 := ev_pstep h (fun z hz p e R s m args below meth c hC H locs cells slots Q L hM hS hE hcR hsR k => lv_dconst0 hC.1 hC.2.1 (hd z hz) k)
theorem ev_x_dup {v : Value} (hv : v.category = 1) (hd : ∀ z, ev_mel j = some z → decode (ev_by z) pc = .ok (.dup, 1)) (h : ev_Snd D cy base ext SL SX l j (pc + 1) ls (v :: v :: r) w o w1) : ev_Snd D cy base ext SL SX l j pc ls (v :: r) w o w1 := ev_pstep h (fun z hz p e R s m args below meth c hC H locs cells slots Q L hM hS hE hcR hsR k => lv_dup hC.1 hC.2.1 (hd z hz) (by rw [ev_v_cat]; exact hv) k)
theorem ev_x_pop {v : Value} (hv : v.category = 1) (hd : ∀ z, ev_mel j = some z → decode (ev_by z) pc = .ok (.pop, 1)) (h : ev_Snd D cy base ext SL SX l j (pc + 1) ls (r) w o w1) : ev_Snd D cy base ext SL SX l j pc ls (v :: r) w o w1 := ev_pstep h (fun z hz p e R s m args below meth c hC H locs cells slots Q L hM hS hE hcR hsR k => lv_pop hC.1 hC.2.1 (hd z hz) (by rw [ev_v_cat]; exact hv) k)
theorem ev_x_dup2 {v u : Value} (hv : v.category = 1) (hu : u.category = 1) (hd : ∀ z, ev_mel j = some z → decode (ev_by z) pc = .ok (.dup2, 1)) (h : ev_Snd D cy base ext SL SX l j (pc + 1) ls (v :: u :: v :: u :: r) w o w1) : ev_Snd D cy base ext SL SX l j pc ls (v :: u :: r) w o w1 := ev_pstep h (fun z hz p e R s m args below meth c hC H locs cells slots Q L hM hS hE hcR hsR k => lv_dup2_11 hC.1 hC.2.1 (hd z hz) (by rw [ev_v_cat]; exact hv) (by rw [ev_v_cat]; exact hu) k)
theorem ev_x_goto {off : Int} {q : Nat} (hq : (pc : Int) + off = (q : Int)) (hd : ∀ z, ev_mel j = some z → decode (ev_by z) pc = .ok (.goto off, 3)) (h : ev_Snd D cy base ext SL SX l j q ls (st) w o w1) : ev_Snd D cy base ext SL SX l j pc ls (st) w o w1 := ev_pstep h (fun z hz p e R s m args below meth c hC H locs cells slots Q L hM hS hE hcR hsR k => lv_goto hC.1 hC.2.1 (hd z hz) hq k)
theorem ev_x_iload_n {x : Int32} {q : Fin 4} (hl : ls[(q : Nat)]? = some (some (.int x))) (hd : ∀ z, ev_mel j = some z → decode (ev_by z) pc = .ok (.iload_n q, 1)) (h : ev_Snd D cy base ext SL SX l j (pc + 1) ls (.int x :: st) w o w1) : ev_Snd D cy base ext SL SX l j pc ls (st) w o w1 := ev_pstep h (fun z hz p e R s m args below meth c hC H locs cells slots Q L hM hS hE hcR hsR k => lv_iload_n hC.1 hC.2.1 (hd z hz) rfl (hE.2.2.2 _ _ hl) k)
theorem ev_x_iload {x : Int32} {i : Nat} (hl : ls[i]? = some (some (.int x))) (hd : ∀ z, ev_mel j = some z → decode (ev_by z) pc = .ok (.iload i, 2)) (h : ev_Snd D cy base ext SL SX l j (pc + 2) ls (.int x :: st) w o w1) : ev_Snd D cy base ext SL SX l j pc ls (st) w o w1 := ev_pstep h (fun z hz p e R s m args below meth c hC H locs cells slots Q L hM hS hE hcR hsR k => lv_iload hC.1 hC.2.1 (hd z hz) (hE.2.2.2 _ _ hl) k)
theorem ev_x_aload_n {x : Nat} {q : Fin 4} (hl : ls[(q : Nat)]? = some (some (.ref x))) (hd : ∀ z, ev_mel j = some z → decode (ev_by z) pc = .ok (.aload_n q, 1)) (h : ev_Snd D cy base ext SL SX l j (pc + 1) ls (.ref x :: st) w o w1) : ev_Snd D cy base ext SL SX l j pc ls (st) w o w1 := ev_pstep h (fun z hz p e R s m args below meth c hC H locs cells slots Q L hM hS hE hcR hsR k => lv_aload_n hC.1 hC.2.1 (hd z hz) rfl (hE.2.2.2 _ _ hl) k)
theorem ev_x_aload {x : Nat} {i : Nat} (hl : ls[i]? = some (some (.ref x))) (hd : ∀ z, ev_mel j = some z → decode (ev_by z) pc = .ok (.aload i, 2)) (h : ev_Snd D cy base ext SL SX l j (pc + 2) ls (.ref x :: st) w o w1) : ev_Snd D cy base ext SL SX l j pc ls (st) w o w1 := ev_pstep h (fun z hz p e R s m args below meth c hC H locs cells slots Q L hM hS hE hcR hsR k => lv_aload hC.1 hC.2.1 (hd z hz) (hE.2.2.2 _ _ hl) k)
theorem ev_x_fload {x : UInt32} {i : Nat} (hl : ls[i]? = some (some (.float x))) (hd : ∀ z, ev_mel j = some z → decode (ev_by z) pc = .ok (.fload i, 2)) (h : ev_Snd D cy base ext SL SX l j (pc + 2) ls (.float x :: st) w o w1) : ev_Snd D cy base ext SL SX l j pc ls (st) w o w1 := ev_pstep h (fun z hz p e R s m args below meth c hC H locs cells slots Q L hM hS hE hcR hsR k => lv_fload hC.1 hC.2.1 (hd z hz) (hE.2.2.2 _ _ hl) k)
theorem ev_x_dload {x : UInt64} {i : Nat} (hl : ls[i]? = some (some (.double x))) (hd : ∀ z, ev_mel j = some z → decode (ev_by z) pc = .ok (.dload i, 2)) (h : ev_Snd D cy base ext SL SX l j (pc + 2) ls (.double x :: st) w o w1) : ev_Snd D cy base ext SL SX l j pc ls (st) w o w1 := ev_pstep h (fun z hz p e R s m args below meth c hC H locs cells slots Q L hM hS hE hcR hsR k => lv_dload hC.1 hC.2.1 (hd z hz) (hE.2.2.2 _ _ hl) k)
theorem ev_x_aload_nN {q : Fin 4} (hl : ls[(q : Nat)]? = some (some .null)) (hd : ∀ z, ev_mel j = some z → decode (ev_by z) pc = .ok (.aload_n q, 1)) (h : ev_Snd D cy base ext SL SX l j (pc + 1) ls (.null :: st) w o w1) : ev_Snd D cy base ext SL SX l j pc ls (st) w o w1 := ev_pstep h (fun z hz p e R s m args below meth c hC H locs cells slots Q L hM hS hE hcR hsR k => lv_aload_nN hC.1 hC.2.1 (hd z hz) rfl (hE.2.2.2 _ _ hl) k)
theorem ev_x_aloadN {i : Nat} (hl : ls[i]? = some (some .null)) (hd : ∀ z, ev_mel j = some z → decode (ev_by z) pc = .ok (.aload i, 2)) (h : ev_Snd D cy base ext SL SX l j (pc + 2) ls (.null :: st) w o w1) : ev_Snd D cy base ext SL SX l j pc ls (st) w o w1 := ev_pstep h (fun z hz p e R s m args below meth c hC H locs cells slots Q L hM hS hE hcR hsR k => lv_aloadN hC.1 hC.2.1 (hd z hz) (hE.2.2.2 _ _ hl) k)
theorem ev_x_istore_n {x : Int32} {q : Fin 4} (hd : ∀ z, ev_mel j = some z → decode (ev_by z) pc = .ok (.istore_n q, 1)) (hi : (q : Nat) < ls.length) (hc1 : ev_c1 ls (q : Nat) = true) (h : ev_Snd D cy base ext SL SX l j (pc + 1) (ev_sto ls (q : Nat) (.int x)) (r) w o w1) : ev_Snd D cy base ext SL SX l j pc ls (.int x :: r) w o w1 := ev_lstep h (fun z hz p e R s m args below meth c hC H locs cells slots Q L hE k => lv_istore_n hC.1 hC.2.1 (hd z hz) rfl (ev_EL_has hE) (by rw [← hE.1]; exact hi) rfl (fun L2 h2 => k L2 (ev_EL_st1 hE hi hc1 h2)))
theorem ev_x_istore {x : Int32} {i : Nat} (hd : ∀ z, ev_mel j = some z → decode (ev_by z) pc = .ok (.istore i, 2)) (hi : i < ls.length) (hc1 : ev_c1 ls i = true) (h : ev_Snd D cy base ext SL SX l j (pc + 2) (ev_sto ls i (.int x)) (r) w o w1) : ev_Snd D cy base ext SL SX l j pc ls (.int x :: r) w o w1 := ev_lstep h (fun z hz p e R s m args below meth c hC H locs cells slots Q L hE k => lv_istore hC.1 hC.2.1 (hd z hz) (ev_EL_has hE) (by rw [← hE.1]; exact hi) rfl (fun L2 h2 => k L2 (ev_EL_st1 hE hi hc1 h2)))
theorem ev_x_astore_n {x : Nat} {q : Fin 4} (hd : ∀ z, ev_mel j = some z → decode (ev_by z) pc = .ok (.astore_n q, 1)) (hi : (q : Nat) < ls.length) (hc1 : ev_c1 ls (q : Nat) = true) (h : ev_Snd D cy base ext SL SX l j (pc + 1) (ev_sto ls (q : Nat) (.ref x)) (r) w o w1) : ev_Snd D cy base ext SL SX l j pc ls (.ref x :: r) w o w1 := ev_lstep h (fun z hz p e R s m args below meth c hC H locs cells slots Q L hE k => lv_astore_n hC.1 hC.2.1 (hd z hz) rfl (ev_EL_has hE) (by rw [← hE.1]; exact hi) rfl (fun L2 h2 => k L2 (ev_EL_st1 hE hi hc1 h2)))
theorem ev_x_astore {x : Nat} {i : Nat} (hd : ∀ z, ev_mel j = some z → decode (ev_by z) pc = .ok (.astore i, 2)) (hi : i < ls.length) (hc1 : ev_c1 ls i = true) (h : ev_Snd D cy base ext SL SX l j (pc + 2) (ev_sto ls i (.ref x)) (r) w o w1) : ev_Snd D cy base ext SL SX l j pc ls (.ref x :: r) w o w1 := ev_lstep h (fun z hz p e R s m args below meth c hC H locs cells slots Q L hE k => lv_astore hC.1 hC.2.1 (hd z hz) (ev_EL_has hE) (by rw [← hE.1]; exact hi) rfl (fun L2 h2 => k L2 (ev_EL_st1 hE hi hc1 h2)))
theorem ev_x_fstore {x : UInt32} {i : Nat} (hd : ∀ z, ev_mel j = some z → decode (ev_by z) pc = .ok (.fstore i, 2)) (hi : i < ls.length) (hc1 : ev_c1 ls i = true) (h : ev_Snd D cy base ext SL SX l j (pc + 2) (ev_sto ls i (.float x)) (r) w o w1) : ev_Snd D cy base ext SL SX l j pc ls (.float x :: r) w o w1 := ev_lstep h (fun z hz p e R s m args below meth c hC H locs cells slots Q L hE k => lv_fstore hC.1 hC.2.1 (hd z hz) (ev_EL_has hE) (by rw [← hE.1]; exact hi) rfl (fun L2 h2 => k L2 (ev_EL_st1 hE hi hc1 h2)))
theorem ev_x_dstore {x : UInt64} {i : Nat} (hd : ∀ z, ev_mel j = some z → decode (ev_by z) pc = .ok (.dstore i, 2)) (hi : i + 1 < ls.length) (hc1 : ev_c1 ls i = true) (h : ev_Snd D cy base ext SL SX l j (pc + 2) ((ev_sto ls i (.double x)).set (i + 1) none) r w o w1) : ev_Snd D cy base ext SL SX l j pc ls (.double x :: r) w o w1 := ev_lstep h (fun z hz p e R s m args below meth c hC H locs cells slots Q L hE k => lv_dstore hC.1 hC.2.1 (hd z hz) (ev_EL_has hE) (by rw [← hE.1]; exact hi) rfl (fun L2 h2 => k L2 (ev_EL_st2 hE hi hc1 h2)))
theorem ev_x_iinc {x : Int32} {i : Nat} {n : Int} (hd : ∀ z, ev_mel j = some z → decode (ev_by z) pc = .ok (.iinc i n, 3)) (hl : ls[i]? = some (some (.int x))) (hc1 : ev_c1 ls i = true) (h : ev_Snd D cy base ext SL SX l j (pc + 3) (ev_sto ls i (.int (x + Int32.ofInt n))) st w o w1) : ev_Snd D cy base ext SL SX l j pc ls st w o w1 := ev_lstep h (fun z hz p e R s m args below meth c hC H locs cells slots Q L hE k => by
  have hi : i < ls.length := (List.getElem?_eq_some_iff.mp hl).1
  obtain ⟨kk, hkk⟩ := List.getElem?_of_mem (ev_prs_mem (base := base) (ext := ext) (ls := ls) (q := (i, .int x)) |>.mpr ⟨.int x, hl, rfl⟩)
  exact lv_iinc hC.1 hC.2.1 (hd z hz) (ev_EL_has hE) hkk rfl (by rw [← hE.1]; exact hi) rfl (fun L2 h2 => k L2 (ev_EL_st1 hE hi hc1 h2)))
theorem ev_x_if_eq {x : Int32} {off : Int} {q : Nat} (hd : ∀ z, ev_mel j = some z → decode (ev_by z) pc = .ok (.ifCond .eq off, 3)) (hq : (pc : Int) + off = (q : Int)) (h : ev_Snd D cy base ext SL SX l j (bif ev_t1 .eq x then q else pc + 3) ls r w o w1) : ev_Snd D cy base ext SL SX l j pc ls (.int x :: r) w o w1 := ev_pstep h (fun z hz p e R s m args below meth c hC H locs cells slots Q L hM hS hE hcR hsR k => by
  by_cases hx : x = 0
  · rw [show ev_t1 .eq x = true from decide_eq_true hx] at k
    exact lv_if_eq hC.1 hC.2.1 (hd z hz) hq (fun _ => k) (fun h9 => (by first | exact absurd hx h9 | exact absurd h9 hx))
  · rw [show ev_t1 .eq x = false from decide_eq_false hx] at k
    exact lv_if_eq hC.1 hC.2.1 (hd z hz) hq (fun h9 => absurd h9 hx) (fun _ => k))
theorem ev_x_if_ne {x : Int32} {off : Int} {q : Nat} (hd : ∀ z, ev_mel j = some z → decode (ev_by z) pc = .ok (.ifCond .ne off, 3)) (hq : (pc : Int) + off = (q : Int)) (h : ev_Snd D cy base ext SL SX l j (bif ev_t1 .ne x then q else pc + 3) ls r w o w1) : ev_Snd D cy base ext SL SX l j pc ls (.int x :: r) w o w1 := ev_pstep h (fun z hz p e R s m args below meth c hC H locs cells slots Q L hM hS hE hcR hsR k => by
  by_cases hx : ¬ x = 0
  · rw [show ev_t1 .ne x = true from decide_eq_true hx] at k
    exact lv_if_ne hC.1 hC.2.1 (hd z hz) hq (fun _ => k) (fun h9 => (by first | exact absurd hx h9 | exact absurd h9 hx))
  · rw [show ev_t1 .ne x = false from decide_eq_false hx] at k
    exact lv_if_ne hC.1 hC.2.1 (hd z hz) hq (fun h9 => absurd h9 hx) (fun _ => k))
theorem ev_x_if_lt {x : Int32} {off : Int} {q : Nat} (hd : ∀ z, ev_mel j = some z → decode (ev_by z) pc = .ok (.ifCond .lt off, 3)) (hq : (pc : Int) + off = (q : Int)) (h : ev_Snd D cy base ext SL SX l j (bif ev_t1 .lt x then q else pc + 3) ls r w o w1) : ev_Snd D cy base ext SL SX l j pc ls (.int x :: r) w o w1 := ev_pstep h (fun z hz p e R s m args below meth c hC H locs cells slots Q L hM hS hE hcR hsR k => by
  by_cases hx : x < 0
  · rw [show ev_t1 .lt x = true from decide_eq_true hx] at k
    exact lv_if_lt hC.1 hC.2.1 (hd z hz) hq (fun _ => k) (fun h9 => (by first | exact absurd hx h9 | exact absurd h9 hx))
  · rw [show ev_t1 .lt x = false from decide_eq_false hx] at k
    exact lv_if_lt hC.1 hC.2.1 (hd z hz) hq (fun h9 => absurd h9 hx) (fun _ => k))
theorem ev_x_if_ge {x : Int32} {off : Int} {q : Nat} (hd : ∀ z, ev_mel j = some z → decode (ev_by z) pc = .ok (.ifCond .ge off, 3)) (hq : (pc : Int) + off = (q : Int)) (h : ev_Snd D cy base ext SL SX l j (bif ev_t1 .ge x then q else pc + 3) ls r w o w1) : ev_Snd D cy base ext SL SX l j pc ls (.int x :: r) w o w1 := ev_pstep h (fun z hz p e R s m args below meth c hC H locs cells slots Q L hM hS hE hcR hsR k => by
  by_cases hx : 0 ≤ x
  · rw [show ev_t1 .ge x = true from decide_eq_true hx] at k
    exact lv_if_ge hC.1 hC.2.1 (hd z hz) hq (fun _ => k) (fun h9 => (by first | exact absurd hx h9 | exact absurd h9 hx))
  · rw [show ev_t1 .ge x = false from decide_eq_false hx] at k
    exact lv_if_ge hC.1 hC.2.1 (hd z hz) hq (fun h9 => absurd h9 hx) (fun _ => k))
theorem ev_x_if_gt {x : Int32} {off : Int} {q : Nat} (hd : ∀ z, ev_mel j = some z → decode (ev_by z) pc = .ok (.ifCond .gt off, 3)) (hq : (pc : Int) + off = (q : Int)) (h : ev_Snd D cy base ext SL SX l j (bif ev_t1 .gt x then q else pc + 3) ls r w o w1) : ev_Snd D cy base ext SL SX l j pc ls (.int x :: r) w o w1 := ev_pstep h (fun z hz p e R s m args below meth c hC H locs cells slots Q L hM hS hE hcR hsR k => by
  by_cases hx : 0 < x
  · rw [show ev_t1 .gt x = true from decide_eq_true hx] at k
    exact lv_if_gt hC.1 hC.2.1 (hd z hz) hq (fun _ => k) (fun h9 => (by first | exact absurd hx h9 | exact absurd h9 hx))
  · rw [show ev_t1 .gt x = false from decide_eq_false hx] at k
    exact lv_if_gt hC.1 hC.2.1 (hd z hz) hq (fun h9 => absurd h9 hx) (fun _ => k))
theorem ev_x_if_le {x : Int32} {off : Int} {q : Nat} (hd : ∀ z, ev_mel j = some z → decode (ev_by z) pc = .ok (.ifCond .le off, 3)) (hq : (pc : Int) + off = (q : Int)) (h : ev_Snd D cy base ext SL SX l j (bif ev_t1 .le x then q else pc + 3) ls r w o w1) : ev_Snd D cy base ext SL SX l j pc ls (.int x :: r) w o w1 := ev_pstep h (fun z hz p e R s m args below meth c hC H locs cells slots Q L hM hS hE hcR hsR k => by
  by_cases hx : x ≤ 0
  · rw [show ev_t1 .le x = true from decide_eq_true hx] at k
    exact lv_if_le hC.1 hC.2.1 (hd z hz) hq (fun _ => k) (fun h9 => (by first | exact absurd hx h9 | exact absurd h9 hx))
  · rw [show ev_t1 .le x = false from decide_eq_false hx] at k
    exact lv_if_le hC.1 hC.2.1 (hd z hz) hq (fun h9 => absurd h9 hx) (fun _ => k))
theorem ev_x_icmp_eq {x y : Int32} {off : Int} {q : Nat} (hd : ∀ z, ev_mel j = some z → decode (ev_by z) pc = .ok (.if_icmp .eq off, 3)) (hq : (pc : Int) + off = (q : Int)) (h : ev_Snd D cy base ext SL SX l j (bif ev_t2 .eq x y then q else pc + 3) ls r w o w1) : ev_Snd D cy base ext SL SX l j pc ls (.int y :: .int x :: r) w o w1 := ev_pstep h (fun z hz p e R s m args below meth c hC H locs cells slots Q L hM hS hE hcR hsR k => by
  by_cases hx : x = y
  · rw [show ev_t2 .eq x y = true from decide_eq_true hx] at k
    exact lv_icmp_eq hC.1 hC.2.1 (hd z hz) hq (fun _ => k) (fun h9 => (by first | exact absurd hx h9 | exact absurd h9 hx))
  · rw [show ev_t2 .eq x y = false from decide_eq_false hx] at k
    exact lv_icmp_eq hC.1 hC.2.1 (hd z hz) hq (fun h9 => absurd h9 hx) (fun _ => k))
theorem ev_x_icmp_ne {x y : Int32} {off : Int} {q : Nat} (hd : ∀ z, ev_mel j = some z → decode (ev_by z) pc = .ok (.if_icmp .ne off, 3)) (hq : (pc : Int) + off = (q : Int)) (h : ev_Snd D cy base ext SL SX l j (bif ev_t2 .ne x y then q else pc + 3) ls r w o w1) : ev_Snd D cy base ext SL SX l j pc ls (.int y :: .int x :: r) w o w1 := ev_pstep h (fun z hz p e R s m args below meth c hC H locs cells slots Q L hM hS hE hcR hsR k => by
  by_cases hx : ¬ x = y
  · rw [show ev_t2 .ne x y = true from decide_eq_true hx] at k
    exact lv_icmp_ne hC.1 hC.2.1 (hd z hz) hq (fun _ => k) (fun h9 => (by first | exact absurd hx h9 | exact absurd h9 hx))
  · rw [show ev_t2 .ne x y = false from decide_eq_false hx] at k
    exact lv_icmp_ne hC.1 hC.2.1 (hd z hz) hq (fun h9 => absurd h9 hx) (fun _ => k))
theorem ev_x_icmp_lt {x y : Int32} {off : Int} {q : Nat} (hd : ∀ z, ev_mel j = some z → decode (ev_by z) pc = .ok (.if_icmp .lt off, 3)) (hq : (pc : Int) + off = (q : Int)) (h : ev_Snd D cy base ext SL SX l j (bif ev_t2 .lt x y then q else pc + 3) ls r w o w1) : ev_Snd D cy base ext SL SX l j pc ls (.int y :: .int x :: r) w o w1 := ev_pstep h (fun z hz p e R s m args below meth c hC H locs cells slots Q L hM hS hE hcR hsR k => by
  by_cases hx : x < y
  · rw [show ev_t2 .lt x y = true from decide_eq_true hx] at k
    exact lv_icmp_lt hC.1 hC.2.1 (hd z hz) hq (fun _ => k) (fun h9 => (by first | exact absurd hx h9 | exact absurd h9 hx))
  · rw [show ev_t2 .lt x y = false from decide_eq_false hx] at k
    exact lv_icmp_lt hC.1 hC.2.1 (hd z hz) hq (fun h9 => absurd h9 hx) (fun _ => k))
theorem ev_x_icmp_ge {x y : Int32} {off : Int} {q : Nat} (hd : ∀ z, ev_mel j = some z → decode (ev_by z) pc = .ok (.if_icmp .ge off, 3)) (hq : (pc : Int) + off = (q : Int)) (h : ev_Snd D cy base ext SL SX l j (bif ev_t2 .ge x y then q else pc + 3) ls r w o w1) : ev_Snd D cy base ext SL SX l j pc ls (.int y :: .int x :: r) w o w1 := ev_pstep h (fun z hz p e R s m args below meth c hC H locs cells slots Q L hM hS hE hcR hsR k => by
  by_cases hx : y ≤ x
  · rw [show ev_t2 .ge x y = true from decide_eq_true hx] at k
    exact lv_icmp_ge hC.1 hC.2.1 (hd z hz) hq (fun _ => k) (fun h9 => (by first | exact absurd hx h9 | exact absurd h9 hx))
  · rw [show ev_t2 .ge x y = false from decide_eq_false hx] at k
    exact lv_icmp_ge hC.1 hC.2.1 (hd z hz) hq (fun h9 => absurd h9 hx) (fun _ => k))
theorem ev_x_icmp_gt {x y : Int32} {off : Int} {q : Nat} (hd : ∀ z, ev_mel j = some z → decode (ev_by z) pc = .ok (.if_icmp .gt off, 3)) (hq : (pc : Int) + off = (q : Int)) (h : ev_Snd D cy base ext SL SX l j (bif ev_t2 .gt x y then q else pc + 3) ls r w o w1) : ev_Snd D cy base ext SL SX l j pc ls (.int y :: .int x :: r) w o w1 := ev_pstep h (fun z hz p e R s m args below meth c hC H locs cells slots Q L hM hS hE hcR hsR k => by
  by_cases hx : y < x
  · rw [show ev_t2 .gt x y = true from decide_eq_true hx] at k
    exact lv_icmp_gt hC.1 hC.2.1 (hd z hz) hq (fun _ => k) (fun h9 => (by first | exact absurd hx h9 | exact absurd h9 hx))
  · rw [show ev_t2 .gt x y = false from decide_eq_false hx] at k
    exact lv_icmp_gt hC.1 hC.2.1 (hd z hz) hq (fun h9 => absurd h9 hx) (fun _ => k))
theorem ev_x_icmp_le {x y : Int32} {off : Int} {q : Nat} (hd : ∀ z, ev_mel j = some z → decode (ev_by z) pc = .ok (.if_icmp .le off, 3)) (hq : (pc : Int) + off = (q : Int)) (h : ev_Snd D cy base ext SL SX l j (bif ev_t2 .le x y then q else pc + 3) ls r w o w1) : ev_Snd D cy base ext SL SX l j pc ls (.int y :: .int x :: r) w o w1 := ev_pstep h (fun z hz p e R s m args below meth c hC H locs cells slots Q L hM hS hE hcR hsR k => by
  by_cases hx : x ≤ y
  · rw [show ev_t2 .le x y = true from decide_eq_true hx] at k
    exact lv_icmp_le hC.1 hC.2.1 (hd z hz) hq (fun _ => k) (fun h9 => (by first | exact absurd hx h9 | exact absurd h9 hx))
  · rw [show ev_t2 .le x y = false from decide_eq_false hx] at k
    exact lv_icmp_le hC.1 hC.2.1 (hd z hz) hq (fun h9 => absurd h9 hx) (fun _ => k))
theorem ev_x_tsOut {x : Int32} {d lo hi : Int} {offs : Array Int} {n q : Nat} (hd : ∀ z, ev_mel j = some z → decode (ev_by z) pc = .ok (.tableswitch d lo hi offs, n)) (hx : x.toInt < lo ∨ hi < x.toInt) (hq : (pc : Int) + d = (q : Int)) (h : ev_Snd D cy base ext SL SX l j q ls r w o w1) : ev_Snd D cy base ext SL SX l j pc ls (.int x :: r) w o w1 := ev_pstep h (fun z hz p e R s m args below meth c hC H locs cells slots Q L hM hS hE hcR hsR k => lv_tableOut hC.1 hC.2.1 (hd z hz) hx hq k)
theorem ev_x_tsIn {x : Int32} {d lo hi off : Int} {offs : Array Int} {n q : Nat} (hd : ∀ z, ev_mel j = some z → decode (ev_by z) pc = .ok (.tableswitch d lo hi offs, n)) (h1 : ¬ x.toInt < lo) (h2 : ¬ hi < x.toInt) (ho : offs[(x.toInt - lo).toNat]? = some off) (hq : (pc : Int) + off = (q : Int)) (h : ev_Snd D cy base ext SL SX l j q ls r w o w1) : ev_Snd D cy base ext SL SX l j pc ls (.int x :: r) w o w1 := ev_pstep h (fun z hz p e R s m args below meth c hC H locs cells slots Q L hM hS hE hcR hsR k => lv_tableIn hC.1 hC.2.1 (hd z hz) h1 h2 ho hq k)
theorem ev_x_ldc {k9 : Nat} {q : Nat × Nat × String} (hs : ev_str[k9]? = some q) (hown : ∀ z, ev_mel j = some z → q.1 = ev_own1 z) (hd : ∀ z, ev_mel j = some z → decode (ev_by z) pc = .ok (.ldc q.2.1, 2)) (h : ev_Snd D cy base ext SL SX l j (pc + 2) ls (.ref (ev_S + 1 + k9) :: st) w o w1) : ev_Snd D cy base ext SL SX l j pc ls st w o w1 := ev_pstep h (fun z hz p e R s m args below meth c hC H locs cells slots Q L hM hS hE hcR hsR k => by
  have h9 := (hC.2.2.2.2.2.2.2.2.2.1.2.2.2.2.2.1 k9 q hs).1
  rw [hown z hz, hC.2.2.2.2.2.2.2.2.2.2.2.1] at h9
  have h8 : ev_ρ base ext (ev_S + 1 + k9) = ext (ev_S + 1 + k9) := if_neg (by omega)
  refine va_ldcS hC.1 hC.2.1 hC.2.2.2.2.1 h9 (hd z hz) ?_
  rw [← h8]
  exact k)
end INS
end
section
/-! the heap's instructions -/
theorem ev_ents {cy : Nat → ClassId} {base : Nat} {ext : Nat → Nat} {w : ev_W} {a : Nat} {ci : Nat} (hk : w_K w a = ci) (hc : ev_isO ci) : ev_ent cy base ext w a = .inr (ci, ev_fs base ext w a ci) := by
  subst hk
  unfold ev_ent
  rw [if_pos hc]
theorem ev_fl_of {o9 ix : Nat} {q : Nat × Nat} (h : ev_look2 o9 ix ev_flt = some q) : ∃ r, vwCl[q.1]? = some r ∧ (q.2 < r.2.2 ∧ ev_isO q.1) ∧ Cond.fieldLink (ev_own.getD o9 "") ix (r.2.1 q.2).1 (r.2.1 q.2).2.1 (r.2.1 q.2).2.2.1 ∈ ev_all := by
  obtain ⟨l, h1, h2⟩ := ev_look2_mem h
  have h3 := List.all_eq_true.mp (List.all_eq_true.mp ev_fl_ok _ h1) _ h2
  dsimp only at h3
  cases hr : vwCl[q.1]? with
  | none => rw [hr] at h3; cases h3
  | some r =>
    rw [hr] at h3
    rw [Bool.and_eq_true, decide_eq_true_eq, decide_eq_true_eq] at h3
    refine ⟨r, rfl, h3, ?_⟩
    have h4 : ev_flw1 o9 (ix, q) ∈ ev_flw := List.mem_flatMap.mpr ⟨_, h1, List.mem_map.mpr ⟨_, h2, rfl⟩⟩
    have h5 := ev_all_in ev_flw_in h4
    unfold ev_flw1 at h5
    dsimp only at h5
    rw [hr] at h5
    exact h5
theorem ev_own_cl {ci : Nat} {r : vw_C} (h : vwCl[ci]? = some r) : ev_own.getD ci "" = r.1 := by
  have hl : ci < 20 := (List.getElem?_eq_some_iff.mp h).1
  match ci, hl with
  | 0, _ => cases h; rfl
  | 1, _ => cases h; rfl
  | 2, _ => cases h; rfl
  | 3, _ => cases h; rfl
  | 4, _ => cases h; rfl
  | 5, _ => cases h; rfl
  | 6, _ => cases h; rfl
  | 7, _ => cases h; rfl
  | 8, _ => cases h; rfl
  | 9, _ => cases h; rfl
  | 10, _ => cases h; rfl
  | 11, _ => cases h; rfl
  | 12, _ => cases h; rfl
  | 13, _ => cases h; rfl
  | 14, _ => cases h; rfl
  | 15, _ => cases h; rfl
  | 16, _ => cases h; rfl
  | 17, _ => cases h; rfl
  | 18, _ => cases h; rfl
  | 19, _ => cases h; rfl
theorem ev_ok_in {i : Int32} {n : Nat} (h : ev_ok i n = true) : vp_in i n := by
  unfold ev_ok at h
  simp only [Bool.and_eq_true, decide_eq_true_eq] at h
  rintro (q | q)
  · have h1 := h.1
    rw [Int32.le_iff_toInt_le] at h1
    rw [Int32.lt_iff_toInt_lt] at q
    omega
  · omega
theorem ev_ρ_lt {base : Nat} {ext : Nat → Nat} {a : Nat} (h : a < 1001) : ev_ρ base ext a = base + a := if_pos (by unfold ev_S; omega)
section MEM
variable {D : va_G} {cy : Nat → ClassId} {base : Nat} {ext : Nat → Nat} {SL : Nat} {SX : Nat → Int32} {l : Launch} {j pc : Nat} {ls : ev_L} {r st : List Value} {w : ev_W} {o : Option Value ⊕ Nat} {w1 : ev_W}
theorem ev_v_ref (hM : ∃ H, ev_M D cy base ext SL SX w H) {a : Nat} (ha : a < w_n w) : ev_v base ext (.ref a) = .ref (base + a) := by
  obtain ⟨H, hM⟩ := hM
  have h2 := hM.2.1
  show Value.ref (ev_ρ base ext a) = _
  rw [ev_ρ_lt (by omega)]
theorem ev_x_getf {a ix : Nat} {q : Nat × Nat} {v : Value} (hf : ∀ z, ev_mel j = some z → ev_look2 (ev_own1 z) ix ev_flt = some q) (ha : a < w_n w) (hk : w_K w a = q.1) (hd : ∀ z, ev_mel j = some z → decode (ev_by z) pc = .ok (.getfield ix, 3))
    (hv : ev_fv base ext w a (ev_fty q.1 q.2, q.2) = ev_v base ext v) (h : ev_Snd D cy base ext SL SX l j (pc + 3) ls (v :: r) w o w1) : ev_Snd D cy base ext SL SX l j pc ls (.ref a :: r) w o w1 := by
  refine ev_pstep h (fun z hz p e R s m args below meth c hC H locs cells slots Q L hM hS hE hcR hsR k => ?_)
  obtain ⟨⟨C, T, N⟩, h1, ⟨h2, hq9⟩, h3⟩ := ev_fl_of (hf z hz)
  obtain ⟨ty, t1, t2, t3, t4, t5, t6⟩ := ev_cls q.1 _ h1
  have he : (ev_ws cy base ext w)[a]? = some (base + a, .inr (q.1, ev_fs base ext w a q.1)) := by rw [ev_ws_at ha, ev_ents hk hq9]
  rw [hC.2.2.2.2.2.2.2.2.2.2.2.1] at h3
  show W p l e R s m args below meth c H locs cells slots Q (F0 m pc L (ev_v base ext (.ref a) :: r.map (ev_v base ext)))
  rw [ev_v_ref ⟨H, hM⟩ ha]
  exact va_get hC.1 hC.2.1 hC.2.2.2.2.2.1 t3 hC.2.2.2.2.1 hC.2.2.2.2.2.2.2.2.1 hM.1 a he h1 q.2 h2 (hC.2.2.2.2.2.1 _ h3) (fun _ h9 => h9) (by rw [ev_fs_at (by rw [t4]; exact h2), hv]) (hd z hz) k
theorem ev_x_putf {a ix : Nat} {q : Nat × Nat} {v : Value} {w' : ev_W} (hf : ∀ z, ev_mel j = some z → ev_look2 (ev_own1 z) ix ev_flt = some q ∧ ev_pfok z q = true) (ha : a < w_n w) (hk : w_K w a = q.1) (hd : ∀ z, ev_mel j = some z → decode (ev_by z) pc = .ok (.putfield ix, 3))
    (hv : ∀ ty, ev_ftk (ev_fty q.1 q.2) ty = true → narrow ty (ev_v base ext v) = ev_v base ext v ∧ fits ty (ev_v base ext v) = true)
    (hw : w'.1 = w.1 ∧ w_c w' = w_c w ∧ w_z w' = w_z w ∧ w_l w' = w_l w ∧ w_K w' = w_K w ∧ w_L w' = w_L w ∧ (∀ b, b ≠ a → w_I w' b = w_I w b ∧ w_R w' b = w_R w b ∧ w_J w' b = w_J w b ∧ w_D w' b = w_D w b))
    (hw2 : ev_fv base ext w' a (ev_fty q.1 q.2, q.2) = ev_v base ext v) (hw3 : ∀ i t, i ≠ q.2 → ev_fv base ext w' a (t, i) = ev_fv base ext w a (t, i))
    (h : ev_Snd D cy base ext SL SX l j (pc + 3) ls r w' o w1) : ev_Snd D cy base ext SL SX l j pc ls (v :: .ref a :: r) w o w1 := by
  obtain ⟨g1, g2, g3, g4, g5, g6, g7⟩ := hw
  refine ev_mstep g2 g3 h (fun z hz p e R s m args below meth c hC H locs cells slots Q L hM hS k => ?_)
  obtain ⟨hf1, hf2⟩ := hf z hz
  obtain ⟨⟨C, T, N⟩, h1, ⟨h2, hq9⟩, h3⟩ := ev_fl_of hf1
  obtain ⟨ty, t1, t2, t3, t4, t5, t6⟩ := ev_cls q.1 _ h1
  have he : (ev_ws cy base ext w)[a]? = some (base + a, .inr (q.1, ev_fs base ext w a q.1)) := by rw [ev_ws_at ha, ev_ents hk hq9]
  have hown := hC.2.2.2.2.2.2.2.2.2.2.2.1
  have hM2 := hM.2.1
  show W p l e R s m args below meth c H locs cells slots Q (F0 m pc L (ev_v base ext v :: ev_v base ext (.ref a) :: r.map (ev_v base ext)))
  rw [ev_v_ref ⟨H, hM⟩ ha]
  have h3' := h3
  rw [hown] at h3'
  obtain ⟨n1, n2⟩ := hv (ty q.2) (t5 q.2 h2)
  refine ev_put hC.1 hC.2.1 hC.2.2.2.2.2.1 t3 ty t1 t2 hC.2.2.2.2.1 hC.2.2.2.2.2.2.2.2.1 hM.1 (ev_dis cy base ext w) hS a he h1 q.2 h2 (hC.2.2.2.2.2.1 _ h3') (fun _ h9 => h9) ?_ (t1 q.2 h2) n1 n2 (by rw [ev_fs_len, t4]; exact h2) (hd z hz) (fun H1 locs1 hP1 hz1 hS1 => ?_)
  · intro hfin
    unfold ev_pfok at hf2
    rw [h1] at hf2
    dsimp only at hf2
    rw [hfin] at hf2
    simp only [cond_true, Bool.and_eq_true, Bool.or_eq_true] at hf2
    have hkd : ev_kd z = 2 ∨ ev_kd z = 3 := hf2.1.imp Nat.eq_of_beq_eq_true Nat.eq_of_beq_eq_true
    have hown1 : ev_own1 z = q.1 := Nat.eq_of_beq_eq_true hf2.2
    have hmok : ev_meok z := by
      unfold ev_mel at hz
      cases hb : Nat.beq j ev_LAW with
      | true =>
        rw [hb] at hz
        cases hz
        rcases hkd with q9 | q9 <;> cases q9
      | false =>
        rw [hb] at hz
        exact ev_me_ok hz
    refine ⟨(hC.2.2.2.2.2.2.2.1 (by omega)).trans (hmok.2.2.2.2.2.1 hkd).1, ?_⟩
    rw [t6 q.2 h2 hfin, ← hown, hown1, ev_own_cl h1]
  · have hS9 : ¬ ev_S = a := by unfold ev_S; omega
    refine k H1 locs1 (ev_M_ws hM ha g1 g4 g6 (g7 _ hS9).1 (fun b hb => ?_) ?_ hP1 hz1) hS1
    · obtain ⟨i1, i2, i3, i4⟩ := g7 b hb
      unfold ev_ent ev_fs ev_fv
      rw [g5, g6, i1, i2, i3]
    · rw [ev_ents (ci := q.1) (by rw [g5]; exact hk) hq9]
      rw [ev_fs_set (fun _ => hw2) hw3]
/-- the array of a kind -/
theorem ev_enta {w : ev_W} {a κ : Nat} (hk : w_K w a = κ) (h : ¬ ev_isO κ) : ev_ent cy base ext w a = .inl (cy κ, w_L w a, if κ = 12 ∨ κ = 13 ∨ κ = 15 ∨ κ = 20 then .inr (.inr (.inr (.inr (fun j => (w_R w a j).map (ev_ρ base ext))))) else if κ = 14 then .inr (.inl (w_J w a)) else .inl (w_I w a)) := by
  subst hk
  unfold ev_ent
  rw [if_neg h]
theorem ev_enti {w : ev_W} {a κ : Nat} (hk : w_K w a = κ) (h : κ = 9 ∨ κ = 10 ∨ κ = 11) : ev_ent cy base ext w a = .inl (cy κ, w_L w a, .inl (w_I w a)) := by
  rw [ev_enta hk (by omega), if_neg (by omega), if_neg (by omega)]
theorem ev_entq {w : ev_W} {a κ : Nat} (hk : w_K w a = κ) (h : κ = 12 ∨ κ = 13 ∨ κ = 15 ∨ κ = 20) : ev_ent cy base ext w a = .inl (cy κ, w_L w a, .inr (.inr (.inr (.inr (fun j => (w_R w a j).map (ev_ρ base ext)))))) := by
  rw [ev_enta hk (by omega), if_pos h]
theorem ev_entj {w : ev_W} {a : Nat} (hk : w_K w a = 14) : ev_ent cy base ext w a = .inl (cy 14, w_L w a, .inr (.inl (w_J w a))) := by
  rw [ev_enta hk (by omega), if_neg (by omega), if_pos rfl]
theorem ev_x_iald {a : Nat} {i : Int32} (ha : a < w_n w) (hk : w_K w a = 10) (hi : ev_ok i (w_L w a) = true) (hd : ∀ z, ev_mel j = some z → decode (ev_by z) pc = .ok (.iaload, 1)) (h : ev_Snd D cy base ext SL SX l j (pc + 1) ls (.int (w_I w a i.toNatClampNeg) :: r) w o w1) : ev_Snd D cy base ext SL SX l j pc ls (.int i :: .ref a :: r) w o w1 := by
  refine ev_pstep h (fun z hz p e R s m args below meth c hC H locs cells slots Q L hM hS hE hcR hsR k => ?_)
  show W p l e R s m args below meth c H locs cells slots Q (F0 m pc L (.int i :: ev_v base ext (.ref a) :: r.map (ev_v base ext)))
  rw [ev_v_ref ⟨H, hM⟩ ha]
  exact va_iald hC.1 hC.2.1 hC.2.2.2.2.2.2.2.2.1 hM.1 a 1 (by rw [ev_ws_at ha, ev_enti hk (by omega)]) rfl (ev_ok_in hi) (hd z hz) k
theorem ev_x_bald {a κ : Nat} {i : Int32} (ha : a < w_n w) (hk : w_K w a = κ) (hκ : κ = 9 ∨ κ = 11) (hi : ev_ok i (w_L w a) = true) (hd : ∀ z, ev_mel j = some z → decode (ev_by z) pc = .ok (.baload, 1)) (h : ev_Snd D cy base ext SL SX l j (pc + 1) ls (.int (w_I w a i.toNatClampNeg) :: r) w o w1) : ev_Snd D cy base ext SL SX l j pc ls (.int i :: .ref a :: r) w o w1 := by
  refine ev_pstep h (fun z hz p e R s m args below meth c hC H locs cells slots Q L hM hS hE hcR hsR k => ?_)
  show W p l e R s m args below meth c H locs cells slots Q (F0 m pc L (.int i :: ev_v base ext (.ref a) :: r.map (ev_v base ext)))
  rw [ev_v_ref ⟨H, hM⟩ ha]
  have he : (ev_ws cy base ext w)[a]? = some (base + a, .inl (cy κ, w_L w a, .inl (w_I w a))) := by rw [ev_ws_at ha, ev_enti hk (by omega)]
  rcases hκ with rfl | rfl
  · exact va_bald hC.1 hC.2.1 hC.2.2.2.2.2.2.2.2.1 hM.1 a 0 he rfl (ev_ok_in hi) (hd z hz) k
  · exact va_zald hC.1 hC.2.1 hC.2.2.2.2.2.2.2.2.1 hM.1 a 2 he rfl (ev_ok_in hi) (hd z hz) k
theorem ev_x_lald {a : Nat} {i : Int32} (ha : a < w_n w) (hk : w_K w a = 14) (hi : ev_ok i (w_L w a) = true) (hd : ∀ z, ev_mel j = some z → decode (ev_by z) pc = .ok (.laload, 1)) (h : ev_Snd D cy base ext SL SX l j (pc + 1) ls (.long (w_J w a i.toNatClampNeg) :: r) w o w1) : ev_Snd D cy base ext SL SX l j pc ls (.int i :: .ref a :: r) w o w1 := by
  refine ev_pstep h (fun z hz p e R s m args below meth c hC H locs cells slots Q L hM hS hE hcR hsR k => ?_)
  show W p l e R s m args below meth c H locs cells slots Q (F0 m pc L (.int i :: ev_v base ext (.ref a) :: r.map (ev_v base ext)))
  rw [ev_v_ref ⟨H, hM⟩ ha]
  exact va_lald hC.1 hC.2.1 hC.2.2.2.2.2.2.2.2.1 hM.1 a 5 (by rw [ev_ws_at ha, ev_entj hk]) rfl (ev_ok_in hi) (hd z hz) k
theorem ev_x_aald {a κ : Nat} {i : Int32} (ha : a < w_n w) (hk : w_K w a = κ) (hκ : κ = 12 ∨ κ = 13) (hi : ev_ok i (w_L w a) = true) (hd : ∀ z, ev_mel j = some z → decode (ev_by z) pc = .ok (.aaload, 1)) (h : ev_Snd D cy base ext SL SX l j (pc + 1) ls (va_rf (w_R w a i.toNatClampNeg) :: r) w o w1) : ev_Snd D cy base ext SL SX l j pc ls (.int i :: .ref a :: r) w o w1 := by
  refine ev_pstep h (fun z hz p e R s m args below meth c hC H locs cells slots Q L hM hS hE hcR hsR k => ?_)
  show W p l e R s m args below meth c H locs cells slots Q (F0 m pc L (.int i :: ev_v base ext (.ref a) :: r.map (ev_v base ext)))
  rw [ev_v_ref ⟨H, hM⟩ ha]
  have he : (ev_ws cy base ext w)[a]? = some (base + a, .inl (cy κ, w_L w a, .inr (.inr (.inr (.inr (fun j => (w_R w a j).map (ev_ρ base ext))))))) := by rw [ev_ws_at ha, ev_entq hk (by omega)]
  have k' : W p l e R s m args below meth c H locs cells slots Q (F0 m (pc + 1) L (va_rf ((w_R w a i.toNatClampNeg).map (ev_ρ base ext)) :: r.map (ev_v base ext))) := by
    rw [← ev_v_rf]
    exact k
  rcases hκ with rfl | rfl
  · exact va_aldq hC.1 hC.2.1 hC.2.2.2.2.2.2.2.2.1 hM.1 a 3 he rfl (ev_ok_in hi) (hd z hz) k'
  · exact va_aldq hC.1 hC.2.1 hC.2.2.2.2.2.2.2.2.1 hM.1 a 4 he rfl (ev_ok_in hi) (hd z hz) k'
theorem ev_x_sald {i : Int32} (hj : j = ev_LAW) (hi : ev_ok i (w_L w ev_S) = true) (hd : ∀ z, ev_mel j = some z → decode (ev_by z) pc = .ok (.iaload, 1)) (h : ev_Snd D cy base ext SL SX l j (pc + 1) ls (.int (w_I w ev_S i.toNatClampNeg) :: r) w o w1) : ev_Snd D cy base ext SL SX l j pc ls (.int i :: .ref ev_S :: r) w o w1 := by
  refine ev_pstep h (fun z hz p e R s m args below meth c hC H locs cells slots Q L hM hS hE hcR hsR k => ?_)
  obtain ⟨x1, x2, x3⟩ := hC.2.2.2.2.2.2.2.2.2.2.2.2.2.2.2.2
  have e1 : ev_ρ base ext ev_S = ext ev_S := if_neg (Nat.lt_irrefl _)
  have hL := hM.2.2.2.2.1
  have hI := hM.2.2.2.2.2
  rw [hL] at hi
  show W p l e R s m args below meth c H locs cells slots Q (F0 m pc L (.int i :: .ref (ev_ρ base ext ev_S) :: r.map (ev_v base ext)))
  rw [e1]
  refine va_sld hC.1 hC.2.1 x1 x2 (fun q => absurd (show base ≤ ext ev_S from q) (by omega)) hS (ev_ok_in hi) (hd z hz) ?_
  rw [← hI]
  exact k
theorem ev_x_slen (hj : j = ev_LAW) (hd : ∀ z, ev_mel j = some z → decode (ev_by z) pc = .ok (.arraylength, 1)) (h : ev_Snd D cy base ext SL SX l j (pc + 1) ls (.int (Int32.ofNat (w_L w ev_S)) :: r) w o w1) : ev_Snd D cy base ext SL SX l j pc ls (.ref ev_S :: r) w o w1 := by
  refine ev_pstep h (fun z hz p e R s m args below meth c hC H locs cells slots Q L hM hS hE hcR hsR k => ?_)
  obtain ⟨x1, x2, x3⟩ := hC.2.2.2.2.2.2.2.2.2.2.2.2.2.2.2.2
  have e1 : ev_ρ base ext ev_S = ext ev_S := if_neg (Nat.lt_irrefl _)
  have hL := hM.2.2.2.2.1
  show W p l e R s m args below meth c H locs cells slots Q (F0 m pc L (.ref (ev_ρ base ext ev_S) :: r.map (ev_v base ext)))
  rw [e1]
  refine va_slen hC.1 hC.2.1 x1 x2 (fun q => absurd (show base ≤ ext ev_S from q) (by omega)) hS (hd z hz) ?_
  rw [← hL]
  exact k
theorem ev_x_alen {a : Nat} (ha : a < w_n w) (h9 : 9 ≤ w_K w a) (h16 : w_K w a < 16) (hd : ∀ z, ev_mel j = some z → decode (ev_by z) pc = .ok (.arraylength, 1)) (h : ev_Snd D cy base ext SL SX l j (pc + 1) ls (.int (Int32.ofNat (w_L w a)) :: r) w o w1) : ev_Snd D cy base ext SL SX l j pc ls (.ref a :: r) w o w1 := by
  refine ev_pstep h (fun z hz p e R s m args below meth c hC H locs cells slots Q L hM hS hE hcR hsR k => ?_)
  show W p l e R s m args below meth c H locs cells slots Q (F0 m pc L (ev_v base ext (.ref a) :: r.map (ev_v base ext)))
  rw [ev_v_ref ⟨H, hM⟩ ha]
  have ht : ∃ ty, (ev_tys cy)[w_K w a - 9]? = some (cy (w_K w a), ty) := by
    have h7 : w_K w a = 9 ∨ w_K w a = 10 ∨ w_K w a = 11 ∨ w_K w a = 12 ∨ w_K w a = 13 ∨ w_K w a = 14 ∨ w_K w a = 15 := by omega
    rcases h7 with q | q | q | q | q | q | q <;> rw [q] <;> exact ⟨_, rfl⟩
  obtain ⟨ty, ht⟩ := ht
  exact va_alen (v := Int32.ofNat (w_L w a)) hC.1 hC.2.1 hC.2.2.2.2.2.2.2.2.1 hM.1 a (w_K w a - 9) (by rw [ev_ws_at ha, ev_enta rfl (by omega)]) ht rfl (hd z hz) k
/-- a place of an array is written -/
theorem ev_M_arr {w' : ev_W} {H H1 : Heap} {a κ : Nat} {en : vp_A} (hM : ev_M D cy base ext SL SX w H) (ha : a < w_n w) (hk : w_K w a = κ)
    (hw : w'.1 = w.1 ∧ w_c w' = w_c w ∧ w_z w' = w_z w ∧ w_l w' = w_l w ∧ w_K w' = w_K w ∧ w_L w' = w_L w ∧ (∀ b, b ≠ a → w_I w' b = w_I w b ∧ w_R w' b = w_R w b ∧ w_J w' b = w_J w b ∧ w_D w' b = w_D w b))
    (hen : ev_ent cy base ext w' a = .inl (cy κ, en)) (hP : va_P D vwCl ((ev_ws cy base ext w).set a (base + a, .inl (cy κ, en))) H1) (hz : H1.size = H.size) : ev_M D cy base ext SL SX w' H1 := by
  obtain ⟨g1, g2, g3, g4, g5, g6, g7⟩ := hw
  have hM2 := hM.2.1
  have hS9 : ¬ ev_S = a := by unfold ev_S; omega
  refine ev_M_ws hM ha g1 g4 g6 (g7 _ hS9).1 (fun b hb => ?_) hen.symm hP hz
  obtain ⟨i1, i2, i3, i4⟩ := g7 b hb
  unfold ev_ent ev_fs ev_fv
  rw [g5, g6, i1, i2, i3]
theorem w_sI_w (a i : Nat) (x : Int32) : (w_sI w a i x).1 = w.1 ∧ w_c (w_sI w a i x) = w_c w ∧ w_z (w_sI w a i x) = w_z w ∧ w_l (w_sI w a i x) = w_l w ∧ w_K (w_sI w a i x) = w_K w ∧ w_L (w_sI w a i x) = w_L w ∧ (∀ b, b ≠ a → w_I (w_sI w a i x) b = w_I w b ∧ w_R (w_sI w a i x) b = w_R w b ∧ w_J (w_sI w a i x) b = w_J w b ∧ w_D (w_sI w a i x) b = w_D w b) :=
  ⟨rfl, rfl, rfl, rfl, rfl, rfl, fun b hb => ⟨if_neg hb, rfl, rfl, rfl⟩⟩
theorem w_sR_w (a i : Nat) (x : Option Nat) : (w_sR w a i x).1 = w.1 ∧ w_c (w_sR w a i x) = w_c w ∧ w_z (w_sR w a i x) = w_z w ∧ w_l (w_sR w a i x) = w_l w ∧ w_K (w_sR w a i x) = w_K w ∧ w_L (w_sR w a i x) = w_L w ∧ (∀ b, b ≠ a → w_I (w_sR w a i x) b = w_I w b ∧ w_R (w_sR w a i x) b = w_R w b ∧ w_J (w_sR w a i x) b = w_J w b ∧ w_D (w_sR w a i x) b = w_D w b) :=
  ⟨rfl, rfl, rfl, rfl, rfl, rfl, fun b hb => ⟨rfl, if_neg hb, rfl, rfl⟩⟩
theorem w_sJ_w (a i : Nat) (x : Int64) : (w_sJ w a i x).1 = w.1 ∧ w_c (w_sJ w a i x) = w_c w ∧ w_z (w_sJ w a i x) = w_z w ∧ w_l (w_sJ w a i x) = w_l w ∧ w_K (w_sJ w a i x) = w_K w ∧ w_L (w_sJ w a i x) = w_L w ∧ (∀ b, b ≠ a → w_I (w_sJ w a i x) b = w_I w b ∧ w_R (w_sJ w a i x) b = w_R w b ∧ w_J (w_sJ w a i x) b = w_J w b ∧ w_D (w_sJ w a i x) b = w_D w b) :=
  ⟨rfl, rfl, rfl, rfl, rfl, rfl, fun b hb => ⟨rfl, rfl, if_neg hb, rfl⟩⟩
theorem w_sD_w (a i : Nat) (x : UInt64) : (w_sD w a i x).1 = w.1 ∧ w_c (w_sD w a i x) = w_c w ∧ w_z (w_sD w a i x) = w_z w ∧ w_l (w_sD w a i x) = w_l w ∧ w_K (w_sD w a i x) = w_K w ∧ w_L (w_sD w a i x) = w_L w ∧ (∀ b, b ≠ a → w_I (w_sD w a i x) b = w_I w b ∧ w_R (w_sD w a i x) b = w_R w b ∧ w_J (w_sD w a i x) b = w_J w b ∧ w_D (w_sD w a i x) b = w_D w b) :=
  ⟨rfl, rfl, rfl, rfl, rfl, rfl, fun b hb => ⟨rfl, rfl, rfl, if_neg hb⟩⟩
theorem w_sI_at (a i : Nat) (x : Int32) : w_I (w_sI w a i x) a = upd (w_I w a) i x := by
  show (if a = a then (fun j => if j = i then x else w_I w a j) else w_I w a) = _
  rw [if_pos rfl]; rfl
theorem w_sR_at (a i : Nat) (x : Option Nat) : w_R (w_sR w a i x) a = va_up (w_R w a) i x := by
  show (if a = a then (fun j => if j = i then x else w_R w a j) else w_R w a) = _
  rw [if_pos rfl]; rfl
theorem w_sJ_at (a i : Nat) (x : Int64) : w_J (w_sJ w a i x) a = vp_updL (w_J w a) i x := by
  show (if a = a then (fun j => if j = i then x else w_J w a j) else w_J w a) = _
  rw [if_pos rfl]; rfl
theorem w_sD_at (a i : Nat) (x : UInt64) : w_D (w_sD w a i x) a = vf_upd (w_D w a) i x := by
  show (if a = a then (fun j => if j = i then x else w_D w a j) else w_D w a) = _
  rw [if_pos rfl]; rfl
theorem ev_x_iast {a : Nat} {i x : Int32} (ha : a < w_n w) (hk : w_K w a = 10) (hi : ev_ok i (w_L w a) = true) (hd : ∀ z, ev_mel j = some z → decode (ev_by z) pc = .ok (.iastore, 1)) (h : ev_Snd D cy base ext SL SX l j (pc + 1) ls r (w_sI w a i.toNatClampNeg x) o w1) : ev_Snd D cy base ext SL SX l j pc ls (.int x :: .int i :: .ref a :: r) w o w1 := by
  refine ev_mstep (w' := (w_sI w a i.toNatClampNeg x)) rfl rfl h (fun z hz p e R s m args below meth c hC H locs cells slots Q L hM hS k => ?_)
  show W p l e R s m args below meth c H locs cells slots Q (F0 m pc L (.int x :: .int i :: ev_v base ext (.ref a) :: r.map (ev_v base ext)))
  rw [ev_v_ref ⟨H, hM⟩ ha]
  refine ev_iast hC.1 hC.2.1 hC.2.2.2.2.2.2.2.2.1 hM.1 (ev_dis cy base ext w) hS a 1 (by rw [ev_ws_at ha, ev_enti hk (by omega)]) rfl (ev_ok_in hi) (hd z hz) (fun H1 locs1 hP1 hz1 hS1 => k H1 locs1 (ev_M_arr hM ha hk (w_sI_w a _ x) ?_ hP1 hz1) hS1)
  rw [ev_enti (w := (w_sI w a i.toNatClampNeg x)) (κ := 10) hk (by omega), w_sI_at]
  rfl
theorem ev_x_bast {a : Nat} {i x : Int32} (ha : a < w_n w) (hk : w_K w a = 9) (hi : ev_ok i (w_L w a) = true) (hd : ∀ z, ev_mel j = some z → decode (ev_by z) pc = .ok (.bastore, 1)) (h : ev_Snd D cy base ext SL SX l j (pc + 1) ls r (w_sI w a i.toNatClampNeg (vp_nar .byte x)) o w1) : ev_Snd D cy base ext SL SX l j pc ls (.int x :: .int i :: .ref a :: r) w o w1 := by
  refine ev_mstep (w' := (w_sI w a i.toNatClampNeg (vp_nar .byte x))) rfl rfl h (fun z hz p e R s m args below meth c hC H locs cells slots Q L hM hS k => ?_)
  show W p l e R s m args below meth c H locs cells slots Q (F0 m pc L (.int x :: .int i :: ev_v base ext (.ref a) :: r.map (ev_v base ext)))
  rw [ev_v_ref ⟨H, hM⟩ ha]
  refine ev_bast hC.1 hC.2.1 hC.2.2.2.2.2.2.2.2.1 hM.1 (ev_dis cy base ext w) hS a 0 (by rw [ev_ws_at ha, ev_enti hk (by omega)]) rfl (ev_ok_in hi) (hd z hz) (fun H1 locs1 hP1 hz1 hS1 => k H1 locs1 (ev_M_arr hM ha hk (w_sI_w a _ _) ?_ hP1 hz1) hS1)
  rw [ev_enti (w := (w_sI w a i.toNatClampNeg (vp_nar .byte x))) (κ := 9) hk (by omega), w_sI_at]
  rfl
theorem ev_x_zast {a : Nat} {i x : Int32} (ha : a < w_n w) (hk : w_K w a = 11) (hi : ev_ok i (w_L w a) = true) (hd : ∀ z, ev_mel j = some z → decode (ev_by z) pc = .ok (.bastore, 1)) (h : ev_Snd D cy base ext SL SX l j (pc + 1) ls r (w_sI w a i.toNatClampNeg (vp_nar .boolean x)) o w1) : ev_Snd D cy base ext SL SX l j pc ls (.int x :: .int i :: .ref a :: r) w o w1 := by
  refine ev_mstep (w' := (w_sI w a i.toNatClampNeg (vp_nar .boolean x))) rfl rfl h (fun z hz p e R s m args below meth c hC H locs cells slots Q L hM hS k => ?_)
  show W p l e R s m args below meth c H locs cells slots Q (F0 m pc L (.int x :: .int i :: ev_v base ext (.ref a) :: r.map (ev_v base ext)))
  rw [ev_v_ref ⟨H, hM⟩ ha]
  refine ev_zast hC.1 hC.2.1 hC.2.2.2.2.2.2.2.2.1 hM.1 (ev_dis cy base ext w) hS a 2 (by rw [ev_ws_at ha, ev_enti hk (by omega)]) rfl (ev_ok_in hi) (hd z hz) (fun H1 locs1 hP1 hz1 hS1 => k H1 locs1 (ev_M_arr hM ha hk (w_sI_w a _ _) ?_ hP1 hz1) hS1)
  rw [ev_enti (w := (w_sI w a i.toNatClampNeg (vp_nar .boolean x))) (κ := 11) hk (by omega), w_sI_at]
  rfl
theorem ev_x_last {a : Nat} {i : Int32} {x : Int64} (ha : a < w_n w) (hk : w_K w a = 14) (hi : ev_ok i (w_L w a) = true) (hd : ∀ z, ev_mel j = some z → decode (ev_by z) pc = .ok (.lastore, 1)) (h : ev_Snd D cy base ext SL SX l j (pc + 1) ls r (w_sJ w a i.toNatClampNeg x) o w1) : ev_Snd D cy base ext SL SX l j pc ls (.long x :: .int i :: .ref a :: r) w o w1 := by
  refine ev_mstep (w' := (w_sJ w a i.toNatClampNeg x)) rfl rfl h (fun z hz p e R s m args below meth c hC H locs cells slots Q L hM hS k => ?_)
  show W p l e R s m args below meth c H locs cells slots Q (F0 m pc L (.long x :: .int i :: ev_v base ext (.ref a) :: r.map (ev_v base ext)))
  rw [ev_v_ref ⟨H, hM⟩ ha]
  refine ev_last hC.1 hC.2.1 hC.2.2.2.2.2.2.2.2.1 hM.1 (ev_dis cy base ext w) hS a 5 (by rw [ev_ws_at ha, ev_entj hk]) rfl (ev_ok_in hi) (hd z hz) (fun H1 locs1 hP1 hz1 hS1 => k H1 locs1 (ev_M_arr hM ha hk (w_sJ_w a _ x) ?_ hP1 hz1) hS1)
  rw [ev_entj (w := w_sJ w a i.toNatClampNeg x) hk, w_sJ_at]
  rfl
theorem ev_x_aast {a b κ κb : Nat} {i : Int32} (ha : a < w_n w) (hb : b < w_n w) (hk : w_K w a = κ) (hkb : w_K w b = κb) (hκ : (κ = 12 ∧ κb = 0) ∨ (κ = 13 ∧ κb = 5)) (hi : ev_ok i (w_L w a) = true) (hd : ∀ z, ev_mel j = some z → decode (ev_by z) pc = .ok (.aastore, 1)) (h : ev_Snd D cy base ext SL SX l j (pc + 1) ls r (w_sR w a i.toNatClampNeg (some b)) o w1) : ev_Snd D cy base ext SL SX l j pc ls (.ref b :: .int i :: .ref a :: r) w o w1 := by
  refine ev_mstep (w' := (w_sR w a i.toNatClampNeg (some b))) rfl rfl h (fun z hz p e R s m args below meth c hC H locs cells slots Q L hM hS k => ?_)
  have hM2 := hM.2.1
  have hρ : ev_ρ base ext b = base + b := ev_ρ_lt (by omega)
  show W p l e R s m args below meth c H locs cells slots Q (F0 m pc L (ev_v base ext (.ref b) :: .int i :: ev_v base ext (.ref a) :: r.map (ev_v base ext)))
  rw [ev_v_ref ⟨H, hM⟩ ha, ev_v_ref ⟨H, hM⟩ hb]
  have hκ9 : κ = 12 ∨ κ = 13 := by omega
  have he : (ev_ws cy base ext w)[a]? = some (base + a, .inl (cy κ, w_L w a, .inr (.inr (.inr (.inr (fun j => (w_R w a j).map (ev_ρ base ext))))))) := by rw [ev_ws_at ha, ev_entq hk (by omega)]
  have hb9 : (ev_ws cy base ext w)[b]? = some (base + b, .inr (κb, ev_fs base ext w b κb)) := by rw [ev_ws_at hb, ev_ents hkb (by omega)]
  have hen : ev_ent cy base ext (w_sR w a i.toNatClampNeg (some b)) a = .inl (cy κ, w_L w a, .inr (.inr (.inr (.inr (va_up (fun j => (w_R w a j).map (ev_ρ base ext)) i.toNatClampNeg (some (base + b))))))) := by
    rw [ev_entq (w := (w_sR w a i.toNatClampNeg (some b))) (κ := κ) hk (by omega), w_sR_at]
    have hfn : (fun j => (va_up (w_R w a) i.toNatClampNeg (some b) j).map (ev_ρ base ext)) = va_up (fun j => (w_R w a j).map (ev_ρ base ext)) i.toNatClampNeg (some (base + b)) := by
      funext j9
      unfold va_up
      by_cases hj9 : j9 = i.toNatClampNeg
      · rw [if_pos hj9, if_pos hj9, ← hρ]; rfl
      · rw [if_neg hj9, if_neg hj9]
    rw [hfn]
    rfl
  rcases hκ with ⟨rfl, rfl⟩ | ⟨rfl, rfl⟩
  · exact ev_aast (r := (RX0, TX0, 10)) hC.1 hC.2.1 hC.2.2.2.2.2.2.2.2.1 hM.1 (ev_dis cy base ext w) hS a 3 b 0 he rfl hb9 rfl (ev_ok_in hi) (hd z hz) (fun H1 locs1 hP1 hz1 hS1 => k H1 locs1 (ev_M_arr hM ha hk (w_sR_w a _ _) hen hP1 hz1) hS1)
  · exact ev_aast (r := (RX5, TX5, 12)) hC.1 hC.2.1 hC.2.2.2.2.2.2.2.2.1 hM.1 (ev_dis cy base ext w) hS a 4 b 5 he rfl hb9 rfl (ev_ok_in hi) (hd z hz) (fun H1 locs1 hP1 hz1 hS1 => k H1 locs1 (ev_M_arr hM ha hk (w_sR_w a _ _) hen hP1 hz1) hS1)
/-! cells are made -/
theorem ev_u1_at {α : Type} (f : Nat → α) (a : Nat) (x : α) : ev_u1 f a x a = x := if_pos rfl
theorem ev_x_new {ix ci : Nat} {q : vw_C} (hf : ∀ z, ev_mel j = some z → ev_look2 (ev_own1 z) ix ev_clt = some ci) (hq : vwCl[ci]? = some q) (hl : w_l w = true) (hn : w_n w < 1000) (hd : ∀ z, ev_mel j = some z → decode (ev_by z) pc = .ok (.new ix, 3)) (h : ev_Snd D cy base ext SL SX l j (pc + 3) ls (.ref (w_n w) :: st) (w_nw w ci q.2.2) o w1) : ev_Snd D cy base ext SL SX l j pc ls st w o w1 := by
  refine ev_nstep (w' := (w_nw w ci q.2.2)) rfl rfl h (fun z hz p e R s m args below meth c hC H locs cells slots Q L hM hS hcR hsR k => ?_)
  obtain ⟨l9, h1, h2⟩ := ev_look2_mem (hf z hz)
  obtain ⟨ty, t1, t2, t3, t4, t5, t6⟩ := ev_cls ci _ hq
  have hci : ev_isO ci := of_decide_eq_true (List.all_eq_true.mp (List.all_eq_true.mp ev_cl_ok _ h1) _ h2)
  obtain ⟨C, T, N⟩ := q
  have hclw : Cond.classLink (ev_y z).cls ix C ∈ ev_all := by
    have h3 : ev_clw1 (ev_own1 z) (ix, ci) ∈ ev_clw := List.mem_flatMap.mpr ⟨_, h1, List.mem_map.mpr ⟨_, h2, rfl⟩⟩
    have h4 := ev_all_in ev_clw_in h3
    unfold ev_clw1 at h4
    dsimp only at h4
    rw [hq, hC.2.2.2.2.2.2.2.2.2.2.2.1] at h4
    exact h4
  have hins : ∀ w ∈ [Cond.instantiable C N, Cond.initialized C], w ∈ ev_all := fun w hw => ev_all_in ev_insw_in (List.mem_flatMap.mpr ⟨_, List.mem_of_getElem? hq, hw⟩)
  have hsz : H.size = base + w_n w := hM.2.2.2.1 hl
  refine ev_newo hC.1 hC.2.1 hC.2.2.2.2.2.1 t3 ty t1 hC.2.2.2.2.1 (hC.2.2.2.2.2.1 _ hclw) (hC.2.2.2.2.2.1 _ (hins _ List.mem_cons_self)) (hC.2.2.2.2.2.1 _ (hins _ (List.mem_cons_of_mem _ List.mem_cons_self))) hC.2.2.2.2.2.2.2.2.1 hS hq (fs := ev_fs base ext (w_nw w ci N) (w_n w) ci) (fun i hi => ?_) hcR hsR (hd z hz) (fun H1 z1 o1 at1 hS1 => ?_)
  · have hi' : i < (ev_ft.getD ci []).length := by rw [t4]; exact hi
    show defaultValue (ty i) = (ev_fs base ext (w_nw w ci N) (w_n w) ci).getD i .null
    rw [List.getD_eq_getElem?_getD, ev_fs_at hi']
    have h5 := t5 i hi
    show defaultValue (ty i) = ev_fv base ext (w_nw w ci N) (w_n w) (ev_fty ci i, i)
    unfold ev_fv
    have eI : w_I (w_nw w ci N) (w_n w) = fun _ => 0 := ev_u1_at _ _ _
    have eR : w_R (w_nw w ci N) (w_n w) = fun _ => none := ev_u1_at _ _ _
    rw [eI, eR]
    generalize ty i = t9 at h5
    generalize ev_fty ci i = f9 at h5
    unfold ev_ftk at h5
    split at h5 <;> first | rfl | cases h5
  · have e1 : ev_ρ base ext (w_n w) = base + w_n w := ev_ρ_lt (by omega)
    have hM1 : ev_M D cy base ext SL SX (w_nw w ci N) H1 := by
      refine ev_M_new hM hl hn z1 o1 ?_
      rw [ev_ents (ci := ci) (ev_u1_at _ _ _) hci, ← hsz]
      exact at1
    have k1 := k H1 hM1 hS1
    rw [hsz, ← e1]
    exact k1
theorem ev_x_newa {t : ArrayType} {κ : Nat} {i : Int32} (hκ : ev_akind t = some κ) (hl : w_l w = true) (hn : w_n w < 1000) (hi : ev_ok i 100000 = true) (hd : ∀ z, ev_mel j = some z → decode (ev_by z) pc = .ok (.newarray t, 2)) (h : ev_Snd D cy base ext SL SX l j (pc + 2) ls (.ref (w_n w) :: r) (w_nw w κ i.toNatClampNeg) o w1) : ev_Snd D cy base ext SL SX l j pc ls (.int i :: r) w o w1 := by
  refine ev_nstep (w' := (w_nw w κ i.toNatClampNeg)) rfl rfl h (fun z hz p e R s m args below meth c hC H locs cells slots Q L hM hS hcR hsR k => ?_)
  have hsz : H.size = base + w_n w := hM.2.2.2.1 hl
  have e1 : ev_ρ base ext (w_n w) = base + w_n w := ev_ρ_lt (by omega)
  have hin := ev_ok_in hi
  have hb : i.toNatClampNeg < 100000 := Nat.not_le.mp fun q => hin (Or.inr q)
  have h0 : ¬ i < 0 := fun q => hin (Or.inl q)
  have eI : ∀ κ9, w_I (w_nw w κ9 i.toNatClampNeg) (w_n w) = fun _ => 0 := fun _ => ev_u1_at _ _ _
  have eJ : ∀ κ9, w_J (w_nw w κ9 i.toNatClampNeg) (w_n w) = fun _ => 0 := fun _ => ev_u1_at _ _ _
  have eD : ∀ κ9, w_D (w_nw w κ9 i.toNatClampNeg) (w_n w) = fun _ => 0 := fun _ => ev_u1_at _ _ _
  have eL : ∀ κ9, w_L (w_nw w κ9 i.toNatClampNeg) (w_n w) = i.toNatClampNeg := fun _ => ev_u1_at _ _ _
  have eK : ∀ κ9, w_K (w_nw w κ9 i.toNatClampNeg) (w_n w) = κ9 := fun _ => ev_u1_at _ _ _
  have fin : ∀ H1 : Heap, H1.size = H.size + 1 → (∀ q, q < H.size → H1[q]? = H[q]?) → va_at D vwCl (H.size, ev_ent cy base ext (w_nw w κ i.toNatClampNeg) (w_n w)) H1 → va_S (ev_A base) s.heap H1 locs → W p l e R s m args below meth c H1 locs (cells + 1) (slots + i.toNatClampNeg) Q (F0 m (pc + 2) L (.ref H.size :: r.map (ev_v base ext))) := by
    intro H1 z1 o1 at1 hS1
    have k1 := k H1 (ev_M_new hM hl hn z1 o1 (by rw [← hsz]; exact at1)) hS1
    rw [hsz, ← e1]
    exact k1
  have harr : ∀ w ∈ ev_arrw, w.before args s = true := fun w hw => hC.2.2.2.2.2.1 _ (ev_all_in ev_arrw_in hw)
  cases t with
  | byte =>
    cases hκ
    refine ev_newar (a0 := (i.toNatClampNeg, .inl (fun _ => 0))) (t0 := 0) (ty := .byte) hC.1 hC.2.1 (harr _ (by decide +kernel)) rfl hC.2.2.2.2.2.2.2.2.1 hS rfl (fun C h9 => by cases h9) (fun cA => rfl) h0 rfl (by show _ * 1 ≤ _; omega) hcR hsR (hd z hz) (fun H1 z1 o1 at1 hS1 => fin H1 z1 o1 ?_ hS1)
    rw [ev_enti (eK 9) (by omega), eI, eL]
    exact at1
  | int =>
    cases hκ
    refine ev_newar (a0 := (i.toNatClampNeg, .inl (fun _ => 0))) (t0 := 1) (ty := .int) hC.1 hC.2.1 (harr _ (by decide +kernel)) rfl hC.2.2.2.2.2.2.2.2.1 hS rfl (fun C h9 => by cases h9) (fun cA => rfl) h0 rfl (by show _ * 4 ≤ _; omega) hcR hsR (hd z hz) (fun H1 z1 o1 at1 hS1 => fin H1 z1 o1 ?_ hS1)
    rw [ev_enti (eK 10) (by omega), eI, eL]
    exact at1
  | boolean =>
    cases hκ
    refine ev_newar (a0 := (i.toNatClampNeg, .inl (fun _ => 0))) (t0 := 2) (ty := .boolean) hC.1 hC.2.1 (harr _ (by decide +kernel)) rfl hC.2.2.2.2.2.2.2.2.1 hS rfl (fun C h9 => by cases h9) (fun cA => rfl) h0 rfl (by show _ * 1 ≤ _; omega) hcR hsR (hd z hz) (fun H1 z1 o1 at1 hS1 => fin H1 z1 o1 ?_ hS1)
    rw [ev_enti (eK 11) (by omega), eI, eL]
    exact at1
  | long =>
    cases hκ
    refine ev_newar (a0 := (i.toNatClampNeg, .inr (.inl (fun _ => 0)))) (t0 := 5) (ty := .long) hC.1 hC.2.1 (harr _ (by decide +kernel)) rfl hC.2.2.2.2.2.2.2.2.1 hS rfl (fun C h9 => by cases h9) (fun cA => rfl) h0 rfl (by show _ * 8 ≤ _; omega) hcR hsR (hd z hz) (fun H1 z1 o1 at1 hS1 => fin H1 z1 o1 ?_ hS1)
    rw [ev_entj (eK 14), eJ, eL]
    exact at1
  | double => cases hκ
  | char => cases hκ
  | float => cases hκ
  | short => cases hκ
theorem ev_x_newq {ix ci κ : Nat} {i : Int32} (hf : ∀ z, ev_mel j = some z → ev_look2 (ev_own1 z) ix ev_clt = some ci) (hκ : (ci = 0 ∧ κ = 12) ∨ (ci = 5 ∧ κ = 13)) (hl : w_l w = true) (hn : w_n w < 1000) (hi : ev_ok i 100000 = true) (hd : ∀ z, ev_mel j = some z → decode (ev_by z) pc = .ok (.anewarray ix, 3)) (h : ev_Snd D cy base ext SL SX l j (pc + 3) ls (.ref (w_n w) :: r) (w_nw w κ i.toNatClampNeg) o w1) : ev_Snd D cy base ext SL SX l j pc ls (.int i :: r) w o w1 := by
  refine ev_nstep (w' := (w_nw w κ i.toNatClampNeg)) rfl rfl h (fun z hz p e R s m args below meth c hC H locs cells slots Q L hM hS hcR hsR k => ?_)
  obtain ⟨l9, h1, h2⟩ := ev_look2_mem (hf z hz)
  have hsz : H.size = base + w_n w := hM.2.2.2.1 hl
  have e1 : ev_ρ base ext (w_n w) = base + w_n w := ev_ρ_lt (by omega)
  have hin := ev_ok_in hi
  have hb : i.toNatClampNeg < 100000 := Nat.not_le.mp fun q => hin (Or.inr q)
  have h0 : ¬ i < 0 := fun q => hin (Or.inl q)
  have hclw : ∀ q, vwCl[ci]? = some q → Cond.classLink (ev_y z).cls ix q.1 ∈ ev_all := by
    intro q hq
    have h3 : ev_clw1 (ev_own1 z) (ix, ci) ∈ ev_clw := List.mem_flatMap.mpr ⟨_, h1, List.mem_map.mpr ⟨_, h2, rfl⟩⟩
    have h4 := ev_all_in ev_clw_in h3
    unfold ev_clw1 at h4
    dsimp only at h4
    rw [hq, hC.2.2.2.2.2.2.2.2.2.2.2.1] at h4
    exact h4
  have eR : w_R (w_nw w κ i.toNatClampNeg) (w_n w) = fun _ => none := ev_u1_at _ _ _
  have eL : w_L (w_nw w κ i.toNatClampNeg) (w_n w) = i.toNatClampNeg := ev_u1_at _ _ _
  have eK : w_K (w_nw w κ i.toNatClampNeg) (w_n w) = κ := ev_u1_at _ _ _
  have fin : ∀ H1 : Heap, H1.size = H.size + 1 → (∀ q, q < H.size → H1[q]? = H[q]?) → va_at D vwCl (H.size, .inl (cy κ, i.toNatClampNeg, .inr (.inr (.inr (.inr (fun _ => none)))))) H1 → va_S (ev_A base) s.heap H1 locs → W p l e R s m args below meth c H1 locs (cells + 1) (slots + i.toNatClampNeg) Q (F0 m (pc + 3) L (.ref H.size :: r.map (ev_v base ext))) := by
    intro H1 z1 o1 at1 hS1
    have k1 := k H1 (ev_M_new hM hl hn z1 o1 (by
      rw [← hsz, ev_entq eK (by omega), eR, eL]
      exact at1)) hS1
    rw [hsz, ← e1]
    exact k1
  have hF := hC.2.2.2.2.2.2.2.2.2.1
  rcases hκ with ⟨rfl, rfl⟩ | ⟨rfl, rfl⟩
  · exact ev_newqr (t0 := 3) hC.1 hC.2.1 hC.2.2.2.2.1 (hC.2.2.2.2.2.1 _ (hclw (RX0, TX0, 10) rfl)) hF.2.2.1 hC.2.2.2.2.2.2.2.2.1 hS rfl h0 rfl (by omega) hcR hsR (hd z hz) fin
  · exact ev_newqr (t0 := 4) hC.1 hC.2.1 hC.2.2.2.2.1 (hC.2.2.2.2.2.1 _ (hclw (RX5, TX5, 12) rfl)) hF.2.2.2.1 hC.2.2.2.2.2.2.2.2.1 hS rfl h0 rfl (by omega) hcR hsR (hd z hz) fin
end MEM
end
section
/-! contracts out of the evaluator; calls, throws, handlers -/
theorem zt_chr {x : Int32} (h : 0 ≤ x ∧ x < 256) : narrow .char (.int x) = .int x := by
  have h1_ : ∀ k : Fin 256, narrow .char (.int (Int32.ofNat k.val)) = .int (Int32.ofNat k.val) := by decide +kernel
  have h2_ := Int32.le_iff_toInt_le.mp h.1
  have h3_ := Int32.lt_iff_toInt_lt.mp h.2
  have e1_ : (0 : Int32).toInt = 0 := by decide
  have e2_ : (256 : Int32).toInt = 256 := by decide
  rw [e1_] at h2_
  rw [e2_] at h3_
  have e3_ : x = Int32.ofNat x.toInt.toNat := by
    apply Int32.toInt_inj.mp
    rw [Int32.toInt_ofNat_of_lt (by omega)]
    omega
  rw [e3_]
  exact h1_ ⟨x.toInt.toNat, by omega⟩
section CON
variable (D : va_G) (cy : Nat → ClassId) (base : Nat) (ext : Nat → Nat) (SL : Nat) (SX : Nat → Int32)
def ev_Pc (as : List Value) (w : ev_W) : Array Value → State → Prop := va_Pc (as.map (ev_v base ext)) (fun U => ev_M D cy base ext SL SX w U.heap ∧ va_K D vwCl (ev_tys cy) U ∧ ev_F base ext U U.heap ∧ base ≤ U.heap.size ∧ va_X (ext ev_S) SL SX U U.heap ∧ ext ev_S < U.heap.size ∧ ext ev_S < base)
def ev_Qc (z : ev_ME) (o : Option Value ⊕ Nat) (w1 : ev_W) : Array Value → State → Outcome → State → Prop := fun _ st oc t => (∃ v, o = .inl v ∧ oc = .returned (v.map (ev_v base ext)) ∧ ev_rok (ev_rt z) v = true ∧ ev_M D cy base ext SL SX w1 t.heap) ∧ va_F (ev_A base) st t
def ev_XC (o : Option Value ⊕ Nat) (w1 : ev_W) : String → State → State → Prop := fun E st t => (∃ k, o = .inr k ∧ E = ev_ex k ∧ ev_M D cy base ext SL SX w1 t.heap) ∧ va_F (ev_A base) st t
def ev_rm (z : ev_ME) (mc ms : Nat) : Room := { frames := ev_fr z, cells := mc, slots := ms, locals := ev_lo z }
def ev_wz (z : ev_ME) : List Cond := ev_cw z :: ev_all
def ev_Con (l : Launch) (z : ev_ME) (as : List Value) (w : ev_W) (o : Option Value ⊕ Nat) (w1 : ev_W) : Prop := vx_Met l (ev_y z) (ev_wz z) (ev_rm z (w_c w1 - w_c w) (w_z w1 - w_z w)) (ev_Pc D cy base ext SL SX as w) (ev_Qc D cy base ext SL SX z o w1) (ev_XC D cy base ext SL SX o w1) (w_c w1 - w_c w) (w_z w1 - w_z w) (ev_A base)
end CON
section CALL
variable {D : va_G} {cy : Nat → ClassId} {base : Nat} {ext : Nat → Nat} {SL : Nat} {SX : Nat → Int32} {l : Launch} {j pc : Nat} {ls : ev_L} {r st : List Value} {w : ev_W} {o : Option Value ⊕ Nat} {w1 : ev_W}
theorem ev_mel_me {j : Nat} {z : ev_ME} (h : ev_me j = some z) : ev_mel j = some z := by
  unfold ev_mel
  rw [ev_me_law j h]
  exact h
/-- the end of a contract's body -/
theorem ev_con_end {z : ev_ME} {p : Program} {e : Env} {s : State} {m : MethodId} {args : Array Value} {below : List Frame} {meth : Method} {c : Code} {R : Room} {K N : Nat} (hx : p.tables.exec = Jvm.exec) (hb : c.code = ev_by z) (hr : meth.sig.returnType = ev_rt z) (hlocks : meth.locks = false) (ht : ev_hh z = [] → ∀ x ∈ c.exceptionTable.toList, False) :
    ev_End D cy base ext SL SX l z p e R s m args below meth c o w1 K N (vx_MQ below (ev_Qc D cy base ext SL SX z o w1) (ev_XC D cy base ext SL SX o w1) args s K N (ev_A base)) := by
  refine ⟨fun v H1 locs1 L1 pc1 ho hM1 hS1 hrok hrat => vx_ret ?_, fun E ho => ⟨_, _, _, _, rfl, Nat.le_refl _, Nat.le_refl _, ht, fun t hM1 hF1 => ⟨⟨E, ho, rfl, hM1⟩, hF1⟩⟩⟩
  have hq : ∀ t : State, t.heap = H1 → s.WarmedH t.vm → ev_Qc D cy base ext SL SX z o w1 args s (.returned (v.map (ev_v base ext))) t := fun t ht _ => ⟨⟨v, ho, rfl, hrok, by rw [ht]; exact hM1⟩, hS1.F ht⟩
  have hf : ∀ q ∈ locs1, ev_A base q.base := hS1.2.2
  cases v with
  | none =>
    have h0 : ev_rt z = none := by
      unfold ev_rok at hrok
      cases hrt : ev_rt z with
      | none => rfl
      | some t => rw [hrt] at hrok; cases t <;> cases hrok
    exact W.vret hx hb (hr.trans h0) hq hf hrat hlocks
  | some v =>
    cases hrt : ev_rt z with
    | none => rw [hrt] at hrok; cases v <;> cases hrok
    | some t =>
      rw [hrt] at hrok
      cases v with
      | int x =>
        cases t with
        | int => exact W.iret hx hb (hr.trans hrt) hq hf hrat hlocks
        | boolean =>
          have h01 : x = 0 ∨ x = 1 := of_decide_eq_true hrok
          exact W.zret hx hb (hr.trans hrt) (by rcases h01 with rfl | rfl <;> rfl) hq hf hrat hlocks
        | char =>
          have h01 : 0 ≤ x ∧ x < 256 := by
            have h02 : (decide (0 ≤ x) && decide (x < 256)) = true := hrok
            rw [Bool.and_eq_true, decide_eq_true_eq, decide_eq_true_eq] at h02
            exact h02
          exact W.zret hx hb (hr.trans hrt) (zt_chr h01) hq hf hrat hlocks
        | byte =>
          have h01 : x = 0 ∨ x = 1 := of_decide_eq_true hrok
          exact W.zret hx hb (hr.trans hrt) (by rcases h01 with rfl | rfl <;> rfl) hq hf hrat hlocks
        | _ => cases hrok
      | float x =>
        cases t with
        | float => exact W.fret hx hb (hr.trans hrt) hq hf hrat hlocks
        | _ => cases hrok
      | double x =>
        cases t with
        | double => exact W.dret hx hb (hr.trans hrt) hq hf hrat hlocks
        | _ => cases hrok
      | ref x =>
        cases t with
        | object C => exact W.aret hx hb (hr.trans hrt) (Or.inl ⟨C, rfl⟩) (Or.inr ⟨_, rfl⟩) hq hf hrat hlocks
        | array C => exact W.aret hx hb (hr.trans hrt) (Or.inr ⟨C, rfl⟩) (Or.inr ⟨_, rfl⟩) hq hf hrat hlocks
        | _ => cases hrok
      | null => exact absurd hrat (fun q => q)
      | long x =>
        cases t with
        | long => exact W.lret hx hb (hr.trans hrt) hq hf hrat hlocks
        | _ => cases hrok
      | retAddr x => cases t <;> cases hrok
theorem ev_con {z : ev_ME} {as : List Value} (hz : ev_me j = some z) (hl : l.stackTraces = false) (has : ∀ v ∈ as, v.category = 1) (hlen : as.length ≤ ev_ml z) (h : ev_Snd D cy base ext SL SX l j 0 (ev_in (ev_ml z) as) [] w o w1) : ev_Con D cy base ext SL SX l z as w o w1 := by
  obtain ⟨h1, h2, h3⟩ := h
  have hzl := ev_mel_me hz
  have hok := ev_me_ok hz
  have main : ∀ (p : Program) (e : Env) (s : State) (m : MethodId) (args : Array Value) (below : List Frame) (meth : Method) (c : Code) (s₁ : State), BodyLoose p l (ev_y z) (headSpec (ev_wz z) (ev_rm z (w_c w1 - w_c w) (w_z w1 - w_z w))) (ev_by z) (ev_ml z) (ev_rt z) e s m args below meth c s₁ → c.maxLocals = ev_ml z → (ev_hh z = [] → ∀ x ∈ c.exceptionTable.toList, False) → ev_Pc D cy base ext SL SX as w args s →
      W p l e (headSpec (ev_wz z) (ev_rm z (w_c w1 - w_c w) (w_z w1 - w_z w))).room s m args below meth c s.heap [] 0 0 (vx_MQ below (ev_Qc D cy base ext SL SX z o w1) (ev_XC D cy base ext SL SX o w1) args s (w_c w1 - w_c w) (w_z w1 - w_z w) (ev_A base)) (entryFrame m args (ev_ml z)) := by
    intro p e s m args below meth c s₁ B hml ht hP
    obtain ⟨rfl, hM, hK, hF, hbs, hXs⟩ := hP
    have hts : ∀ w ∈ ev_wz z, w.before (as.map (ev_v base ext)).toArray s = true := atoms_spec (ws := ev_wz z) B.pre
    have hC : ev_Cx D cy base ext SL SX l j z p (headSpec (ev_wz z) (ev_rm z (w_c w1 - w_c w) (w_z w1 - w_z w))).room s m (as.map (ev_v base ext)).toArray meth c := by
      refine ⟨B.exec, B.bytes, B.returns, hml, findClass_of_methodNamed B.named, fun w hw => hts w (List.mem_cons_of_mem _ hw), B.notSynchronized, fun _ => (name_of_methodNamed B.named B.method).1, hK, hF, hbs, hok.2.1, fun hne => ?_, Nat.le_refl _, Nat.le_refl _, hl, hXs⟩
      · refine vx_table (x := ev_y z) B (y := ev_y z) (bytes := ev_by z) (maxL' := ev_ml z) (ret' := ev_rt z) ?_
        have h9 := hts _ (List.mem_cons_self : ev_cw z ∈ ev_wz z)
        unfold ev_cw at h9
        cases hh : ev_hh z with
        | nil => exact absurd hh hne
        | cons a b => rw [hh] at h9; exact h9
    rw [lg_entry_eq]
    exact h3 z hzl p e _ s m _ below meth c hC s.heap [] 0 0 _ _ (w_c w1 - w_c w) (w_z w1 - w_z w) hM va_S.rf (ev_EL_in has hlen) (by omega) (by omega) (Nat.le_refl _) (Nat.le_refl _) (ev_con_end B.exec B.bytes B.returns B.notSynchronized ht)
  unfold ev_Con
  cases hh : ev_hh z with
  | nil =>
    have hw : ev_wz z = Cond.code (ev_y z) (ev_by z) (ev_ml z) (ev_rt z) :: ev_all := by
      unfold ev_wz ev_cw
      rw [hh]
    exact vx_ofW hok.2.2.1 hw (fun p e s m args below meth c s₁ B hml ht hP => main p e s m args below meth c s₁ B hml (fun _ => ht) hP)
  | cons a b =>
    have hw : ev_wz z = Cond.codeWith (ev_y z) (ev_by z) (ev_ml z) (ev_rt z) (a :: b) :: ev_all := by
      unfold ev_wz ev_cw
      rw [hh]
    exact vx_ofWH hok.2.2.1 hw (fun p e s m args below meth c s₁ B hml hP => main p e s m args below meth c s₁ B hml (fun q => by rw [hh] at q; cases q) hP)
theorem ev_Pc_blind {as : List Value} : FrameBlind (ev_Pc D cy base ext SL SX as w) := by
  intro a U g mk h
  obtain ⟨h1, h2, h3, h4, h5, h6, h7⟩ := h
  exact ⟨h1, h2, va_K.moved (u := U) (U := U.calling g mk a) (Vm.Alike.refl U.vm) h3, ev_F_go (s := U) (U := U.calling g mk a) (State.WarmedH.refl U) h4 (fun _ _ _ => rfl), h5, va_X.moved (u := U) (U := U.calling g mk a) (Vm.Alike.refl U.vm) h6, h7⟩
/-- the callee's start, out of the caller's state -/
theorem ev_Pc_of {as : List Value} {z : ev_ME} {p : Program} {R : Room} {s : State} {m : MethodId} {args : Array Value} {meth : Method} {c : Code} {H : Heap} {locs : List Loc} (hC : ev_Cx D cy base ext SL SX l j z p R s m args meth c) (hM : ev_M D cy base ext SL SX w H) (hS : va_S (ev_A base) s.heap H locs) : ∀ U : State, U.heap = H → s.WarmedH U.vm → ev_Pc D cy base ext SL SX as w (as.map (ev_v base ext)).toArray U := by
  intro U hU hW
  refine ⟨rfl, by rw [hU]; exact hM, hC.2.2.2.2.2.2.2.2.1.moved hW.alike, ?_, ?_, ?_, ?_, ?_⟩
  · rw [hU]
    exact ev_F_go hW hC.2.2.2.2.2.2.2.2.2.1 hS.2.1
  · rw [hU]
    exact Nat.le_trans hC.2.2.2.2.2.2.2.2.2.2.1 hS.1
  · obtain ⟨x1_, x2_, x3_⟩ := hC.2.2.2.2.2.2.2.2.2.2.2.2.2.2.2.2
    rw [hU]
    exact (va_X.moved hW.alike x1_).kept (hS.2.1 _ x2_ (fun q => absurd (show base ≤ ext ev_S from q) (by omega)))
  · have x2_ := hC.2.2.2.2.2.2.2.2.2.2.2.2.2.2.2.2.2.1
    rw [hU]
    exact Nat.lt_of_lt_of_le x2_ hS.1
  · exact hC.2.2.2.2.2.2.2.2.2.2.2.2.2.2.2.2.2.2
end CALL
end
section
section CALL
variable {D : va_G} {cy : Nat → ClassId} {base : Nat} {ext : Nat → Nat} {SL : Nat} {SX : Nat → Int32} {l : Launch} {j pc : Nat} {ls : ev_L} {r st : List Value} {w : ev_W} {o : Option Value ⊕ Nat} {w1 : ev_W}
theorem ev_beq_self : ∀ n : Nat, Nat.beq n n = true
  | 0 => rfl
  | n + 1 => ev_beq_self n
theorem ev_cast_in {k : Nat} (h : k < 3) : Cond.castable (ev_ex k) (ev_ex k) ∈ ev_ngw := by
  match k, h with
  | 0, _ => exact List.mem_of_getElem? (i := 0) rfl
  | 1, _ => exact List.mem_of_getElem? (i := 1) rfl
  | 2, _ => exact List.mem_of_getElem? (i := 2) rfl
theorem ev_hct_ok : ev_hct.all (fun q => decide (q.1 ≠ 0) && decide (q.2 < 3)) = true := by decide +kernel
theorem ev_hct_of {i E : Nat} (h : ev_look i ev_hct = some E) : i ≠ 0 ∧ E < 3 ∧ Cond.classLink "FlagLaundryLaw" i (ev_ex E) ∈ ev_all := by
  have h1 := ev_look_mem h
  have h2 := List.all_eq_true.mp ev_hct_ok _ h1
  simp only [Bool.and_eq_true, decide_eq_true_eq] at h2
  exact ⟨h2.1, h2.2, ev_all_in ev_hcw_in (List.mem_map.mpr ⟨_, h1, rfl⟩)⟩
theorem ev_han_sp {pc E q : Nat} : ∀ {hh : List (Nat × Nat × Nat × Nat)}, ev_han pc E hh = some q → ∃ (pre : List ExceptionTableEntry) (x : ExceptionTableEntry) (suf : List ExceptionTableEntry), tableOf hh = pre ++ x :: suf ∧ x.handlerPc = q ∧ covers x pc = true ∧ ev_look x.catchType ev_hct = some E ∧ ∀ y ∈ pre, covers y pc = false ∨ ∃ E2, E2 ≠ E ∧ ev_look y.catchType ev_hct = some E2
  | [], h => by cases h
  | a :: b, h => by
    unfold ev_han at h
    cases hl : ev_look a.2.2.2 ev_hct with
    | none => rw [hl] at h; cases h
    | some E2 =>
      rw [hl] at h
      dsimp only at h
      cases hc : (decide (a.1 ≤ pc) && decide (pc < a.2.1) && Nat.beq E E2) with
      | true =>
        rw [hc] at h
        have h9 : a.2.2.1 = q := Option.some.inj h
        simp only [Bool.and_eq_true] at hc
        have hE := Nat.eq_of_beq_eq_true hc.2
        subst hE
        exact ⟨[], ⟨a.1, a.2.1, a.2.2.1, a.2.2.2⟩, tableOf b, rfl, h9, by show (decide _ && decide _) = true; rw [hc.1.1, hc.1.2]; rfl, hl, fun y hy => by cases hy⟩
      | false =>
        rw [hc] at h
        obtain ⟨pre, x, suf, g1, g2, g3, g4, g5⟩ := ev_han_sp (hh := b) h
        refine ⟨⟨a.1, a.2.1, a.2.2.1, a.2.2.2⟩ :: pre, x, suf, ?_, g2, g3, g4, fun y hy => ?_⟩
        · show (⟨a.1, a.2.1, a.2.2.1, a.2.2.2⟩ : ExceptionTableEntry) :: tableOf b = _
          rw [g1]
          rfl
        · rcases List.mem_cons.mp hy with rfl | hy
          · by_cases hE : E2 = E
            · refine Or.inl ?_
              show (decide (a.1 ≤ pc) && decide (pc < a.2.1)) = false
              have hb9 : Nat.beq E E2 = true := by rw [hE]; exact ev_beq_self E
              rw [hb9, Bool.and_true] at hc
              exact hc
            · exact Or.inr ⟨E2, hE, hl⟩
          · exact g5 y hy
theorem ev_x_call {rest : List Value} {e2 : ev_ME} {o2 : Option Value ⊕ Nat} {w2 : ev_W} {z0 : ev_ME} (hz0 : ev_mel j = some z0) (hz0k : ev_hh z0 ≠ [] → (ev_y z0).cls = "FlagLaundryLaw") (hc2 : w_c w ≤ w_c w2) (hs2 : w_z w ≤ w_z w2) (hm1 : w_c w2 ≤ w_c w1) (hm2 : w_z w2 ≤ w_z w1)
    (hgo : ∀ v, o2 = .inl v → ev_rok (ev_rt e2) v = true → ev_Snd D cy base ext SL SX l j (pc + 3) ls (v.toList ++ rest) w2 o w1)
    (hx : ∀ E, o2 = .inr E → w1 = w2 ∧ ((ev_hh z0 = [] ∧ o = .inr E) ∨ ∃ q k, ev_han pc E (ev_hh z0) = some q ∧ ev_hret j q ls = some k ∧ ev_rok (ev_rt z0) (some (.int k)) = true ∧ o = .inl (some (.int k))))
    (hrun : ∀ (p : Program) (e : Env) (R : Room) (s : State) (m : MethodId) (args : Array Value) (below : List Frame) (meth : Method) (c : Code), ev_Cx D cy base ext SL SX l j z0 p R s m args meth c → ∀ (H : Heap) (locs : List Loc) (cells slots : Nat) (L : Array Slot), ev_M D cy base ext SL SX w H → va_S (ev_A base) s.heap H locs → ev_EL base ext L (ev_ml z0) ls → cells + (w_c w2 - w_c w) ≤ R.cells → slots + (w_z w2 - w_z w) ≤ R.slots →
      ∃ arr, vx_Run p l e R s m args below meth c H locs cells slots (w_c w2 - w_c w) (w_z w2 - w_z w) (F0 m pc L (st.map (ev_v base ext))) (rest.map (ev_v base ext)) (ev_Qc D cy base ext SL SX e2 o2 w2 arr) (ev_XC D cy base ext SL SX o2 w2) (ev_A base)) : ev_Snd D cy base ext SL SX l j pc ls st w o w1 := by
  refine ⟨Nat.le_trans hc2 hm1, Nat.le_trans hs2 hm2, fun z hz p e R s m args below meth c hC H locs cells slots Q L K N hM hS hE hcc hss hK hN hend => ?_⟩
  cases Option.some.inj (hz0.symm.trans hz)
  obtain ⟨arr, hr⟩ := hrun p e R s m args below meth c hC H locs cells slots L hM hS hE (by omega) (by omega)
  refine ev_callG hr hS (fun q h => h) (fun st9 v t h0 hq => ?_) (fun E st9 t h0 hq => ?_) (fun E ce q9 st9 t H1 locs1 h0 ht hq hS1 hce hcv hcl => ?_) (fun v st9 t H1 locs1 h0 ht hq hS1 => ?_)
  · have h9 := hq.2
    unfold va_F at h9
    rw [h0] at h9
    exact h9
  · have h9 := hq.2
    unfold va_F at h9
    rw [h0] at h9
    exact h9
  · obtain ⟨⟨k, ho2, hE9, hM2⟩, hF2⟩ := hq
    subst hE9
    rw [ht] at hM2
    obtain ⟨hw, hcase⟩ := hx k ho2
    subst hw
    rcases hcase with ⟨hh, ho⟩ | ⟨q, kk, hq1, hq2, hq3, ho⟩
    · obtain ⟨Qc, XC, mc', ms', hQ, hKm, hNm, htab, hfin⟩ := hend.2 k ho
      subst hQ
      exact vx_out (fun x hx9 => (htab hh x hx9).elim) hC.2.2.2.2.2.2.1 hce hcv hcl (fun t9 ht9 _ => hfin t9 (by rw [ht9]; exact hM2) (hS1.F ht9)) (fun z9 hz9 => hS1.2.2 z9 hz9) (by omega) (by omega)
    · obtain ⟨pre, x, suf, g1, g2, g3, g4, g5⟩ := ev_han_sp hq1
      have hne : ev_hh z0 ≠ [] := by
        intro h9
        rw [h9] at hq1
        cases hq1
      have hF := hC.2.2.2.2.2.2.2.2.2.1
      obtain ⟨i1, i2, i3⟩ := ev_hct_of g4
      have hown : s.vm.findClass "FlagLaundryLaw" = some m.cls := by
        rw [← hz0k hne]
        exact hC.2.2.2.2.1
      have hK9 : K = cells + (w_c w1 - w_c w) := by omega
      have hN9 : N = slots + (w_z w1 - w_z w) := by omega
      subst hK9; subst hN9
      refine vx_catch hown pre x suf (by rw [hC.2.2.2.2.2.2.2.2.2.2.2.2.1 hne, g1]) (fun y hy => ?_) g3 i1 (hC.2.2.2.2.2.1 _ i3) (va_Nw.use rfl (hF.1 _ (ev_cast_in i2))) hce hcv hcl ?_
      · rcases g5 y hy with h9 | ⟨E2, h8, h9⟩
        · exact Or.inl h9
        · obtain ⟨j1, j2, j3⟩ := ev_hct_of h9
          exact Or.inr ⟨j1, _, hC.2.2.2.2.2.1 _ j3, hF.2.1 k E2 i2 j2 (fun q9 => h8 q9.symm)⟩
      · rw [g2]
        unfold ev_hret at hq2
        have hx9 := hC.1
        have hb9 := hC.2.1
        split at hq2
        · rename_i a hcd
          cases hb1 : (decide ((a : Nat) < ls.length) && ev_c1 ls a) with
          | false => rw [hb1] at hq2; cases hq2
          | true =>
            rw [hb1] at hq2
            simp only [Bool.and_eq_true, decide_eq_true_eq] at hb1
            dsimp only [cond_true] at hq2
            split at hq2
            · rename_i n c1 c2
              have hkk : Int32.ofInt n = kk := Option.some.inj hq2
              refine lv_astore_n hx9 hb9 (ev_cd_ok hz hcd) rfl (ev_EL_has hE) (by rw [← hE.1]; exact hb1.1) rfl (fun L2 h2 => ?_)
              refine lv_iconst hx9 hb9 (ev_cd_ok hz c1) hkk ?_
              exact hend.1 (some (.int kk)) H1 locs1 L2 (q + 1 + 1) ho hM2 hS1 hq3 (ev_cd_ok hz c2)
            · cases hq2
        · rename_i a hcd
          cases hb1 : (decide (a < ls.length) && ev_c1 ls a) with
          | false => rw [hb1] at hq2; cases hq2
          | true =>
            rw [hb1] at hq2
            simp only [Bool.and_eq_true, decide_eq_true_eq] at hb1
            dsimp only [cond_true] at hq2
            split at hq2
            · rename_i n c1 c2
              have hkk : Int32.ofInt n = kk := Option.some.inj hq2
              refine lv_astore hx9 hb9 (ev_cd_ok hz hcd) (ev_EL_has hE) (by rw [← hE.1]; exact hb1.1) rfl (fun L2 h2 => ?_)
              refine lv_iconst hx9 hb9 (ev_cd_ok hz c1) hkk ?_
              exact hend.1 (some (.int kk)) H1 locs1 L2 (q + 2 + 1) ho hM2 hS1 hq3 (ev_cd_ok hz c2)
            · cases hq2
        · cases hq2
  · obtain ⟨⟨v9, ho2, hoc, hrok, hM2⟩, hF2⟩ := hq
    have hv : v = v9.map (ev_v base ext) := Outcome.returned.inj hoc
    subst hv
    rw [ht] at hM2
    have h9 := hgo v9 ho2 hrok
    have e9 : (v9.toList ++ rest).map (ev_v base ext) = (v9.map (ev_v base ext)).toList ++ rest.map (ev_v base ext) := by cases v9 <;> rfl
    have k9 := h9.2.2 z0 hz p e R s m args below meth c hC H1 locs1 (cells + (w_c w2 - w_c w)) (slots + (w_z w2 - w_z w)) Q L K N hM2 hS1 hE (by omega) (by omega) hK hN hend
    rw [e9] at k9
    exact k9
end CALL
end
section
section CALL
variable {D : va_G} {cy : Nat → ClassId} {base : Nat} {ext : Nat → Nat} {SL : Nat} {SX : Nat → Int32} {l : Launch} {j pc : Nat} {ls : ev_L} {r st : List Value} {w : ev_W} {o : Option Value ⊕ Nat} {w1 : ev_W}
/-- what a call's link gives -/
theorem ev_tg_of {o9 ix j2 : Nat} {e2 : ev_ME} (h : ev_look2 o9 ix ev_tgt = some j2) (h2 : ev_me j2 = some e2) : Cond.methodLink (ev_own.getD o9 "") ix (ev_y e2) ∈ ev_all := by
  obtain ⟨l9, h3, h4⟩ := ev_look2_mem h
  have h5 : ev_tgw1 o9 (ix, j2) ∈ ev_tgw (o9, l9) := List.mem_map.mpr ⟨_, h4, rfl⟩
  have h6 := ev_all_in (ev_tgw_in _ h3) h5
  unfold ev_tgw1 at h6
  rw [h2] at h6
  exact h6
theorem ev_me_words {j2 : Nat} {e2 : ev_ME} (h2 : ev_me j2 = some e2) : ev_cw e2 ∈ ev_all ∧ Cond.initialized (ev_y e2).cls ∈ ev_all ∧ (ev_kd e2 = 0 → Cond.static (ev_y e2) ∈ ev_all) ∧ (ev_kd e2 ≠ 0 → Cond.instanceMethod (ev_y e2) ∈ ev_all) ∧ (ev_kd e2 = 1 → Cond.selects (ev_y e2).cls (ev_y e2) (ev_y e2) ∈ ev_all) := by
  have h := (ev_me_ok h2).1
  unfold ev_mw at h
  refine ⟨h _ List.mem_cons_self, h _ (List.mem_cons_of_mem _ List.mem_cons_self), fun hk => ?_, fun hk => ?_, fun hk => ?_⟩
  · rw [hk] at h
    exact h _ (List.mem_cons_of_mem _ (List.mem_cons_of_mem _ List.mem_cons_self))
  · refine h _ (List.mem_cons_of_mem _ (List.mem_cons_of_mem _ ?_))
    split
    · rename_i h0; exact absurd h0 hk
    · exact List.mem_cons_self
    · exact List.mem_cons_self
  · rw [hk] at h
    exact h _ (List.mem_cons_of_mem _ (List.mem_cons_of_mem _ (List.mem_cons_of_mem _ List.mem_cons_self)))
theorem ev_ws_ok {e2 : ev_ME} {j2 : Nat} (h2 : ev_me j2 = some e2) {args : Array Value} {s : State} (hts : ∀ w ∈ ev_all, w.before args s = true) : ∀ w ∈ ev_wz e2, ∀ (a' : Array Value) (U : State), s.WarmedH U.vm → w.before a' U = true :=
  pay_in hts (fun w hw => by
    rcases List.mem_cons.mp hw with rfl | hw
    · exact ev_good (ws := [ev_cw e2]) (fun w hw => by rw [List.mem_singleton.mp hw]; exact (ev_me_words h2).1) _ List.mem_cons_self
    · exact ⟨hw, ev_all_good hw⟩)
theorem ev_rmk_of {z e2 : ev_ME} {R : Room} (h : ev_rmk z e2 = true) (h1 : ev_fr z ≤ R.frames) (h2 : ev_lo z ≤ R.locals) : ev_fr e2 + 1 ≤ R.frames ∧ 8 + (ev_ml e2 + 11) + ev_lo e2 ≤ R.locals := by
  unfold ev_rmk at h
  simp only [Bool.and_eq_true, decide_eq_true_eq] at h
  exact ⟨by omega, by omega⟩
theorem ev_na_of {e2 : ev_ME} (h : ev_meok e2) : ∀ sig, parseMethodDescriptor (ev_y e2).desc = some sig → ev_na e2 = sig.parameters.length := by
  intro sig hs
  have h2 := h.2.2.2.2.1
  rw [hs] at h2
  exact (Option.some.inj h2).symm
theorem ev_monr {L : Array Slot} {m : MethodId} {rest : List Value} (h : ev_cat rest ≤ 8) : 2 * (F0 m pc L st).monitorRoom + ((rest.map (ev_v base ext)).map fun v => v.category).sum ≤ 8 := by
  refine lv_room ?_
  rw [ev_v_cats]
  exact h
theorem ev_runV {z0 e2 : ev_ME} {j2 ix a : Nat} {as rest : List Value} {o2 : Option Value ⊕ Nat} {w2 : ev_W} (h1 : ev_look2 (ev_own1 z0) ix ev_tgt = some j2) (h2 : ev_me j2 = some e2) (hkd : ev_kd e2 = 1) (hlen : as.length = ev_na e2) (ha : a < w_n w) (hk : w_K w a = ev_own1 e2) (hcat : ev_cat rest ≤ 8) (hrm : ev_rmk z0 e2 = true) (hd : decode (ev_by z0) pc = .ok (.invokevirtual ix, 3)) (hcon : ev_Con D cy base ext SL SX l e2 (.ref a :: as) w o2 w2) :
    ∀ (p : Program) (e : Env) (R : Room) (s : State) (m : MethodId) (args : Array Value) (below : List Frame) (meth : Method) (c : Code), ev_Cx D cy base ext SL SX l j z0 p R s m args meth c → ∀ (H : Heap) (locs : List Loc) (cells slots : Nat) (L : Array Slot), ev_M D cy base ext SL SX w H → va_S (ev_A base) s.heap H locs → ev_EL base ext L (ev_ml z0) ls → cells + (w_c w2 - w_c w) ≤ R.cells → slots + (w_z w2 - w_z w) ≤ R.slots →
      ∃ arr, vx_Run p l e R s m args below meth c H locs cells slots (w_c w2 - w_c w) (w_z w2 - w_z w) (F0 m pc L ((as.reverse ++ .ref a :: rest).map (ev_v base ext))) (rest.map (ev_v base ext)) (ev_Qc D cy base ext SL SX e2 o2 w2 arr) (ev_XC D cy base ext SL SX o2 w2) (ev_A base) := by
  intro p e R s m args below meth c hC H locs cells slots L hM hS hE hcR hsR
  have hok := ev_me_ok h2
  obtain ⟨hh, hci, r9, hr9, hr9c⟩ := hok.2.2.2.2.2.2.1 hkd
  obtain ⟨w1', w2', w3', w4', w5'⟩ := ev_me_words h2
  have hts := hC.2.2.2.2.2.1
  have hlink := ev_tg_of h1 h2
  rw [hC.2.2.2.2.2.2.2.2.2.2.2.1] at hlink
  have hM2 := hM.2.1
  have hcw : ev_cw e2 = Cond.code (ev_y e2) (ev_by e2) (ev_ml e2) (ev_rt e2) := by
    unfold ev_cw
    rw [hh]
  refine ⟨(Value.ref (base + a) :: as.map (ev_v base ext)).toArray, ?_⟩
  refine vx_runV (n := ev_na e2) (index := ix) (C := (ev_y e2).cls) (bytes := ev_by e2) (maxL := ev_ml e2) (ret := ev_rt e2) (As := as.map (ev_v base ext)) (b := base + a) ⟨hC.1, hC.2.1, hC.2.2.2.1, hC.2.2.2.2.1, hts⟩ hcon ⟨⟨rfl, rfl, (ev_rmk_of hrm hC.2.2.2.2.2.2.2.2.2.2.2.2.2.1 hC.2.2.2.2.2.2.2.2.2.2.2.2.2.2.1).1, (ev_rmk_of hrm hC.2.2.2.2.2.2.2.2.2.2.2.2.2.1 hC.2.2.2.2.2.2.2.2.2.2.2.2.2.2.1).2, ev_ws_ok h2 hts, by unfold ev_wz; rw [← hcw]; exact List.mem_cons_self, by rw [← hcw]; exact hts _ w1', hts _ w2', hok.2.2.2.1, ev_na_of hok, hts _ hlink⟩, hts _ (w4' (by rw [hkd]; decide)), hts _ (w5' hkd)⟩ ⟨ev_Pc_blind, ?_, fun U hU hW => ?_⟩ rfl (by rw [List.length_map]; exact hlen) hE.2.1 ?_ (ev_monr hcat) hd ⟨hcR, hsR⟩
  · have h9 := va_recv hC.2.2.2.2.2.2.2.2.1 hM.1 hr9 (show (ev_ws cy base ext w)[a]? = some (base + a, .inr (ev_own1 e2, ev_fs base ext w a (ev_own1 e2))) by rw [ev_ws_at ha, ev_ents hk hci])
    rw [hr9c] at h9
    exact h9
  · have h9 := ev_Pc_of (as := .ref a :: as) hC hM hS U hU hW
    rw [List.map_cons, ev_v_ref ⟨H, hM⟩ ha] at h9
    exact h9
  · show (as.reverse ++ .ref a :: rest).map (ev_v base ext) = _
    rw [List.map_append, List.map_cons, ev_v_ref ⟨H, hM⟩ ha, List.map_reverse]
theorem ev_runS {z0 e2 : ev_ME} {j2 ix : Nat} {as rest : List Value} {o2 : Option Value ⊕ Nat} {w2 : ev_W} (h1 : ev_look2 (ev_own1 z0) ix ev_tgt = some j2) (h2 : ev_me j2 = some e2) (hkd : ev_kd e2 = 0) (hlen : as.length = ev_na e2) (hcat : ev_cat rest ≤ 8) (hrm : ev_rmk z0 e2 = true) (hd : decode (ev_by z0) pc = .ok (.invokestatic ix, 3)) (hcon : ev_Con D cy base ext SL SX l e2 as w o2 w2) :
    ∀ (p : Program) (e : Env) (R : Room) (s : State) (m : MethodId) (args : Array Value) (below : List Frame) (meth : Method) (c : Code), ev_Cx D cy base ext SL SX l j z0 p R s m args meth c → ∀ (H : Heap) (locs : List Loc) (cells slots : Nat) (L : Array Slot), ev_M D cy base ext SL SX w H → va_S (ev_A base) s.heap H locs → ev_EL base ext L (ev_ml z0) ls → cells + (w_c w2 - w_c w) ≤ R.cells → slots + (w_z w2 - w_z w) ≤ R.slots →
      ∃ arr, vx_Run p l e R s m args below meth c H locs cells slots (w_c w2 - w_c w) (w_z w2 - w_z w) (F0 m pc L ((as.reverse ++ rest).map (ev_v base ext))) (rest.map (ev_v base ext)) (ev_Qc D cy base ext SL SX e2 o2 w2 arr) (ev_XC D cy base ext SL SX o2 w2) (ev_A base) := by
  intro p e R s m args below meth c hC H locs cells slots L hM hS hE hcR hsR
  have hok := ev_me_ok h2
  obtain ⟨w1', w2', w3', w4', w5'⟩ := ev_me_words h2
  have hts := hC.2.2.2.2.2.1
  have hlink := ev_tg_of h1 h2
  rw [hC.2.2.2.2.2.2.2.2.2.2.2.1] at hlink
  refine ⟨(as.map (ev_v base ext)).toArray, ?_⟩
  have hstk : (F0 m pc L ((as.reverse ++ rest).map (ev_v base ext))).stack = (as.map (ev_v base ext)).reverse ++ rest.map (ev_v base ext) := by
    show (as.reverse ++ rest).map (ev_v base ext) = _
    rw [List.map_append, List.map_reverse]
  cases hh : ev_hh e2 with
  | nil =>
    have hcw : ev_cw e2 = Cond.code (ev_y e2) (ev_by e2) (ev_ml e2) (ev_rt e2) := by
      unfold ev_cw
      rw [hh]
    exact vx_runS (n := ev_na e2) (index := ix) (bytes := ev_by e2) (maxL := ev_ml e2) (ret := ev_rt e2) (As := as.map (ev_v base ext)) ⟨hC.1, hC.2.1, hC.2.2.2.1, hC.2.2.2.2.1, hts⟩ hcon ⟨⟨rfl, rfl, (ev_rmk_of hrm hC.2.2.2.2.2.2.2.2.2.2.2.2.2.1 hC.2.2.2.2.2.2.2.2.2.2.2.2.2.2.1).1, (ev_rmk_of hrm hC.2.2.2.2.2.2.2.2.2.2.2.2.2.1 hC.2.2.2.2.2.2.2.2.2.2.2.2.2.2.1).2, ev_ws_ok h2 hts, by unfold ev_wz; rw [← hcw]; exact List.mem_cons_self, by rw [← hcw]; exact hts _ w1', hts _ w2', hok.2.2.2.1, ev_na_of hok, hts _ hlink⟩, hts _ (w3' hkd)⟩ ⟨ev_Pc_blind, ev_Pc_of hC hM hS⟩ rfl (by rw [List.length_map]; exact hlen) hE.2.1 hstk (ev_monr hcat) hd ⟨hcR, hsR⟩
  | cons a b =>
    have hcw : ev_cw e2 = Cond.codeWith (ev_y e2) (ev_by e2) (ev_ml e2) (ev_rt e2) (a :: b) := by
      unfold ev_cw
      rw [hh]
    exact vx_runSX (hh := a :: b) (n := ev_na e2) (index := ix) (bytes := ev_by e2) (maxL := ev_ml e2) (ret := ev_rt e2) (As := as.map (ev_v base ext)) ⟨hC.1, hC.2.1, hC.2.2.2.1, hC.2.2.2.2.1, hts⟩ hcon ⟨⟨rfl, rfl, (ev_rmk_of hrm hC.2.2.2.2.2.2.2.2.2.2.2.2.2.1 hC.2.2.2.2.2.2.2.2.2.2.2.2.2.2.1).1, (ev_rmk_of hrm hC.2.2.2.2.2.2.2.2.2.2.2.2.2.1 hC.2.2.2.2.2.2.2.2.2.2.2.2.2.2.1).2, ev_ws_ok h2 hts, by unfold ev_wz; rw [← hcw]; exact List.mem_cons_self⟩, by rw [← hcw]; exact hts _ w1', hts _ w2', hok.2.2.2.1, ev_na_of hok, hts _ hlink, hts _ (w3' hkd)⟩ ⟨ev_Pc_blind, ev_Pc_of hC hM hS⟩ rfl (by rw [List.length_map]; exact hlen) hE.2.1 hstk (ev_monr hcat) hd ⟨hcR, hsR⟩
theorem ev_runI {z0 e2 : ev_ME} {j2 ix a : Nat} {as rest : List Value} {o2 : Option Value ⊕ Nat} {w2 : ev_W} (h1 : (ev_look2 (ev_own1 z0) ix ev_tgt = some j2 ∧ ev_kd e2 = 2) ∨ (ev_own1 z0 = ev_nst.1 ∧ ix = ev_nst.2.1 ∧ j2 = ev_nst.2.2)) (h2 : ev_me j2 = some e2) (hlen : as.length = ev_na e2) (ha : a < w_n w) (hcat : ev_cat rest ≤ 8) (hrm : ev_rmk z0 e2 = true) (hd : decode (ev_by z0) pc = .ok (.invokespecial ix, 3)) (hcon : ev_Con D cy base ext SL SX l e2 (.ref a :: as) w o2 w2) :
    ∀ (p : Program) (e : Env) (R : Room) (s : State) (m : MethodId) (args : Array Value) (below : List Frame) (meth : Method) (c : Code), ev_Cx D cy base ext SL SX l j z0 p R s m args meth c → ∀ (H : Heap) (locs : List Loc) (cells slots : Nat) (L : Array Slot), ev_M D cy base ext SL SX w H → va_S (ev_A base) s.heap H locs → ev_EL base ext L (ev_ml z0) ls → cells + (w_c w2 - w_c w) ≤ R.cells → slots + (w_z w2 - w_z w) ≤ R.slots →
      ∃ arr, vx_Run p l e R s m args below meth c H locs cells slots (w_c w2 - w_c w) (w_z w2 - w_z w) (F0 m pc L ((as.reverse ++ .ref a :: rest).map (ev_v base ext))) (rest.map (ev_v base ext)) (ev_Qc D cy base ext SL SX e2 o2 w2 arr) (ev_XC D cy base ext SL SX o2 w2) (ev_A base) := by
  intro p e R s m args below meth c hC H locs cells slots L hM hS hE hcR hsR
  have hok := ev_me_ok h2
  have hkd : ev_kd e2 = 2 ∨ ev_kd e2 = 3 := by
    rcases h1 with h1 | ⟨-, -, rfl⟩
    · exact Or.inl h1.2
    · refine Or.inr ?_
      have h9 : (ev_me ev_nst.2.2).map ev_kd = some 3 := by decide +kernel
      rw [h2] at h9
      exact Option.some.inj h9
  obtain ⟨hnm, hh, hrt⟩ := hok.2.2.2.2.2.1 hkd
  obtain ⟨w1', w2', w3', w4', w5'⟩ := ev_me_words h2
  have hts := hC.2.2.2.2.2.1
  have hinst := hts _ (w4' (by rcases hkd with q | q <;> rw [q] <;> decide))
  have hcw : ev_cw e2 = Cond.code (ev_y e2) (ev_by e2) (ev_ml e2) none := by
    unfold ev_cw
    rw [hh, hrt]
  have hstk : (F0 m pc L ((as.reverse ++ .ref a :: rest).map (ev_v base ext))).stack = (as.map (ev_v base ext)).reverse ++ .ref (base + a) :: rest.map (ev_v base ext) := by
    show (as.reverse ++ .ref a :: rest).map (ev_v base ext) = _
    rw [List.map_append, List.map_cons, ev_v_ref ⟨H, hM⟩ ha, List.map_reverse]
  have hpre : PreS s H (ev_Pc D cy base ext SL SX (.ref a :: as) w) (.ref (base + a) :: as.map (ev_v base ext)) := by
    refine ⟨ev_Pc_blind, fun U hU hW => ?_⟩
    have h9 := ev_Pc_of (as := .ref a :: as) hC hM hS U hU hW
    rw [List.map_cons, ev_v_ref ⟨H, hM⟩ ha] at h9
    exact h9
  refine ⟨(Value.ref (base + a) :: as.map (ev_v base ext)).toArray, ?_⟩
  rcases h1 with ⟨h1, -⟩ | ⟨n1, n2, n3⟩
  · have hlink := ev_tg_of h1 h2
    rw [hC.2.2.2.2.2.2.2.2.2.2.2.1] at hlink
    exact vx_runI (n := ev_na e2) (index := ix) (bytes := ev_by e2) (maxL := ev_ml e2) (As := as.map (ev_v base ext)) (b := base + a) ⟨hC.1, hC.2.1, hC.2.2.2.1, hC.2.2.2.2.1, hts⟩ hcon ⟨⟨rfl, rfl, (ev_rmk_of hrm hC.2.2.2.2.2.2.2.2.2.2.2.2.2.1 hC.2.2.2.2.2.2.2.2.2.2.2.2.2.2.1).1, (ev_rmk_of hrm hC.2.2.2.2.2.2.2.2.2.2.2.2.2.1 hC.2.2.2.2.2.2.2.2.2.2.2.2.2.2.1).2, ev_ws_ok h2 hts, by unfold ev_wz; rw [← hcw]; exact List.mem_cons_self, by rw [← hcw]; exact hts _ w1', hts _ w2', hok.2.2.2.1, ev_na_of hok, hts _ hlink⟩, hnm, hinst⟩ hpre rfl (by rw [List.length_map]; exact hlen) hE.2.1 hstk (ev_monr hcat) hd ⟨hcR, hsR⟩
  · have hl9 := (hC.2.2.2.2.2.2.2.2.2.1).2.2.2.2.1
    have e9 : ev_nsw = Cond.methodLinkNest (ev_y z0).cls ix (ev_y e2) "FlagLaundry" := by
      have h8 : (ev_me ev_nst.2.2).map ev_y = some ⟨"FlagLaundry$Flag", "<init>", "()V"⟩ := by decide +kernel
      rw [← n3, h2] at h8
      have h7 : ev_y e2 = ⟨"FlagLaundry$Flag", "<init>", "()V"⟩ := Option.some.inj h8
      rw [h7, n2, ← hC.2.2.2.2.2.2.2.2.2.2.2.1, n1]
      rfl
    rw [e9] at hl9
    exact vx_runIN (n := ev_na e2) (index := ix) (host := "FlagLaundry") (bytes := ev_by e2) (maxL := ev_ml e2) (As := as.map (ev_v base ext)) (b := base + a) ⟨hC.1, hC.2.1, hC.2.2.2.1, hC.2.2.2.2.1, hts⟩ hcon ⟨⟨⟨rfl, rfl, (ev_rmk_of hrm hC.2.2.2.2.2.2.2.2.2.2.2.2.2.1 hC.2.2.2.2.2.2.2.2.2.2.2.2.2.2.1).1, (ev_rmk_of hrm hC.2.2.2.2.2.2.2.2.2.2.2.2.2.1 hC.2.2.2.2.2.2.2.2.2.2.2.2.2.2.1).2, ev_ws_ok h2 hts, by unfold ev_wz; rw [← hcw]; exact List.mem_cons_self⟩, by rw [← hcw]; exact hts _ w1', hts _ w2', hok.2.2.2.1, ev_na_of hok, va_Nw.use rfl hl9⟩, hnm, hinst⟩ hpre rfl (by rw [List.length_map]; exact hlen) hE.2.1 hstk (ev_monr hcat) hd ⟨hcR, hsR⟩
end CALL
end
section
section CALL
variable {D : va_G} {cy : Nat → ClassId} {base : Nat} {ext : Nat → Nat} {SL : Nat} {SX : Nat → Int32} {l : Launch} {j pc : Nat} {ls : ev_L} {r st : List Value} {w : ev_W} {o : Option Value ⊕ Nat} {w1 : ev_W}
/-- a throw site's rows -/
def ev_thb (j : Nat) (q : Nat × Nat × Nat × Nat × Nat × Nat) : Bool := match ev_me j with
  | some z => decide (decode (ev_by z) q.1 = .ok (.new q.2.2.1, 3)) && decide (decode (ev_by z) (q.1 + 3) = .ok (.dup, 1)) && (bif Nat.beq q.2.2.2.2.2 0 then decide (decode (ev_by z) (q.1 + 4) = .ok (.ldc q.2.2.2.1, 2)) && decide (decode (ev_by z) (q.1 + 6) = .ok (.invokespecial q.2.2.2.2.1, 3)) && decide (decode (ev_by z) (q.1 + 9) = .ok (.athrow, 1))
      else decide (decode (ev_by z) (q.1 + 4) = .ok (.ldc_w q.2.2.2.1, 3)) && decide (decode (ev_by z) (q.1 + 7) = .ok (.invokespecial q.2.2.2.2.1, 3)) && decide (decode (ev_by z) (q.1 + 10) = .ok (.athrow, 1))) && decide ((ev_own1 z, q.2.1, q.2.2.1, q.2.2.2.2.1) ∈ ev_thk) && (ev_str.any (fun t => decide (t.1 = ev_own1 z) && decide (t.2.1 = q.2.2.2.1))) && decide (6 ≤ ev_fr z) && decide (82 ≤ ev_lo z) && (ev_hh z).isEmpty && decide (q.2.1 < 3)
  | none => false
set_option maxRecDepth 100000 in
theorem ev_thr_ok : ev_thr.all (fun p => p.2.all (ev_thb p.1)) = true := by decide +kernel
theorem ev_x_throw {q : Nat × Nat × Nat × Nat × Nat} (hq : ev_look2 j pc ev_thr = some q) : ev_Snd D cy base ext SL SX l j pc ls [] w (.inr q.1) (w_th w) := by
  obtain ⟨l9, h1, h2⟩ := ev_look2_mem hq
  have h3 := List.all_eq_true.mp (List.all_eq_true.mp ev_thr_ok _ h1) _ h2
  refine ⟨Nat.le_succ _, Nat.le_add_right _ _, fun z hz p e R s m args below meth c hC H locs cells slots Q L K N hM hS hE hcc hss hK hN hend => ?_⟩
  unfold ev_thb at h3
  dsimp only at h3
  cases hj : ev_me j with
  | none => rw [hj] at h3; cases h3
  | some z9 =>
    rw [hj] at h3
    dsimp only at h3
    have hzz := (ev_mel_me hj).symm.trans hz
    cases hzz
    simp only [Bool.and_eq_true, decide_eq_true_eq] at h3
    obtain ⟨⟨⟨⟨⟨⟨⟨⟨d0, d3⟩, d4⟩, hth⟩, hstr⟩, hf6⟩, hl82⟩, hhe⟩, hE3⟩ := h3
    have hh : ev_hh z = [] := List.isEmpty_iff.mp hhe
    obtain ⟨Qc, XC, mc', ms', hQ, hKm, hNm, htab, hfin⟩ := hend.2 q.1 rfl
    subst hQ
    have hts := hC.2.2.2.2.2.1
    have hown1 := hC.2.2.2.2.2.2.2.2.2.2.2.1
    have hF := hC.2.2.2.2.2.2.2.2.2.1
    have hR1 := hC.2.2.2.2.2.2.2.2.2.2.2.2.2.1
    have hR2 := hC.2.2.2.2.2.2.2.2.2.2.2.2.2.2.1
    have hc9 : w_c (w_th w) = w_c w + 1 := rfl
    have hz9 : w_z (w_th w) = w_z w + 6 := rfl
    rw [hc9] at hcc
    rw [hz9] at hss
    have a1 := List.all_eq_true.mp ev_thk_at _ hth
    have a2 := List.all_eq_true.mp ev_thk_ng _ hth
    have a3 := List.all_eq_true.mp ev_thk_ot _ hth
    dsimp only at a1 a2 a3
    rw [hown1] at a1 a2 a3
    have hk : Cond.classLink (ev_y z).cls q.2.1 (ev_ex q.1) ∈ ev_all := by
      have h9 := ev_all_in ev_thk_cl (List.mem_map.mpr ⟨_, hth, rfl⟩)
      dsimp only at h9
      rw [hown1] at h9
      exact h9
    have hini : Cond.initialized (ev_ex q.1) ∈ ev_all := by
      refine ev_all_in ev_thk_in ?_
      have h9 : q.1 = 0 ∨ q.1 = 1 ∨ q.1 = 2 := by omega
      rcases h9 with h9 | h9 | h9 <;> rw [h9]
      · exact List.mem_of_getElem? (i := 0) rfl
      · exact List.mem_of_getElem? (i := 1) rfl
      · exact List.mem_of_getElem? (i := 2) rfl
    have hat : ∀ w ∈ vx_atS (ev_y z).cls q.2.2.2.1 (ev_ex q.1) ["java/lang/RuntimeException", "java/lang/Exception"], w.before args s = true := by
      refine vx_hat (B := ev_ngw) (fun w hw => hts w (List.mem_filter.mpr ⟨of_decide_eq_true (List.all_eq_true.mp a1 w hw), (List.mem_filter.mp hw).2⟩)) (fun w hw => of_decide_eq_true (List.all_eq_true.mp a2 w hw)) (fun w hw => ?_)
      have h9 := hF.1 w hw
      unfold ev_ngw at hw
      simp only [List.mem_cons, List.not_mem_nil, or_false] at hw
      rcases hw with rfl | rfl | rfl | rfl | rfl | rfl <;> exact va_Nw.use rfl h9
    have hgood : ∀ w ∈ Cond.classLink (ev_y z).cls q.2.1 (ev_ex q.1) :: Cond.initialized (ev_ex q.1) :: vx_atS (ev_y z).cls q.2.2.2.1 (ev_ex q.1) ["java/lang/RuntimeException", "java/lang/Exception"], vx_ot w = true := fun w hw => List.all_eq_true.mp a3 w hw
    obtain ⟨t9, ht9, ht8⟩ := List.any_eq_true.mp hstr
    simp only [Bool.and_eq_true, decide_eq_true_eq] at ht8
    obtain ⟨k9, hk9⟩ := List.getElem?_of_mem ht9
    have hsr := (hF.2.2.2.2.2.1 k9 t9 hk9).1
    rw [ht8.1, ht8.2, hown1] at hsr
    have hEx : ev_ex q.1 = "java/lang/IllegalStateException" ∨ ev_ex q.1 = "java/lang/IndexOutOfBoundsException" ∨ ev_ex q.1 = "java/lang/IllegalArgumentException" := by
      have h9 : q.1 = 0 ∨ q.1 = 1 ∨ q.1 = 2 := by omega
      rcases h9 with h9 | h9 | h9 <;> rw [h9]
      · exact Or.inl rfl
      · exact Or.inr (Or.inl rfl)
      · exact Or.inr (Or.inr rfl)
    have hfit : Bundle.fit (ev_ex q.1) = true := by rcases hEx with h9 | h9 | h9 <;> rw [h9] <;> decide +kernel
    have hnames : ∀ n ∈ ["java/lang/RuntimeException", "java/lang/Exception"], Bundle.fit n = true := by decide +kernel
    have hlsz : L.size = c.maxLocals := hE.2.1.trans hC.2.2.2.1.symm
    have hxx : ∀ t : State, s.vm.Alike t.vm → H.size ≤ t.heap.size → (∀ q : Nat, q < H.size → t.heap[q]? = H[q]?) → XC (ev_ex q.1) s t := fun t _ f1 f2 => hfin t (ev_M_kept hM rfl rfl rfl f1 f2) ⟨Nat.le_trans hS.1 f1, fun x y1 y2 => (f2 x (Nat.lt_of_lt_of_le y1 hS.1)).trans (hS.2.1 x y1 y2)⟩
    cases hw9 : Nat.beq q.2.2.2.2 0 with
    | true =>
      rw [hw9] at d4
      simp only [cond_true, Bool.and_eq_true, decide_eq_true_eq] at d4
      exact vx_throwS (names := ["java/lang/RuntimeException", "java/lang/Exception"]) (own := (ev_y z).cls) (rest := []) hC.1 hC.2.1 hC.2.2.2.2.2.2.2.2.2.2.2.2.2.2.2.1 hC.2.2.2.2.1 hfit hnames (hts _ hk) (hts _ hini) hsr hat hgood hF.2.2.2.2.2.2.1 hF.2.2.2.2.2.2.2.1 hS hlsz d0 d3 d4.1.1 d4.1.2 d4.2 (fun x hx => (htab hh x hx).elim) (by show 2 + 3 < R.frames; omega) (by show 0 + (13 * (2 + 1) + 43) ≤ R.locals; omega) (by omega) (by omega) hC.2.2.2.2.2.2.1 hxx hS.2.2 (by omega) (by omega)
    | false =>
      rw [hw9] at d4
      simp only [cond_false, Bool.and_eq_true, decide_eq_true_eq] at d4
      exact vx_throwSW (names := ["java/lang/RuntimeException", "java/lang/Exception"]) (own := (ev_y z).cls) (rest := []) hC.1 hC.2.1 hC.2.2.2.2.2.2.2.2.2.2.2.2.2.2.2.1 hC.2.2.2.2.1 hfit hnames (hts _ hk) (hts _ hini) hsr hat hgood hF.2.2.2.2.2.2.1 hF.2.2.2.2.2.2.2.1 hS hlsz d0 d3 d4.1.1 d4.1.2 d4.2 (fun x hx => (htab hh x hx).elim) (by show 2 + 3 < R.frames; omega) (by show 0 + (13 * (2 + 1) + 43) ≤ R.locals; omega) (by omega) (by omega) hC.2.2.2.2.2.2.1 hxx hS.2.2 (by omega) (by omega)
end CALL
end
section
/-! the evaluator is right: by wip/gen/snd.py -/
section SOUND
variable {D : va_G} {cy : Nat → ClassId} {base : Nat} {ext : Nat → Nat} {SL : Nat} {SX : Nat → Int32} {l : Launch} {j pc : Nat} {ls : ev_L} {st : List Value} {w : ev_W} {o : Option Value ⊕ Nat} {w1 : ev_W}
theorem ev_n02 : ¬ (0 : Nat) = 2 := by decide
theorem ev_n12 : ¬ (1 : Nat) = 2 := by decide
theorem ev_hd {z0 : ev_ME} {ins : Instr} {n : Nat} (k : Nat) (hz : ev_mel j = some z0) (hd : decode (ev_by z0) pc = .ok (ins, n)) (hn : Nat.beq n k = true) : ∀ z, ev_mel j = some z → decode (ev_by z) pc = .ok (ins, k) := by
  intro z hz'
  cases Option.some.inj (hz.symm.trans hz')
  rw [← Nat.eq_of_beq_eq_true hn]
  exact hd
theorem ev_hz {z0 : ev_ME} {X : ev_ME → Prop} (hz : ev_mel j = some z0) (h : X z0) : ∀ z, ev_mel j = some z → X z := by
  intro z hz'
  cases Option.some.inj (hz.symm.trans hz')
  exact h
theorem ev_cond {α : Type} {b : Bool} {x : Option α} {y : α} (h : (bif b then x else none) = some y) : b = true ∧ x = some y := by
  cases b with
  | true => exact ⟨rfl, h⟩
  | false => cases h
theorem ev_jmp_of {off : Int} {q : Nat} (h : ev_jmp pc off = some q) : (pc : Int) + off = (q : Int) := by
  unfold ev_jmp at h
  split at h
  · rename_i t ht
    cases h
    exact ht
  · cases h
theorem ev_br_of {go : Nat → Nat → ev_L → List Value → ev_W → Option ev_R} {t : Bool} {off : Int} {r : List Value} {y : ev_R} (h : ev_br go j pc ls w t off r = some y) : ∃ q : Nat, (pc : Int) + off = (q : Int) ∧ go j (bif t then q else pc + 3) ls r w = some y := by
  unfold ev_br at h
  cases hj : ev_jmp pc off with
  | none => rw [hj] at h; cases h
  | some q =>
    rw [hj] at h
    refine ⟨q, ev_jmp_of hj, ?_⟩
    cases t <;> exact h

theorem ev_s_ld {go : Nat → Nat → ev_L → List Value → ev_W → Option ev_R} {cal : Nat → List Value → ev_W → Option ev_R} (hgo : ∀ (j pc : Nat) (ls : ev_L) (st : List Value) (w : ev_W) (o : Option Value ⊕ Nat) (w1 : ev_W), go j pc ls st w = some (o, w1) → ev_Snd D cy base ext SL SX l j pc ls st w o w1) {z0 : ev_ME} {i len k : Nat} (hz : ev_mel j = some z0) (hk : ∀ v : Value, ls[i]? = some (some v) → (match k, v with
    | 0, .int _ => True
    | 1, .ref _ => True
    | 1, .null => True
    | 2, .float _ => True
    | 3, .double _ => True
    | _, _ => False) → ev_Snd D cy base ext SL SX l j (pc + len) ls (v :: st) w o w1 → ev_Snd D cy base ext SL SX l j pc ls st w o w1) (h : ev_ld go j pc ls w i len k st = some (o, w1)) : ev_Snd D cy base ext SL SX l j pc ls st w o w1 := by
  unfold ev_ld at h
  split at h
  · rename_i v hv
    unfold ev_ldv at h
    split at h
    · exact hk _ hv trivial (hgo _ _ _ _ _ _ _ h)
    · exact hk _ hv trivial (hgo _ _ _ _ _ _ _ h)
    · exact hk _ hv trivial (hgo _ _ _ _ _ _ _ h)
    · exact hk _ hv trivial (hgo _ _ _ _ _ _ _ h)
    · exact hk _ hv trivial (hgo _ _ _ _ _ _ _ h)
    · cases h
  · cases h
theorem ev_s_getf {go : Nat → Nat → ev_L → List Value → ev_W → Option ev_R} {cal : Nat → List Value → ev_W → Option ev_R} (hgo : ∀ (j pc : Nat) (ls : ev_L) (st : List Value) (w : ev_W) (o : Option Value ⊕ Nat) (w1 : ev_W), go j pc ls st w = some (o, w1) → ev_Snd D cy base ext SL SX l j pc ls st w o w1) {z0 : ev_ME} {ix n : Nat} (hz : ev_mel j = some z0) (hd : decode (ev_by z0) pc = .ok (.getfield ix, n)) (hn : Nat.beq n 3 = true) (h : ev_getf go j z0 pc ls w ix st = some (o, w1)) : ev_Snd D cy base ext SL SX l j pc ls st w o w1 := by
  unfold ev_getf at h
  split at h
  · rename_i a r
    split at h
    · rename_i q hq
      obtain ⟨hb, h⟩ := ev_cond h
      simp only [Bool.and_eq_true, decide_eq_true_eq] at hb
      have hK := Nat.eq_of_beq_eq_true hb.2
      have hf := ev_hz (X := fun z => ev_look2 (ev_own1 z) ix ev_flt = some q) hz hq
      split at h
      · rename_i h2
        refine ev_x_getf hf hb.1 hK (ev_hd 3 hz hd hn) ?_ (hgo _ _ _ _ _ _ _ h)
        rw [ev_v_rf]
        unfold ev_fv
        rw [h2, if_pos rfl]
      · rename_i h2
        refine ev_x_getf hf hb.1 hK (ev_hd 3 hz hd hn) ?_ (hgo _ _ _ _ _ _ _ h)
        unfold ev_fv
        rw [h2, if_neg ev_n02]
        rfl
      · rename_i h2
        refine ev_x_getf hf hb.1 hK (ev_hd 3 hz hd hn) ?_ (hgo _ _ _ _ _ _ _ h)
        unfold ev_fv
        rw [h2, if_neg ev_n12]
        rfl
      · cases h
    · cases h
  · cases h
theorem ev_nar_ref {t9 : Nat} {ty : FieldType} {v : Value} (ht : t9 = 2) (hv : v = .null ∨ ∃ a, v = .ref a) (h : ev_ftk t9 ty = true) : narrow ty v = v ∧ fits ty v = true := by
  subst ht
  cases ty <;> first | (rcases hv with rfl | ⟨a, rfl⟩ <;> exact ⟨rfl, rfl⟩) | cases h
theorem ev_nar_int {t9 : Nat} {ty : FieldType} {x : Int32} (ht : t9 = 0 ∨ (t9 = 1 ∧ (x = 0 ∨ x = 1))) (h : ev_ftk t9 ty = true) : narrow ty (.int x) = .int x ∧ fits ty (.int x) = true := by
  rcases ht with rfl | ⟨rfl, hx⟩
  · cases ty <;> first | exact ⟨rfl, rfl⟩ | cases h
  · cases ty <;> first | (rcases hx with rfl | rfl <;> exact ⟨rfl, rfl⟩) | cases h
theorem ev_s_putf {go : Nat → Nat → ev_L → List Value → ev_W → Option ev_R} {cal : Nat → List Value → ev_W → Option ev_R} (hgo : ∀ (j pc : Nat) (ls : ev_L) (st : List Value) (w : ev_W) (o : Option Value ⊕ Nat) (w1 : ev_W), go j pc ls st w = some (o, w1) → ev_Snd D cy base ext SL SX l j pc ls st w o w1) {z0 : ev_ME} {ix n : Nat} (hz : ev_mel j = some z0) (hd : decode (ev_by z0) pc = .ok (.putfield ix, n)) (hn : Nat.beq n 3 = true) (h : ev_putf go j z0 pc ls w ix st = some (o, w1)) : ev_Snd D cy base ext SL SX l j pc ls st w o w1 := by
  unfold ev_putf at h
  split at h
  · rename_i v a r
    split at h
    · rename_i q hq
      obtain ⟨hb, h⟩ := ev_cond h
      simp only [Bool.and_eq_true, decide_eq_true_eq] at hb
      have hK := Nat.eq_of_beq_eq_true hb.2.1
      have hf := ev_hz (X := fun z => ev_look2 (ev_own1 z) ix ev_flt = some q ∧ ev_pfok z q = true) hz ⟨hq, hb.2.2⟩
      have hI : ∀ (x : Int32), (∀ i t, i ≠ q.2 → ev_fv base ext (w_sI w a q.2 x) a (t, i) = ev_fv base ext w a (t, i)) := by
        intro x i t hi
        unfold ev_fv
        have e9 : w_I (w_sI w a q.2 x) a i = w_I w a i := by rw [w_sI_at]; exact if_neg hi
        rw [e9]
        rfl
      have hR : ∀ (x : Option Nat), (∀ i t, i ≠ q.2 → ev_fv base ext (w_sR w a q.2 x) a (t, i) = ev_fv base ext w a (t, i)) := by
        intro x i t hi
        unfold ev_fv
        have e9 : w_R (w_sR w a q.2 x) a i = w_R w a i := by rw [w_sR_at]; exact if_neg hi
        rw [e9]
        rfl
      split at h
      · rename_i b h2 _ 
        refine ev_x_putf hf hb.1 hK (ev_hd 3 hz hd hn) (fun ty hty => ev_nar_ref h2 (Or.inr ⟨_, rfl⟩) hty) (w_sR_w a q.2 (some b)) ?_ (hR _) (hgo _ _ _ _ _ _ _ h)
        unfold ev_fv
        rw [h2, if_pos rfl, w_sR_at]
        unfold va_up
        rw [if_pos rfl]
        rfl
      · rename_i h2 _
        refine ev_x_putf hf hb.1 hK (ev_hd 3 hz hd hn) (fun ty hty => ev_nar_ref h2 (Or.inl rfl) hty) (w_sR_w a q.2 none) ?_ (hR _) (hgo _ _ _ _ _ _ _ h)
        unfold ev_fv
        rw [h2, if_pos rfl, w_sR_at]
        unfold va_up
        rw [if_pos rfl]
        rfl
      · rename_i x h2 _
        refine ev_x_putf hf hb.1 hK (ev_hd 3 hz hd hn) (fun ty hty => ev_nar_int (Or.inl h2) hty) (w_sI_w a q.2 x) ?_ (hI _) (hgo _ _ _ _ _ _ _ h)
        unfold ev_fv
        rw [h2, if_neg ev_n02, w_sI_at]
        unfold upd
        rw [if_pos rfl]
        rfl
      · rename_i x h2 _
        obtain ⟨hb9, h⟩ := ev_cond h
        refine ev_x_putf hf hb.1 hK (ev_hd 3 hz hd hn) (fun ty hty => ev_nar_int (Or.inr ⟨h2, of_decide_eq_true hb9⟩) hty) (w_sI_w a q.2 x) ?_ (hI _) (hgo _ _ _ _ _ _ _ h)
        unfold ev_fv
        rw [h2, if_neg ev_n12, w_sI_at]
        unfold upd
        rw [if_pos rfl]
        rfl
      · cases h
    · cases h
  · cases h
theorem ev_z_cls {z0 : ev_ME} (hz : ev_mel j = some z0) : ev_hh z0 ≠ [] → (ev_y z0).cls = "FlagLaundryLaw" := by
  unfold ev_mel at hz
  cases hb : Nat.beq j ev_LAW with
  | true =>
    rw [hb] at hz
    cases hz
    exact fun _ => rfl
  | false =>
    rw [hb] at hz
    exact (ev_me_ok hz).2.2.2.2.2.2.2
/-- behind a call: its outcome, taken on -/
theorem ev_s_aft {go : Nat → Nat → ev_L → List Value → ev_W → Option ev_R} {cal : Nat → List Value → ev_W → Option ev_R} (hgo : ∀ (j pc : Nat) (ls : ev_L) (st : List Value) (w : ev_W) (o : Option Value ⊕ Nat) (w1 : ev_W), go j pc ls st w = some (o, w1) → ev_Snd D cy base ext SL SX l j pc ls st w o w1) {z0 e2 : ev_ME} {rest : List Value} {y : Option ev_R} (rt : Option FieldType) (hrt : rt = ev_rt e2) (hz : ev_mel j = some z0)
    (h : ev_aft go j z0 pc ls rt rest y = some (o, w1)) (hrun : ∀ o2 w2, y = some (o2, w2) → w_c w ≤ w_c w2 ∧ w_z w ≤ w_z w2 ∧ ∀ (p : Program) (e : Env) (R : Room) (s : State) (m : MethodId) (args : Array Value) (below : List Frame) (meth : Method) (c : Code), ev_Cx D cy base ext SL SX l j z0 p R s m args meth c → ∀ (H : Heap) (locs : List Loc) (cells slots : Nat) (L : Array Slot), ev_M D cy base ext SL SX w H → va_S (ev_A base) s.heap H locs → ev_EL base ext L (ev_ml z0) ls → cells + (w_c w2 - w_c w) ≤ R.cells → slots + (w_z w2 - w_z w) ≤ R.slots →
      ∃ arr, vx_Run p l e R s m args below meth c H locs cells slots (w_c w2 - w_c w) (w_z w2 - w_z w) (F0 m pc L (st.map (ev_v base ext))) (rest.map (ev_v base ext)) (ev_Qc D cy base ext SL SX e2 o2 w2 arr) (ev_XC D cy base ext SL SX o2 w2) (ev_A base)) : ev_Snd D cy base ext SL SX l j pc ls st w o w1 := by
  subst hrt
  unfold ev_aft at h
  split at h
  · rename_i v w2
    obtain ⟨hb, h⟩ := ev_cond h
    obtain ⟨h1, h2, h3⟩ := hrun _ _ rfl
    have hs := hgo _ _ _ _ _ _ _ h
    exact ev_x_call hz (ev_z_cls hz) h1 h2 hs.1 hs.2.1 (fun v' hv' _ => by cases hv'; exact hs) (fun E hE => by cases hE) h3
  · rename_i E w2
    obtain ⟨h1, h2, h3⟩ := hrun _ _ rfl
    split at h
    · rename_i hh
      cases h
      exact ev_x_call hz (ev_z_cls hz) h1 h2 (Nat.le_refl _) (Nat.le_refl _) (fun v' hv' => by cases hv') (fun E' hE' => by cases hE'; exact ⟨rfl, Or.inl ⟨hh, rfl⟩⟩) h3
    · rename_i a b hh
      split at h
      · rename_i q hq
        split at h
        · rename_i k hk
          obtain ⟨hb, h⟩ := ev_cond h
          cases h
          exact ev_x_call hz (ev_z_cls hz) h1 h2 (Nat.le_refl _) (Nat.le_refl _) (fun v' hv' => by cases hv') (fun E' hE' => by cases hE'; exact ⟨rfl, Or.inr ⟨q, k, by rw [hh]; exact hq, hk, hb, rfl⟩⟩) h3
        · cases h
      · cases h
  · cases h
theorem ev_drop_cons {st rest : List Value} {n : Nat} {v : Value} (h : st.drop n = v :: rest) : st = (st.take n).reverse.reverse ++ v :: rest ∧ (st.take n).reverse.length = n := by
  refine ⟨by rw [List.reverse_reverse, ← h, List.take_append_drop], ?_⟩
  rw [List.length_reverse, List.length_take]
  have h1 : (st.drop n).length = st.length - n := List.length_drop
  rw [h, List.length_cons] at h1
  omega
theorem ev_s_inv {go : Nat → Nat → ev_L → List Value → ev_W → Option ev_R} {cal : Nat → List Value → ev_W → Option ev_R} (hgo : ∀ (j pc : Nat) (ls : ev_L) (st : List Value) (w : ev_W) (o : Option Value ⊕ Nat) (w1 : ev_W), go j pc ls st w = some (o, w1) → ev_Snd D cy base ext SL SX l j pc ls st w o w1) (hcal : ∀ (j2 : Nat) (e2 : ev_ME) (as : List Value) (w : ev_W) (o : Option Value ⊕ Nat) (w1 : ev_W), ev_me j2 = some e2 → cal j2 as w = some (o, w1) → ev_Con D cy base ext SL SX l e2 as w o w1 ∧ w_c w ≤ w_c w1 ∧ w_z w ≤ w_z w1) {z0 : ev_ME} {kd ix n : Nat} {ins : Instr} (hins : (kd = 1 ∧ ins = .invokevirtual ix) ∨ (kd = 0 ∧ ins = .invokestatic ix) ∨ (kd = 2 ∧ ins = .invokespecial ix)) (hz : ev_mel j = some z0) (hd : decode (ev_by z0) pc = .ok (ins, n)) (hn : Nat.beq n 3 = true) (h : ev_inv go cal j z0 pc ls w kd ix st = some (o, w1)) : ev_Snd D cy base ext SL SX l j pc ls st w o w1 := by
  have hd3 : decode (ev_by z0) pc = .ok (ins, 3) := by rw [← Nat.eq_of_beq_eq_true hn]; exact hd
  unfold ev_inv at h
  split at h
  · rename_i j2 hj2
    split at h
    · rename_i e2 he2
      split at h
      · rename_i hk1 hk2
        rcases hins with ⟨-, rfl⟩ | ⟨q, -⟩ | ⟨q, -⟩
        · unfold ev_virt at h
          split at h
          · rename_i a rest hdr
            obtain ⟨hb, h⟩ := ev_cond h
            simp only [Bool.and_eq_true, decide_eq_true_eq] at hb
            obtain ⟨e1, e3⟩ := ev_drop_cons hdr
            refine ev_s_aft (cal := cal) hgo _ rfl hz h (fun o2 w2 hy => ?_)
            obtain ⟨c1, c2, c3⟩ := hcal _ _ _ _ _ _ he2 hy
            refine ⟨c2, c3, ?_⟩
            rw [e1]
            exact ev_runV hj2 he2 hk2 e3 hb.1 (Nat.eq_of_beq_eq_true hb.2.1) hb.2.2.1 hb.2.2.2 hd3 c1
          · cases h
        · cases q
        · cases q
      · rename_i hk1 hk2
        rcases hins with ⟨q, -⟩ | ⟨-, rfl⟩ | ⟨q, -⟩
        · cases q
        · unfold ev_stat at h
          obtain ⟨hb, h⟩ := ev_cond h
          simp only [Bool.and_eq_true, decide_eq_true_eq] at hb
          refine ev_s_aft (cal := cal) hgo _ rfl hz h (fun o2 w2 hy => ?_)
          obtain ⟨c1, c2, c3⟩ := hcal _ _ _ _ _ _ he2 hy
          have e1 : st = (st.take (ev_na e2)).reverse.reverse ++ st.drop (ev_na e2) := by rw [List.reverse_reverse, List.take_append_drop]
          have e3 : (st.take (ev_na e2)).reverse.length = ev_na e2 := by rw [List.length_reverse, List.length_take]; omega
          have k9 := ev_runS (j := j) (ls := ls) hj2 he2 hk2 e3 hb.2.1 hb.2.2 hd3 c1
          rw [← e1] at k9
          exact ⟨c2, c3, k9⟩
        · cases q
      · rename_i hk1 hk2
        rcases hins with ⟨q, -⟩ | ⟨q, -⟩ | ⟨-, rfl⟩
        · cases q
        · cases q
        · unfold ev_init at h
          split at h
          · rename_i a rest hdr
            obtain ⟨hb, h⟩ := ev_cond h
            simp only [Bool.and_eq_true, decide_eq_true_eq] at hb
            obtain ⟨e1, e3⟩ := ev_drop_cons hdr
            have hrt : none = ev_rt e2 := ((ev_me_ok he2).2.2.2.2.2.1 (Or.inl hk2)).2.2.symm
            refine ev_s_aft (cal := cal) hgo _ hrt hz h (fun o2 w2 hy => ?_)
            obtain ⟨c1, c2, c3⟩ := hcal _ _ _ _ _ _ he2 hy
            have k9 := ev_runI (j := j) (ls := ls) (Or.inl ⟨hj2, hk2⟩) he2 e3 hb.1 hb.2.2.1 hb.2.2.2 hd3 c1
            rw [← e1] at k9
            exact ⟨c2, c3, k9⟩
          · cases h
      · cases h
    · cases h
  · split at h
    · rename_i k hk
      have hnw : Cond.methodLink (ev_own.getD (ev_own1 z0) "") ix (ev_natn k) ∈ ev_all := by
        obtain ⟨l9, h3, h4⟩ := ev_look2_mem hk
        exact ev_all_in ev_natw_in (List.mem_flatMap.mpr ⟨_, h3, List.mem_map.mpr ⟨_, h4, rfl⟩⟩)
      have hjd : ∀ (i : Nat) (cw : Cond), ev_jdw[i]? = some cw → cw ∈ ev_all := fun i cw hi => ev_all_in ev_jdw_in (List.mem_of_getElem? hi)
      split at h
      · rcases hins with ⟨q, -⟩ | ⟨-, rfl⟩ | ⟨q, -⟩
        · cases q
        · unfold ev_natc at h
          split at h
          · rename_i y x r
            obtain ⟨hb, h⟩ := ev_cond h
            unfold ev_rmn at hb
            simp only [Bool.and_eq_true, decide_eq_true_eq] at hb
            refine ev_pstep (hgo _ _ _ _ _ _ _ h) (ev_hz hz (fun p e R s m args below meth c hC H locs cells slots Q L hM hS hE hcR hsR k => ?_))
            rw [hC.2.2.2.2.2.2.2.2.2.2.2.1] at hnw
            exact va_mmax hC.1 hC.2.1 (hC.2.2.2.1.trans hE.2.1.symm) hC.2.2.2.2.1 (hC.2.2.2.2.2.1 _ hnw) (hC.2.2.2.2.2.1 _ (hjd 1 _ rfl)) (hC.2.2.2.2.2.1 _ (hjd 8 _ rfl)) (hC.2.2.2.2.2.1 _ (hjd 0 _ rfl)) (by have := hC.2.2.2.2.2.2.2.2.2.2.2.2.2.1; omega) (by
              have := hC.2.2.2.2.2.2.2.2.2.2.2.2.2.2.1
              have h9 := hb.1
              unfold ev_cat at h9
              rw [ev_v_cats]; omega) hcR hsR hd3 k
          · rename_i y x r
            obtain ⟨hb, h⟩ := ev_cond h
            unfold ev_rmn at hb
            simp only [Bool.and_eq_true, decide_eq_true_eq] at hb
            refine ev_pstep (hgo _ _ _ _ _ _ _ h) (ev_hz hz (fun p e R s m args below meth c hC H locs cells slots Q L hM hS hE hcR hsR k => ?_))
            rw [hC.2.2.2.2.2.2.2.2.2.2.2.1] at hnw
            exact va_mmin hC.1 hC.2.1 (hC.2.2.2.1.trans hE.2.1.symm) hC.2.2.2.2.1 (hC.2.2.2.2.2.1 _ hnw) (hC.2.2.2.2.2.1 _ (hjd 3 _ rfl)) (hC.2.2.2.2.2.1 _ (hjd 8 _ rfl)) (hC.2.2.2.2.2.1 _ (hjd 2 _ rfl)) (by have := hC.2.2.2.2.2.2.2.2.2.2.2.2.2.1; omega) (by
              have := hC.2.2.2.2.2.2.2.2.2.2.2.2.2.2.1
              have h9 := hb.1
              unfold ev_cat at h9
              rw [ev_v_cats]; omega) hcR hsR hd3 k
          · rename_i x r
            obtain ⟨hb, h⟩ := ev_cond h
            unfold ev_rmn at hb
            simp only [Bool.and_eq_true, decide_eq_true_eq] at hb
            refine ev_pstep (hgo _ _ _ _ _ _ _ h) (ev_hz hz (fun p e R s m args below meth c hC H locs cells slots Q L hM hS hE hcR hsR k => ?_))
            rw [hC.2.2.2.2.2.2.2.2.2.2.2.1] at hnw
            exact va_mabs hC.1 hC.2.1 (hC.2.2.2.1.trans hE.2.1.symm) hC.2.2.2.2.1 (hC.2.2.2.2.2.1 _ hnw) (hC.2.2.2.2.2.1 _ (hjd 5 _ rfl)) (hC.2.2.2.2.2.1 _ (hjd 8 _ rfl)) (hC.2.2.2.2.2.1 _ (hjd 4 _ rfl)) (by have := hC.2.2.2.2.2.2.2.2.2.2.2.2.2.1; omega) (by
              have := hC.2.2.2.2.2.2.2.2.2.2.2.2.2.2.1
              have h9 := hb.1
              unfold ev_cat at h9
              rw [ev_v_cats]; omega) hcR hsR hd3 k
          · cases h
        · cases q
      · rcases hins with ⟨q, -⟩ | ⟨q, -⟩ | ⟨-, rfl⟩
        · cases q
        · cases q
        · split at h
          · rename_i a r
            obtain ⟨hb, h⟩ := ev_cond h
            unfold ev_rmn at hb
            simp only [Bool.and_eq_true, decide_eq_true_eq] at hb
            refine ev_pstep (hgo _ _ _ _ _ _ _ h) (ev_hz hz (fun p e R s m args below meth c hC H locs cells slots Q L hM hS hE hcR hsR k => ?_))
            rw [hC.2.2.2.2.2.2.2.2.2.2.2.1] at hnw
            refine W.objInit (rest := r.map (ev_v base ext)) (a := ev_ρ base ext a) hC.1 hC.2.1 hC.2.2.2.2.1 (hC.2.2.2.2.2.1 _ hnw) (hC.2.2.2.2.2.1 _ (hjd 7 _ rfl)) (hC.2.2.2.2.2.1 _ (hjd 6 _ rfl)) rfl (hE.2.1.trans hC.2.2.2.1.symm) rfl hd3 (by have := hC.2.2.2.2.2.2.2.2.2.2.2.2.2.1; omega) ?_ k
            have h7 := hC.2.2.2.2.2.2.2.2.2.2.2.2.2.2.1
            have h8 := ev_monr (st := (.ref a :: r).map (ev_v base ext)) (base := base) (ext := ext) (L := L) (m := m) (pc := pc) hb.1
            have h6 : 2 * (F0 m pc L ((Value.ref a :: r).map (ev_v base ext))).monitorRoom + ((r.map (ev_v base ext)).map fun v => v.category).sum + 12 ≤ R.locals := by omega
            exact h6
          · cases h
      · cases h
    · obtain ⟨hb, h⟩ := ev_cond h
      simp only [Bool.and_eq_true] at hb
      have hkd := Nat.eq_of_beq_eq_true hb.1
      have ho := Nat.eq_of_beq_eq_true hb.2.1
      have hix := Nat.eq_of_beq_eq_true hb.2.2
      rcases hins with ⟨q, -⟩ | ⟨q, -⟩ | ⟨-, rfl⟩
      · rw [q] at hkd; cases hkd
      · rw [q] at hkd; cases hkd
      · split at h
        · rename_i e2 he2
          unfold ev_init at h
          split at h
          · rename_i a rest hdr
            obtain ⟨hb, h⟩ := ev_cond h
            simp only [Bool.and_eq_true, decide_eq_true_eq] at hb
            obtain ⟨e1, e3⟩ := ev_drop_cons hdr
            have hk3 : ev_kd e2 = 3 := by
              have h9 : (ev_me ev_nst.2.2).map ev_kd = some 3 := by decide +kernel
              rw [he2] at h9
              exact Option.some.inj h9
            have hrt : none = ev_rt e2 := ((ev_me_ok he2).2.2.2.2.2.1 (Or.inr hk3)).2.2.symm
            refine ev_s_aft (cal := cal) hgo _ hrt hz h (fun o2 w2 hy => ?_)
            obtain ⟨c1, c2, c3⟩ := hcal _ _ _ _ _ _ he2 hy
            have k9 := ev_runI (j := j) (ls := ls) (Or.inr ⟨ho, hix, rfl⟩) he2 e3 hb.1 hb.2.2.1 hb.2.2.2 hd3 c1
            rw [← e1] at k9
            exact ⟨c2, c3, k9⟩
          · cases h
        · cases h
theorem ev_strp_go {own ix : Nat} : ∀ {l : List (Nat × Nat × String)} {i k : Nat}, ev_strp own ix l i = some k → i ≤ k ∧ ∃ q, l[k - i]? = some q ∧ q.1 = own ∧ q.2.1 = ix
  | [], _, _, h => by cases h
  | a :: b, i, k, h => by
    unfold ev_strp at h
    cases hb : (Nat.beq a.1 own && Nat.beq a.2.1 ix) with
    | true =>
      rw [hb] at h
      have h9 : i = k := Option.some.inj h
      subst h9
      simp only [Bool.and_eq_true] at hb
      refine ⟨Nat.le_refl _, a, ?_, Nat.eq_of_beq_eq_true hb.1, Nat.eq_of_beq_eq_true hb.2⟩
      rw [Nat.sub_self]
      rfl
    | false =>
      rw [hb] at h
      obtain ⟨g1, q, g2, g3⟩ := ev_strp_go (l := b) h
      refine ⟨by omega, q, ?_, g3⟩
      have e9 : k - i = (k - (i + 1)) + 1 := by omega
      rw [e9, List.getElem?_cons_succ]
      exact g2
theorem ev_strp_of {own ix k : Nat} (h : ev_strp own ix ev_str 0 = some k) : ∃ q, ev_str[k]? = some q ∧ q.1 = own ∧ q.2.1 = ix := by
  obtain ⟨-, q, g2, g3⟩ := ev_strp_go h
  exact ⟨q, g2, g3⟩
theorem ev_s_ins {go : Nat → Nat → ev_L → List Value → ev_W → Option ev_R} {cal : Nat → List Value → ev_W → Option ev_R} (hgo : ∀ (j pc : Nat) (ls : ev_L) (st : List Value) (w : ev_W) (o : Option Value ⊕ Nat) (w1 : ev_W), go j pc ls st w = some (o, w1) → ev_Snd D cy base ext SL SX l j pc ls st w o w1) (hcal : ∀ (j2 : Nat) (e2 : ev_ME) (as : List Value) (w : ev_W) (o : Option Value ⊕ Nat) (w1 : ev_W), ev_me j2 = some e2 → cal j2 as w = some (o, w1) → ev_Con D cy base ext SL SX l e2 as w o w1 ∧ w_c w ≤ w_c w1 ∧ w_z w ≤ w_z w1) {z0 : ev_ME} {ins : Instr} {n : Nat} (hz : ev_mel j = some z0) (hd : decode (ev_by z0) pc = .ok (ins, n)) (hn : ev_lok n ins = true) (h : ev_ins go cal j z0 pc ls w st n ins = some (o, w1)) : ev_Snd D cy base ext SL SX l j pc ls st w o w1 := by
  cases ins with
  | iconst n9 =>
    have h : _ = some (o, w1) := h
    exact ev_x_iconst (ev_hd 1 hz hd hn) (hgo _ _ _ _ _ _ _ h)
  | bipush n9 =>
    have h : _ = some (o, w1) := h
    exact ev_x_bipush (ev_hd 2 hz hd hn) (hgo _ _ _ _ _ _ _ h)
  | sipush n9 =>
    have h : _ = some (o, w1) := h
    exact ev_x_sipush (ev_hd 3 hz hd hn) (hgo _ _ _ _ _ _ _ h)
  | ldc ix =>
    unfold ev_ins at h
    dsimp only at h
    split at h
    · rename_i k hk
      obtain ⟨q, q1, q2, q3⟩ := ev_strp_of hk
      subst q3
      refine ev_x_ldc (k9 := k) (q := q) q1 (ev_hz hz q2) (ev_hd 2 hz hd hn) (hgo _ _ _ _ _ _ _ h)
    · cases h
  | iload_n q =>
    refine ev_s_ld (cal := cal) hgo (len := 1) (k := 0) hz (fun v hv hm hs => ?_) h
    cases v with
    | int x => exact ev_x_iload_n hv (ev_hd 1 hz hd hn) hs
    | _ => exact hm.elim
  | iload q =>
    refine ev_s_ld (cal := cal) hgo (len := 2) (k := 0) hz (fun v hv hm hs => ?_) h
    cases v with
    | int x => exact ev_x_iload hv (ev_hd 2 hz hd hn) hs
    | _ => exact hm.elim
  | fload q =>
    refine ev_s_ld (cal := cal) hgo (len := 2) (k := 2) hz (fun v hv hm hs => ?_) h
    cases v with
    | float x => exact ev_x_fload hv (ev_hd 2 hz hd hn) hs
    | _ => exact hm.elim
  | dload q =>
    refine ev_s_ld (cal := cal) hgo (len := 2) (k := 3) hz (fun v hv hm hs => ?_) h
    cases v with
    | double x => exact ev_x_dload hv (ev_hd 2 hz hd hn) hs
    | _ => exact hm.elim
  | aload_n q =>
    refine ev_s_ld (cal := cal) hgo (len := 1) (k := 1) hz (fun v hv hm hs => ?_) h
    cases v with
    | ref x => exact ev_x_aload_n hv (ev_hd 1 hz hd hn) hs
    | null => exact ev_x_aload_nN hv (ev_hd 1 hz hd hn) hs
    | _ => exact hm.elim
  | aload q =>
    refine ev_s_ld (cal := cal) hgo (len := 2) (k := 1) hz (fun v hv hm hs => ?_) h
    cases v with
    | ref x => exact ev_x_aload hv (ev_hd 2 hz hd hn) hs
    | null => exact ev_x_aloadN hv (ev_hd 2 hz hd hn) hs
    | _ => exact hm.elim
  | istore_n q =>
    unfold ev_ins at h
    dsimp only at h
    split at h
    · unfold ev_st1 at h
      obtain ⟨hb, h⟩ := ev_cond h
      simp only [Bool.and_eq_true, decide_eq_true_eq] at hb
      exact ev_x_istore_n (ev_hd 1 hz hd hn) hb.1 hb.2 (hgo _ _ _ _ _ _ _ h)
    · cases h
  | istore q =>
    unfold ev_ins at h
    dsimp only at h
    split at h
    · unfold ev_st1 at h
      obtain ⟨hb, h⟩ := ev_cond h
      simp only [Bool.and_eq_true, decide_eq_true_eq] at hb
      exact ev_x_istore (ev_hd 2 hz hd hn) hb.1 hb.2 (hgo _ _ _ _ _ _ _ h)
    · cases h
  | astore_n q =>
    unfold ev_ins at h
    dsimp only at h
    split at h
    · unfold ev_st1 at h
      obtain ⟨hb, h⟩ := ev_cond h
      simp only [Bool.and_eq_true, decide_eq_true_eq] at hb
      exact ev_x_astore_n (ev_hd 1 hz hd hn) hb.1 hb.2 (hgo _ _ _ _ _ _ _ h)
    · cases h
  | astore q =>
    unfold ev_ins at h
    dsimp only at h
    split at h
    · unfold ev_st1 at h
      obtain ⟨hb, h⟩ := ev_cond h
      simp only [Bool.and_eq_true, decide_eq_true_eq] at hb
      exact ev_x_astore (ev_hd 2 hz hd hn) hb.1 hb.2 (hgo _ _ _ _ _ _ _ h)
    · cases h
  | fstore q =>
    unfold ev_ins at h
    dsimp only at h
    split at h
    · unfold ev_st1 at h
      obtain ⟨hb, h⟩ := ev_cond h
      simp only [Bool.and_eq_true, decide_eq_true_eq] at hb
      exact ev_x_fstore (ev_hd 2 hz hd hn) hb.1 hb.2 (hgo _ _ _ _ _ _ _ h)
    · cases h
  | dstore q =>
    unfold ev_ins at h
    dsimp only at h
    split at h
    · unfold ev_st2 at h
      obtain ⟨hb, h⟩ := ev_cond h
      simp only [Bool.and_eq_true, decide_eq_true_eq] at hb
      exact ev_x_dstore (ev_hd 2 hz hd hn) hb.1 hb.2 (hgo _ _ _ _ _ _ _ h)
    · cases h
  | iinc i n9 =>
    unfold ev_ins at h
    dsimp only at h
    split at h
    · rename_i x hx
      obtain ⟨hb, h⟩ := ev_cond h
      exact ev_x_iinc (ev_hd 3 hz hd hn) hx hb (hgo _ _ _ _ _ _ _ h)
    · cases h
  | iadd =>
    unfold ev_ins at h
    dsimp only at h
    split at h
    · exact ev_x_iadd (ev_hd 1 hz hd hn) (hgo _ _ _ _ _ _ _ h)
    · cases h
  | isub =>
    unfold ev_ins at h
    dsimp only at h
    split at h
    · exact ev_x_isub (ev_hd 1 hz hd hn) (hgo _ _ _ _ _ _ _ h)
    · cases h
  | imul =>
    unfold ev_ins at h
    dsimp only at h
    split at h
    · exact ev_x_imul (ev_hd 1 hz hd hn) (hgo _ _ _ _ _ _ _ h)
    · cases h
  | iand =>
    unfold ev_ins at h
    dsimp only at h
    split at h
    · exact ev_x_iand (ev_hd 1 hz hd hn) (hgo _ _ _ _ _ _ _ h)
    · cases h
  | ior =>
    unfold ev_ins at h
    dsimp only at h
    split at h
    · exact ev_x_ior (ev_hd 1 hz hd hn) (hgo _ _ _ _ _ _ _ h)
    · cases h
  | ixor =>
    unfold ev_ins at h
    dsimp only at h
    split at h
    · exact ev_x_ixor (ev_hd 1 hz hd hn) (hgo _ _ _ _ _ _ _ h)
    · cases h
  | ishl =>
    unfold ev_ins at h
    dsimp only at h
    split at h
    · exact ev_x_ishl (ev_hd 1 hz hd hn) (hgo _ _ _ _ _ _ _ h)
    · cases h
  | ishr =>
    unfold ev_ins at h
    dsimp only at h
    split at h
    · exact ev_x_ishr (ev_hd 1 hz hd hn) (hgo _ _ _ _ _ _ _ h)
    · cases h
  | i2l =>
    unfold ev_ins at h
    dsimp only at h
    split at h
    · exact ev_x_i2l (ev_hd 1 hz hd hn) (hgo _ _ _ _ _ _ _ h)
    · cases h
  | i2b =>
    unfold ev_ins at h
    dsimp only at h
    split at h
    · exact ev_x_i2b (ev_hd 1 hz hd hn) (hgo _ _ _ _ _ _ _ h)
    · cases h
  | i2f =>
    unfold ev_ins at h
    dsimp only at h
    split at h
    · exact ev_x_i2f (ev_hd 1 hz hd hn) (hgo _ _ _ _ _ _ _ h)
    · cases h
  | i2d =>
    unfold ev_ins at h
    dsimp only at h
    split at h
    · exact ev_x_i2d (ev_hd 1 hz hd hn) (hgo _ _ _ _ _ _ _ h)
    · cases h
  | lcmp =>
    unfold ev_ins at h
    dsimp only at h
    split at h
    · exact ev_x_lcmp (ev_hd 1 hz hd hn) (hgo _ _ _ _ _ _ _ h)
    · cases h
  | idiv =>
    unfold ev_ins at h
    dsimp only at h
    split at h
    · rename_i y x r
      by_cases hy : y = 0
      · rw [decide_eq_true hy] at h
        cases h
      · rw [decide_eq_false hy] at h
        exact ev_x_idiv hy (ev_hd 1 hz hd hn) (hgo _ _ _ _ _ _ _ h)
    · cases h
  | irem =>
    unfold ev_ins at h
    dsimp only at h
    split at h
    · rename_i y x r
      by_cases hy : y = 0
      · rw [decide_eq_true hy] at h
        cases h
      · rw [decide_eq_false hy] at h
        exact ev_x_irem hy (ev_hd 1 hz hd hn) (hgo _ _ _ _ _ _ _ h)
    · cases h
  | fconst n9 =>
    unfold ev_ins at h
    dsimp only at h
    obtain ⟨hb, h⟩ := ev_cond h
    have h0 := of_decide_eq_true hb
    subst h0
    exact ev_x_fconst (ev_hd 1 hz hd hn) (hgo _ _ _ _ _ _ _ h)
  | dconst n9 =>
    unfold ev_ins at h
    dsimp only at h
    obtain ⟨hb, h⟩ := ev_cond h
    have h0 := of_decide_eq_true hb
    subst h0
    exact ev_x_dconst (ev_hd 1 hz hd hn) (hgo _ _ _ _ _ _ _ h)
  | dup =>
    unfold ev_ins at h
    dsimp only at h
    split at h
    · obtain ⟨hb, h⟩ := ev_cond h
      exact ev_x_dup (Nat.eq_of_beq_eq_true hb) (ev_hd 1 hz hd hn) (hgo _ _ _ _ _ _ _ h)
    · cases h
  | pop =>
    unfold ev_ins at h
    dsimp only at h
    split at h
    · obtain ⟨hb, h⟩ := ev_cond h
      exact ev_x_pop (Nat.eq_of_beq_eq_true hb) (ev_hd 1 hz hd hn) (hgo _ _ _ _ _ _ _ h)
    · cases h
  | dup2 =>
    unfold ev_ins at h
    dsimp only at h
    split at h
    · obtain ⟨hb, h⟩ := ev_cond h
      simp only [Bool.and_eq_true] at hb
      exact ev_x_dup2 (Nat.eq_of_beq_eq_true hb.1) (Nat.eq_of_beq_eq_true hb.2) (ev_hd 1 hz hd hn) (hgo _ _ _ _ _ _ _ h)
    · cases h
  | ifCond c off =>
    unfold ev_ins at h
    dsimp only at h
    split at h
    · obtain ⟨q, hq, h⟩ := ev_br_of h
      cases c
      · exact ev_x_if_eq (ev_hd 3 hz hd hn) hq (hgo _ _ _ _ _ _ _ h)
      · exact ev_x_if_ne (ev_hd 3 hz hd hn) hq (hgo _ _ _ _ _ _ _ h)
      · exact ev_x_if_lt (ev_hd 3 hz hd hn) hq (hgo _ _ _ _ _ _ _ h)
      · exact ev_x_if_ge (ev_hd 3 hz hd hn) hq (hgo _ _ _ _ _ _ _ h)
      · exact ev_x_if_gt (ev_hd 3 hz hd hn) hq (hgo _ _ _ _ _ _ _ h)
      · exact ev_x_if_le (ev_hd 3 hz hd hn) hq (hgo _ _ _ _ _ _ _ h)
    · cases h
  | if_icmp c off =>
    unfold ev_ins at h
    dsimp only at h
    split at h
    · obtain ⟨q, hq, h⟩ := ev_br_of h
      cases c
      · exact ev_x_icmp_eq (ev_hd 3 hz hd hn) hq (hgo _ _ _ _ _ _ _ h)
      · exact ev_x_icmp_ne (ev_hd 3 hz hd hn) hq (hgo _ _ _ _ _ _ _ h)
      · exact ev_x_icmp_lt (ev_hd 3 hz hd hn) hq (hgo _ _ _ _ _ _ _ h)
      · exact ev_x_icmp_ge (ev_hd 3 hz hd hn) hq (hgo _ _ _ _ _ _ _ h)
      · exact ev_x_icmp_gt (ev_hd 3 hz hd hn) hq (hgo _ _ _ _ _ _ _ h)
      · exact ev_x_icmp_le (ev_hd 3 hz hd hn) hq (hgo _ _ _ _ _ _ _ h)
    · cases h
  | goto off =>
    unfold ev_ins at h
    dsimp only at h
    split at h
    · rename_i q hq
      exact ev_x_goto (ev_jmp_of hq) (ev_hd 3 hz hd hn) (hgo _ _ _ _ _ _ _ h)
    · cases h
  | tableswitch d lo hi offs =>
    unfold ev_ins at h
    dsimp only at h
    split at h
    · rename_i x r
      cases hb : (decide (x.toInt < lo) || decide (hi < x.toInt)) with
      | true =>
        rw [hb] at h
        simp only [Bool.or_eq_true, decide_eq_true_eq] at hb
        dsimp only [cond_true] at h
        split at h
        · rename_i q hq
          exact ev_x_tsOut (ev_hz hz hd) hb (ev_jmp_of hq) (hgo _ _ _ _ _ _ _ h)
        · cases h
      | false =>
        rw [hb] at h
        simp only [Bool.or_eq_false_iff, decide_eq_false_iff_not] at hb
        dsimp only [cond_false] at h
        split at h
        · rename_i off ho
          split at h
          · rename_i q hq
            exact ev_x_tsIn (ev_hz hz hd) hb.1 hb.2 ho (ev_jmp_of hq) (hgo _ _ _ _ _ _ _ h)
          · cases h
        · cases h
    · cases h
  | getfield ix => exact ev_s_getf (cal := cal) hgo hz hd hn h
  | putfield ix => exact ev_s_putf (cal := cal) hgo hz hd hn h
  | iaload =>
    have h : ev_ildS go j pc ls w st = some (o, w1) := h
    unfold ev_ildS at h
    split at h
    · rename_i i a r _
      cases hb : Nat.beq a ev_S with
      | true =>
        rw [hb] at h
        have ha := Nat.eq_of_beq_eq_true hb
        subst ha
        obtain ⟨hb2, h⟩ := ev_cond h
        simp only [Bool.and_eq_true] at hb2
        exact ev_x_sald (Nat.eq_of_beq_eq_true hb2.1) hb2.2 (ev_hd 1 hz hd hn) (hgo _ _ _ _ _ _ _ h)
      | false =>
        rw [hb] at h
        have h : ev_ald go j pc ls w 10 10 (.int i :: .ref a :: r) = some (o, w1) := h
        unfold ev_ald at h
        dsimp only at h
        obtain ⟨hb2, h⟩ := ev_cond h
        simp only [Bool.and_eq_true, Bool.or_eq_true, decide_eq_true_eq] at hb2
        exact ev_x_iald hb2.1 (Nat.eq_of_beq_eq_true (hb2.2.1.elim id id)) hb2.2.2 (ev_hd 1 hz hd hn) (hgo _ _ _ _ _ _ _ h)
    · cases h
  | baload =>
    have h : ev_ald go j pc ls w 9 11 st = some (o, w1) := h
    unfold ev_ald at h
    split at h
    · obtain ⟨hb2, h⟩ := ev_cond h
      simp only [Bool.and_eq_true, Bool.or_eq_true, decide_eq_true_eq] at hb2
      exact ev_x_bald hb2.1 rfl (hb2.2.1.imp Nat.eq_of_beq_eq_true Nat.eq_of_beq_eq_true) hb2.2.2 (ev_hd 1 hz hd hn) (hgo _ _ _ _ _ _ _ h)
    · cases h
  | laload =>
    unfold ev_ins at h
    dsimp only at h
    split at h
    · obtain ⟨hb2, h⟩ := ev_cond h
      simp only [Bool.and_eq_true, decide_eq_true_eq] at hb2
      exact ev_x_lald hb2.1 (Nat.eq_of_beq_eq_true hb2.2.1) hb2.2.2 (ev_hd 1 hz hd hn) (hgo _ _ _ _ _ _ _ h)
    · cases h
  | iastore =>
    unfold ev_ins at h
    dsimp only at h
    split at h
    · obtain ⟨hb2, h⟩ := ev_cond h
      simp only [Bool.and_eq_true, decide_eq_true_eq] at hb2
      exact ev_x_iast hb2.1 (Nat.eq_of_beq_eq_true hb2.2.1) hb2.2.2 (ev_hd 1 hz hd hn) (hgo _ _ _ _ _ _ _ h)
    · cases h
  | lastore =>
    unfold ev_ins at h
    dsimp only at h
    split at h
    · obtain ⟨hb2, h⟩ := ev_cond h
      simp only [Bool.and_eq_true, decide_eq_true_eq] at hb2
      exact ev_x_last hb2.1 (Nat.eq_of_beq_eq_true hb2.2.1) hb2.2.2 (ev_hd 1 hz hd hn) (hgo _ _ _ _ _ _ _ h)
    · cases h
  | aaload =>
    unfold ev_ins at h
    dsimp only at h
    split at h
    · obtain ⟨hb2, h⟩ := ev_cond h
      simp only [Bool.and_eq_true, Bool.or_eq_true, decide_eq_true_eq] at hb2
      exact ev_x_aald hb2.1 rfl (hb2.2.1.imp Nat.eq_of_beq_eq_true Nat.eq_of_beq_eq_true) hb2.2.2 (ev_hd 1 hz hd hn) (hgo _ _ _ _ _ _ _ h)
    · cases h
  | bastore =>
    unfold ev_ins at h
    dsimp only at h
    split at h
    · obtain ⟨hb2, h⟩ := ev_cond h
      simp only [Bool.and_eq_true, decide_eq_true_eq] at hb2
      split at h
      · rename_i hk
        exact ev_x_bast hb2.1 hk hb2.2 (ev_hd 1 hz hd hn) (hgo _ _ _ _ _ _ _ h)
      · rename_i hk
        exact ev_x_zast hb2.1 hk hb2.2 (ev_hd 1 hz hd hn) (hgo _ _ _ _ _ _ _ h)
      · cases h
    · cases h
  | aastore =>
    unfold ev_ins at h
    dsimp only at h
    split at h
    · obtain ⟨hb2, h⟩ := ev_cond h
      simp only [Bool.and_eq_true, decide_eq_true_eq] at hb2
      split at h
      · rename_i hk1 hk2
        exact ev_x_aast hb2.1 hb2.2.1 hk1 hk2 (Or.inl ⟨rfl, rfl⟩) hb2.2.2 (ev_hd 1 hz hd hn) (hgo _ _ _ _ _ _ _ h)
      · rename_i hk1 hk2
        exact ev_x_aast hb2.1 hb2.2.1 hk1 hk2 (Or.inr ⟨rfl, rfl⟩) hb2.2.2 (ev_hd 1 hz hd hn) (hgo _ _ _ _ _ _ _ h)
      · cases h
    · cases h
  | arraylength =>
    have h : ev_alen go j pc ls w st = some (o, w1) := h
    unfold ev_alen at h
    split at h
    · rename_i a r _
      cases hb : Nat.beq a ev_S with
      | true =>
        rw [hb] at h
        have ha := Nat.eq_of_beq_eq_true hb
        subst ha
        obtain ⟨hb2, h⟩ := ev_cond h
        exact ev_x_slen (Nat.eq_of_beq_eq_true hb2) (ev_hd 1 hz hd hn) (hgo _ _ _ _ _ _ _ h)
      | false =>
        rw [hb] at h
        obtain ⟨hb2, h⟩ := ev_cond h
        simp only [Bool.and_eq_true, decide_eq_true_eq] at hb2
        exact ev_x_alen hb2.1.1 hb2.1.2 hb2.2 (ev_hd 1 hz hd hn) (hgo _ _ _ _ _ _ _ h)
    · cases h
  | new ix =>
    have h : ev_new1 go j z0 pc ls w ix st = some (o, w1) := h
    unfold ev_new1 at h
    split at h
    · rename_i ci hci
      split at h
      · rename_i q hq
        obtain ⟨hb2, h⟩ := ev_cond h
        simp only [Bool.and_eq_true, decide_eq_true_eq] at hb2
        exact ev_x_new (ev_hz (X := fun z => ev_look2 (ev_own1 z) ix ev_clt = some ci) hz hci) hq hb2.1 hb2.2 (ev_hd 3 hz hd hn) (hgo _ _ _ _ _ _ _ h)
      · cases h
    · cases h
  | newarray t =>
    have h : ev_newa go j pc ls w t st = some (o, w1) := h
    unfold ev_newa at h
    split at h
    · rename_i k hk _
      obtain ⟨hb2, h⟩ := ev_cond h
      simp only [Bool.and_eq_true, decide_eq_true_eq] at hb2
      exact ev_x_newa hk hb2.1.1 hb2.1.2 hb2.2 (ev_hd 2 hz hd hn) (hgo _ _ _ _ _ _ _ h)
    · cases h
  | anewarray ix =>
    have h : ev_newq go j z0 pc ls w ix st = some (o, w1) := h
    unfold ev_newq at h
    split at h
    · rename_i hci _
      obtain ⟨hb2, h⟩ := ev_cond h
      simp only [Bool.and_eq_true, decide_eq_true_eq] at hb2
      exact ev_x_newq (ev_hz (X := fun z => ev_look2 (ev_own1 z) ix ev_clt = some 0) hz hci) (Or.inl ⟨rfl, rfl⟩) hb2.1.1 hb2.1.2 hb2.2 (ev_hd 3 hz hd hn) (hgo _ _ _ _ _ _ _ h)
    · rename_i hci _
      obtain ⟨hb2, h⟩ := ev_cond h
      simp only [Bool.and_eq_true, decide_eq_true_eq] at hb2
      exact ev_x_newq (ev_hz (X := fun z => ev_look2 (ev_own1 z) ix ev_clt = some 5) hz hci) (Or.inr ⟨rfl, rfl⟩) hb2.1.1 hb2.1.2 hb2.2 (ev_hd 3 hz hd hn) (hgo _ _ _ _ _ _ _ h)
    · cases h
  | invokevirtual ix => exact ev_s_inv hgo hcal (Or.inl ⟨rfl, rfl⟩) hz hd hn h
  | invokestatic ix => exact ev_s_inv hgo hcal (Or.inr (Or.inl ⟨rfl, rfl⟩)) hz hd hn h
  | invokespecial ix => exact ev_s_inv hgo hcal (Or.inr (Or.inr ⟨rfl, rfl⟩)) hz hd hn h
  | ireturn =>
    unfold ev_ins at h
    dsimp only at h
    split at h
    · rename_i x
      obtain ⟨hb, h⟩ := ev_cond h
      cases h
      exact ev_rstep (v := some (.int x)) rfl (fun z hz' => ev_hz (X := fun z => ev_rok (ev_rt z) (some (.int x)) = true ∧ ev_rat z pc (some (.int x))) hz ⟨hb, ev_hd 1 hz hd hn _ hz⟩ z hz')
    · cases h
  | freturn =>
    unfold ev_ins at h
    dsimp only at h
    split at h
    · rename_i x
      obtain ⟨hb, h⟩ := ev_cond h
      cases h
      exact ev_rstep (v := some (.float x)) rfl (fun z hz' => ev_hz (X := fun z => ev_rok (ev_rt z) (some (.float x)) = true ∧ ev_rat z pc (some (.float x))) hz ⟨hb, ev_hd 1 hz hd hn _ hz⟩ z hz')
    · cases h
  | dreturn =>
    unfold ev_ins at h
    dsimp only at h
    split at h
    · rename_i x
      obtain ⟨hb, h⟩ := ev_cond h
      cases h
      exact ev_rstep (v := some (.double x)) rfl (fun z hz' => ev_hz (X := fun z => ev_rok (ev_rt z) (some (.double x)) = true ∧ ev_rat z pc (some (.double x))) hz ⟨hb, ev_hd 1 hz hd hn _ hz⟩ z hz')
    · cases h
  | areturn =>
    unfold ev_ins at h
    dsimp only at h
    split at h
    · rename_i x
      obtain ⟨hb, h⟩ := ev_cond h
      cases h
      exact ev_rstep (v := some (.ref x)) rfl (fun z hz' => ev_hz (X := fun z => ev_rok (ev_rt z) (some (.ref x)) = true ∧ ev_rat z pc (some (.ref x))) hz ⟨hb, ev_hd 1 hz hd hn _ hz⟩ z hz')
    · cases h
  | return_ =>
    unfold ev_ins at h
    dsimp only at h
    split at h
    · obtain ⟨hb, h⟩ := ev_cond h
      cases h
      exact ev_rstep (v := none) rfl (fun z hz' => ev_hz (X := fun z => ev_rok (ev_rt z) none = true ∧ ev_rat z pc none) hz ⟨hb, ev_hd 1 hz hd hn _ hz⟩ z hz')
    · cases h
  | _ => cases (show (none : Option ev_R) = some (o, w1) from h)
end SOUND
theorem ev_sound {D : va_G} {cy : Nat → ClassId} {base : Nat} {ext : Nat → Nat} {SL : Nat} {SX : Nat → Int32} {l : Launch} (hl : l.stackTraces = false) : ∀ (F j pc : Nat) (ls : ev_L) (st : List Value) (w : ev_W) (o : Option Value ⊕ Nat) (w1 : ev_W), ev F j pc ls st w = some (o, w1) → ev_Snd D cy base ext SL SX l j pc ls st w o w1 := by
  intro F
  induction F with
  | zero => intro j pc ls st w o w1 h; cases (show (none : Option ev_R) = some (o, w1) from h)
  | succ F ih =>
    intro j pc ls st w o w1 h
    rw [ev_s] at h
    unfold ev_body at h
    split at h
    · rename_i q hq
      split at h
      · cases h
        exact ev_x_throw hq
      · cases h
    · split at h
      · rename_i e he
        split at h
        · rename_i q hcd
          obtain ⟨hb, h⟩ := ev_cond h
          refine ev_s_ins ih (fun j2 e2 as w2 o2 w3 he2 hc2 => ?_) he (ev_cd_ok he (by rw [hcd])) hb h
          unfold ev_call at hc2
          rw [he2] at hc2
          dsimp only at hc2
          obtain ⟨hb2, hc2⟩ := ev_cond hc2
          simp only [Bool.and_eq_true, decide_eq_true_eq] at hb2
          have hs := ih _ _ _ _ _ _ _ hc2
          exact ⟨ev_con he2 hl (fun v hv => Nat.eq_of_beq_eq_true (List.all_eq_true.mp hb2.1 v hv)) hb2.2 hs, hs.1, hs.2.1⟩
        · cases h
      · cases h
end
section
/-! methods of String: tables, by wip/gen/gen.py -/
def zs_yP : MethodName := ⟨"jdk/internal/util/Preconditions", "checkIndex", "(IILjava/util/function/BiFunction;)I"⟩
def zs_bP : ByteArray := prog_49_method_11_code
def zs_cP : Cond := .code zs_yP zs_bP 3 (some FieldType.int)
def zs_yK : MethodName := ⟨"java/lang/String", "checkIndex", "(II)V"⟩
def zs_bK : ByteArray := prog_29_method_155_code
def zs_cK : Cond := .code zs_yK zs_bK 2 (none)
def zs_yL : MethodName := ⟨"java/lang/StringLatin1", "charAt", "([BI)C"⟩
def zs_bL : ByteArray := prog_31_method_2_code
def zs_cL : Cond := .code zs_yL zs_bL 2 (some FieldType.char)
def zs_yI : MethodName := ⟨"java/lang/String", "isLatin1", "()Z"⟩
def zs_bI : ByteArray := prog_29_method_154_code
def zs_cI : Cond := .code zs_yI zs_bI 1 (some FieldType.boolean)
def zs_yO : MethodName := ⟨"java/lang/String", "coder", "()B"⟩
def zs_bO : ByteArray := prog_29_method_152_code
def zs_cO : Cond := .code zs_yO zs_bO 1 (some FieldType.byte)
def zs_yN : MethodName := ⟨"java/lang/String", "length", "()I"⟩
def zs_bN : ByteArray := prog_29_method_54_code
def zs_cN : Cond := .code zs_yN zs_bN 1 (some FieldType.int)
def zs_yC : MethodName := ⟨"java/lang/String", "charAt", "(I)C"⟩
def zs_bC : ByteArray := prog_29_method_56_code
def zs_cC : Cond := .code zs_yC zs_bC 2 (some FieldType.char)
def zs_w : List Cond := [zs_cP, .static zs_yP, zs_cK, .static zs_yK, zs_cL, .static zs_yL, zs_cI, .instanceMethod zs_yI, .selects "java/lang/String" zs_yI zs_yI, zs_cO, .instanceMethod zs_yO, .selects "java/lang/String" zs_yO zs_yO, zs_cN, .instanceMethod zs_yN, .selects "java/lang/String" zs_yN zs_yN, zs_cC, .instanceMethod zs_yC, .selects "java/lang/String" zs_yC zs_yC, .initialized "java/lang/String", .initialized "java/lang/StringLatin1", .initialized "jdk/internal/util/Preconditions", .methodLink "java/lang/String" 335 zs_yO, .methodLink "java/lang/String" 492 zs_yI, .methodLink "java/lang/String" 495 zs_yL, .methodLink "java/lang/StringLatin1" 9 zs_yK, .methodLink "java/lang/String" 1059 zs_yP, .fieldLink "java/lang/String" 38 "java/lang/String" "COMPACT_STRINGS" "Z", .fieldLink "java/lang/String" 1053 "jdk/internal/util/Preconditions" "SIOOBE_FORMATTER" "Ljava/util/function/BiFunction;", .fieldLink "java/lang/String" 9 "java/lang/String" "value" "[B", .fieldLink "java/lang/String" 15 "java/lang/String" "coder" "B"]
set_option maxRecDepth 100000 in
theorem zs_w_in : GoodIn lw_tbl zs_w := goodIn_c _ [(3, 20), (3, 19), (3, 15), (3, 14), (3, 12), (3, 11), (3, 9), (3, 7), (3, 8), (2, 239), (2, 237), (2, 238), (2, 235), (2, 233), (2, 234), (3, 5), (3, 3), (3, 4), (1, 20), (1, 23), (1, 22), (2, 236), (3, 6), (3, 10), (3, 13), (3, 18), (3, 0), (3, 16), (7, 99), (7, 100)] (by decide +kernel) (by decide +kernel)
set_option maxRecDepth 100000 in
theorem zs_dP_0 : decode zs_bP 0 = .ok (.iload_n 0, 1) := by decide +kernel
set_option maxRecDepth 100000 in
theorem zs_dP_1 : decode zs_bP 1 = .ok (.ifCond .lt 8, 3) := by decide +kernel
set_option maxRecDepth 100000 in
theorem zs_dP_4 : decode zs_bP 4 = .ok (.iload_n 0, 1) := by decide +kernel
set_option maxRecDepth 100000 in
theorem zs_dP_5 : decode zs_bP 5 = .ok (.iload_n 1, 1) := by decide +kernel
set_option maxRecDepth 100000 in
theorem zs_dP_6 : decode zs_bP 6 = .ok (.if_icmp .lt 10, 3) := by decide +kernel
set_option maxRecDepth 100000 in
theorem zs_dP_9 : decode zs_bP 9 = .ok (.aload_n 2, 1) := by decide +kernel
set_option maxRecDepth 100000 in
theorem zs_dP_10 : decode zs_bP 10 = .ok (.iload_n 0, 1) := by decide +kernel
set_option maxRecDepth 100000 in
theorem zs_dP_11 : decode zs_bP 11 = .ok (.iload_n 1, 1) := by decide +kernel
set_option maxRecDepth 100000 in
theorem zs_dP_12 : decode zs_bP 12 = .ok (.invokestatic 95, 3) := by decide +kernel
set_option maxRecDepth 100000 in
theorem zs_dP_15 : decode zs_bP 15 = .ok (.athrow, 1) := by decide +kernel
set_option maxRecDepth 100000 in
theorem zs_dP_16 : decode zs_bP 16 = .ok (.iload_n 0, 1) := by decide +kernel
set_option maxRecDepth 100000 in
theorem zs_dP_17 : decode zs_bP 17 = .ok (.ireturn, 1) := by decide +kernel
set_option maxRecDepth 100000 in
theorem zs_dK_0 : decode zs_bK 0 = .ok (.iload_n 0, 1) := by decide +kernel
set_option maxRecDepth 100000 in
theorem zs_dK_1 : decode zs_bK 1 = .ok (.iload_n 1, 1) := by decide +kernel
set_option maxRecDepth 100000 in
theorem zs_dK_2 : decode zs_bK 2 = .ok (.getstatic 1053, 3) := by decide +kernel
set_option maxRecDepth 100000 in
theorem zs_dK_5 : decode zs_bK 5 = .ok (.invokestatic 1059, 3) := by decide +kernel
set_option maxRecDepth 100000 in
theorem zs_dK_8 : decode zs_bK 8 = .ok (.pop, 1) := by decide +kernel
set_option maxRecDepth 100000 in
theorem zs_dK_9 : decode zs_bK 9 = .ok (.return_, 1) := by decide +kernel
set_option maxRecDepth 100000 in
theorem zs_dL_0 : decode zs_bL 0 = .ok (.iload_n 1, 1) := by decide +kernel
set_option maxRecDepth 100000 in
theorem zs_dL_1 : decode zs_bL 1 = .ok (.aload_n 0, 1) := by decide +kernel
set_option maxRecDepth 100000 in
theorem zs_dL_2 : decode zs_bL 2 = .ok (.arraylength, 1) := by decide +kernel
set_option maxRecDepth 100000 in
theorem zs_dL_3 : decode zs_bL 3 = .ok (.invokestatic 9, 3) := by decide +kernel
set_option maxRecDepth 100000 in
theorem zs_dL_6 : decode zs_bL 6 = .ok (.aload_n 0, 1) := by decide +kernel
set_option maxRecDepth 100000 in
theorem zs_dL_7 : decode zs_bL 7 = .ok (.iload_n 1, 1) := by decide +kernel
set_option maxRecDepth 100000 in
theorem zs_dL_8 : decode zs_bL 8 = .ok (.baload, 1) := by decide +kernel
set_option maxRecDepth 100000 in
theorem zs_dL_9 : decode zs_bL 9 = .ok (.sipush 255, 3) := by decide +kernel
set_option maxRecDepth 100000 in
theorem zs_dL_12 : decode zs_bL 12 = .ok (.iand, 1) := by decide +kernel
set_option maxRecDepth 100000 in
theorem zs_dL_13 : decode zs_bL 13 = .ok (.i2c, 1) := by decide +kernel
set_option maxRecDepth 100000 in
theorem zs_dL_14 : decode zs_bL 14 = .ok (.ireturn, 1) := by decide +kernel
set_option maxRecDepth 100000 in
theorem zs_dI_0 : decode zs_bI 0 = .ok (.getstatic 38, 3) := by decide +kernel
set_option maxRecDepth 100000 in
theorem zs_dI_3 : decode zs_bI 3 = .ok (.ifCond .eq 14, 3) := by decide +kernel
set_option maxRecDepth 100000 in
theorem zs_dI_6 : decode zs_bI 6 = .ok (.aload_n 0, 1) := by decide +kernel
set_option maxRecDepth 100000 in
theorem zs_dI_7 : decode zs_bI 7 = .ok (.getfield 15, 3) := by decide +kernel
set_option maxRecDepth 100000 in
theorem zs_dI_10 : decode zs_bI 10 = .ok (.ifCond .ne 7, 3) := by decide +kernel
set_option maxRecDepth 100000 in
theorem zs_dI_13 : decode zs_bI 13 = .ok (.iconst 1, 1) := by decide +kernel
set_option maxRecDepth 100000 in
theorem zs_dI_14 : decode zs_bI 14 = .ok (.goto 4, 3) := by decide +kernel
set_option maxRecDepth 100000 in
theorem zs_dI_17 : decode zs_bI 17 = .ok (.iconst 0, 1) := by decide +kernel
set_option maxRecDepth 100000 in
theorem zs_dI_18 : decode zs_bI 18 = .ok (.ireturn, 1) := by decide +kernel
set_option maxRecDepth 100000 in
theorem zs_dO_0 : decode zs_bO 0 = .ok (.getstatic 38, 3) := by decide +kernel
set_option maxRecDepth 100000 in
theorem zs_dO_3 : decode zs_bO 3 = .ok (.ifCond .eq 10, 3) := by decide +kernel
set_option maxRecDepth 100000 in
theorem zs_dO_6 : decode zs_bO 6 = .ok (.aload_n 0, 1) := by decide +kernel
set_option maxRecDepth 100000 in
theorem zs_dO_7 : decode zs_bO 7 = .ok (.getfield 15, 3) := by decide +kernel
set_option maxRecDepth 100000 in
theorem zs_dO_10 : decode zs_bO 10 = .ok (.goto 4, 3) := by decide +kernel
set_option maxRecDepth 100000 in
theorem zs_dO_13 : decode zs_bO 13 = .ok (.iconst 1, 1) := by decide +kernel
set_option maxRecDepth 100000 in
theorem zs_dO_14 : decode zs_bO 14 = .ok (.ireturn, 1) := by decide +kernel
set_option maxRecDepth 100000 in
theorem zs_dN_0 : decode zs_bN 0 = .ok (.aload_n 0, 1) := by decide +kernel
set_option maxRecDepth 100000 in
theorem zs_dN_1 : decode zs_bN 1 = .ok (.getfield 9, 3) := by decide +kernel
set_option maxRecDepth 100000 in
theorem zs_dN_4 : decode zs_bN 4 = .ok (.arraylength, 1) := by decide +kernel
set_option maxRecDepth 100000 in
theorem zs_dN_5 : decode zs_bN 5 = .ok (.aload_n 0, 1) := by decide +kernel
set_option maxRecDepth 100000 in
theorem zs_dN_6 : decode zs_bN 6 = .ok (.invokevirtual 335, 3) := by decide +kernel
set_option maxRecDepth 100000 in
theorem zs_dN_9 : decode zs_bN 9 = .ok (.ishr, 1) := by decide +kernel
set_option maxRecDepth 100000 in
theorem zs_dN_10 : decode zs_bN 10 = .ok (.ireturn, 1) := by decide +kernel
set_option maxRecDepth 100000 in
theorem zs_dC_0 : decode zs_bC 0 = .ok (.aload_n 0, 1) := by decide +kernel
set_option maxRecDepth 100000 in
theorem zs_dC_1 : decode zs_bC 1 = .ok (.invokevirtual 492, 3) := by decide +kernel
set_option maxRecDepth 100000 in
theorem zs_dC_4 : decode zs_bC 4 = .ok (.ifCond .eq 12, 3) := by decide +kernel
set_option maxRecDepth 100000 in
theorem zs_dC_7 : decode zs_bC 7 = .ok (.aload_n 0, 1) := by decide +kernel
set_option maxRecDepth 100000 in
theorem zs_dC_8 : decode zs_bC 8 = .ok (.getfield 9, 3) := by decide +kernel
set_option maxRecDepth 100000 in
theorem zs_dC_11 : decode zs_bC 11 = .ok (.iload_n 1, 1) := by decide +kernel
set_option maxRecDepth 100000 in
theorem zs_dC_12 : decode zs_bC 12 = .ok (.invokestatic 495, 3) := by decide +kernel
set_option maxRecDepth 100000 in
theorem zs_dC_15 : decode zs_bC 15 = .ok (.ireturn, 1) := by decide +kernel
set_option maxRecDepth 100000 in
theorem zs_dC_16 : decode zs_bC 16 = .ok (.aload_n 0, 1) := by decide +kernel
set_option maxRecDepth 100000 in
theorem zs_dC_17 : decode zs_bC 17 = .ok (.getfield 9, 3) := by decide +kernel
set_option maxRecDepth 100000 in
theorem zs_dC_20 : decode zs_bC 20 = .ok (.iload_n 1, 1) := by decide +kernel
set_option maxRecDepth 100000 in
theorem zs_dC_21 : decode zs_bC 21 = .ok (.invokestatic 498, 3) := by decide +kernel
set_option maxRecDepth 100000 in
theorem zs_dC_24 : decode zs_bC 24 = .ok (.ireturn, 1) := by decide +kernel
end
