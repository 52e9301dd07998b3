/-! arguments out of range: by wip/gen/bad.py -/
section STEP
variable {F j pc n : Nat} {z z2 : ev_ME} {ls : ev_L} {st r : List Value} {w : ev_W}
theorem ev_g_I {ix a : Nat} {q : Nat × Nat} (h1 : ev_look2 j pc ev_thr = none) (h2 : ev_mel j = some z) (h3 : ev_cd j pc = some (.getfield ix, 3)) (hq : ev_look2 (ev_own1 z) ix ev_flt = some q) (ht : ev_fty q.1 q.2 = 0) (ha : a < w_n w) (hk : w_K w a = q.1) : ev (F + 1) j pc ls (.ref a :: r) w = ev F j (pc + 3) ls (.int (w_I w a q.2) :: r) w := by
  rw [ev_go h1 h2 h3 rfl]
  show ev_getf (ev F) j z pc ls w ix (.ref a :: r) = _
  unfold ev_getf
  dsimp only
  rw [hq]
  dsimp only
  rw [decide_eq_true ha, hk, ev_beq_self, ht]
  rfl
theorem ev_g_R {ix a : Nat} {q : Nat × Nat} (h1 : ev_look2 j pc ev_thr = none) (h2 : ev_mel j = some z) (h3 : ev_cd j pc = some (.getfield ix, 3)) (hq : ev_look2 (ev_own1 z) ix ev_flt = some q) (ht : ev_fty q.1 q.2 = 2) (ha : a < w_n w) (hk : w_K w a = q.1) : ev (F + 1) j pc ls (.ref a :: r) w = ev F j (pc + 3) ls (va_rf (w_R w a q.2) :: r) w := by
  rw [ev_go h1 h2 h3 rfl]
  show ev_getf (ev F) j z pc ls w ix (.ref a :: r) = _
  unfold ev_getf
  dsimp only
  rw [hq]
  dsimp only
  rw [decide_eq_true ha, hk, ev_beq_self, ht]
  rfl
theorem ev_g_P {ix a : Nat} {q : Nat × Nat} {x : Int32} (h1 : ev_look2 j pc ev_thr = none) (h2 : ev_mel j = some z) (h3 : ev_cd j pc = some (.putfield ix, 3)) (hq : ev_look2 (ev_own1 z) ix ev_flt = some q) (hp : ev_pfok z q = true) (ht : ev_fty q.1 q.2 = 0) (ha : a < w_n w) (hk : w_K w a = q.1) : ev (F + 1) j pc ls (.int x :: .ref a :: r) w = ev F j (pc + 3) ls r (w_sI w a q.2 x) := by
  rw [ev_go h1 h2 h3 rfl]
  show ev_putf (ev F) j z pc ls w ix (.int x :: .ref a :: r) = _
  unfold ev_putf
  dsimp only
  rw [hq]
  dsimp only
  rw [decide_eq_true ha, hk, ev_beq_self, hp, ht]
  rfl
theorem ev_g_V {ix a j2 : Nat} {rest : List Value} (h1 : ev_look2 j pc ev_thr = none) (h2 : ev_mel j = some z) (h3 : ev_cd j pc = some (.invokevirtual ix, 3)) (hj : ev_look2 (ev_own1 z) ix ev_tgt = some j2) (he : ev_me j2 = some z2) (hkd : ev_kd z2 = 1) (hdr : st.drop (ev_na z2) = .ref a :: rest) (ha : a < w_n w) (hk : w_K w a = ev_own1 z2) (hb : (decide (ev_cat rest ≤ 8) && ev_rmk z z2) = true) : ev (F + 1) j pc ls st w = ev_aft (ev F) j z pc ls (ev_rt z2) rest (ev_call F j2 (.ref a :: (st.take (ev_na z2)).reverse) w) := by
  rw [ev_go h1 h2 h3 rfl]
  show ev_inv (ev F) (ev_call F) j z pc ls w 1 ix st = _
  unfold ev_inv
  rw [hj]
  dsimp only
  rw [he]
  dsimp only
  rw [hkd]
  show ev_virt (ev F) (ev_call F) j z pc ls w j2 z2 st = _
  unfold ev_virt
  rw [hdr]
  dsimp only
  rw [decide_eq_true ha, hk, ev_beq_self, hb]
  rfl
theorem ev_g_S {ix j2 : Nat} (h1 : ev_look2 j pc ev_thr = none) (h2 : ev_mel j = some z) (h3 : ev_cd j pc = some (.invokestatic ix, 3)) (hj : ev_look2 (ev_own1 z) ix ev_tgt = some j2) (he : ev_me j2 = some z2) (hkd : ev_kd z2 = 0) (hb : (decide (ev_na z2 ≤ st.length) && (decide (ev_cat (st.drop (ev_na z2)) ≤ 8) && ev_rmk z z2)) = true) : ev (F + 1) j pc ls st w = ev_aft (ev F) j z pc ls (ev_rt z2) (st.drop (ev_na z2)) (ev_call F j2 (st.take (ev_na z2)).reverse w) := by
  rw [ev_go h1 h2 h3 rfl]
  show ev_inv (ev F) (ev_call F) j z pc ls w 0 ix st = _
  unfold ev_inv
  rw [hj]
  dsimp only
  rw [he]
  dsimp only
  rw [hkd]
  show ev_stat (ev F) (ev_call F) j z pc ls w j2 z2 st = _
  unfold ev_stat
  rw [hb]
  rfl
theorem ev_g_c {as : List Value} (he : ev_me j = some z) (hc : (as.all (fun v => Nat.beq v.category 1) && decide (as.length ≤ ev_ml z)) = true) : ev_call F j as w = ev F j 0 (ev_in (ev_ml z) as) [] w := by
  unfold ev_call
  rw [he]
  dsimp only
  rw [hc]
  rfl
theorem ev_g_T {q : Nat × Nat × Nat × Nat × Nat} (h : ev_look2 j pc ev_thr = some q) : ev (F + 1) j pc ls [] w = some (.inr q.1, w_th w) := by
  rw [ev_s]
  unfold ev_body
  rw [h]
theorem ev_g_b {c : ClassFile.Cond} {off : Int} {q : Nat} {x : Int32} (h1 : ev_look2 j pc ev_thr = none) (h2 : ev_mel j = some z) (h3 : ev_cd j pc = some (.ifCond c off, 3)) (hq : ev_jmp pc off = some q) : ev (F + 1) j pc ls (.int x :: r) w = bif ev_t1 c x then ev F j q ls r w else ev F j (pc + 3) ls r w := by
  rw [ev_go h1 h2 h3 rfl]
  show ev_br (ev F) j pc ls w (ev_t1 c x) off r = _
  unfold ev_br
  rw [hq]
theorem ev_g_A {go : Nat → Nat → ev_L → List Value → ev_W → Option ev_R} {rt : Option FieldType} {v : Value} {w9 : ev_W} (h : ev_rok rt (some v) = true) : ev_aft go j z pc ls rt r (some (.inl (some v), w9)) = go j (pc + 3) ls (v :: r) w9 := by
  unfold ev_aft
  dsimp only
  rw [h]
  rfl
theorem ev_g_sto {k : Fin 4} {x : Int32} (h1 : ev_look2 j pc ev_thr = none) (h2 : ev_mel j = some z) (h3 : ev_cd j pc = some (.istore_n k, 1)) (hb : (decide ((k : Nat) < ls.length) && ev_c1 ls (k : Nat)) = true) : ev (F + 1) j pc ls (.int x :: r) w = ev F j (pc + 1) (ev_sto ls (k : Nat) (.int x)) r w := by
  rw [ev_go h1 h2 h3 rfl]
  show ev_st1 (ev F) j pc ls w (k : Nat) 1 (.int x) r = _
  unfold ev_st1
  rw [hb]
  rfl
/-- an exception comes back, a handler answers -/
theorem ev_g_X {go : Nat → Nat → ev_L → List Value → ev_W → Option ev_R} {rt : Option FieldType} {E q : Nat} {k : Int32} {h9 : Nat × Nat × Nat × Nat} {r9 : List (Nat × Nat × Nat × Nat)} {w9 : ev_W} (hh : ev_hh z = h9 :: r9) (h1 : ev_han pc E (h9 :: r9) = some q) (h2 : ev_hret j q ls = some k) (h3 : ev_rok (ev_rt z) (some (.int k)) = true) : ev_aft go j z pc ls rt r (some (.inr E, w9)) = some (.inl (some (.int k)), w9) := by
  unfold ev_aft
  dsimp only
  rw [hh]
  dsimp only
  rw [h1]
  dsimp only
  rw [h2]
  dsimp only
  rw [h3]
  rfl
theorem ev_g_X0 {go : Nat → Nat → ev_L → List Value → ev_W → Option ev_R} {rt : Option FieldType} {E : Nat} {w9 : ev_W} (hh : ev_hh z = []) : ev_aft go j z pc ls rt r (some (.inr E, w9)) = some (.inr E, w9) := by
  unfold ev_aft
  dsimp only
  rw [hh]
end STEP

def ev_jl : Nat := 132
def ev_zl : ev_ME := (7, ⟨"FlagLaundry", "load", "(I)I"⟩, prog_1_method_3_code, 3, some FieldType.int, 1, 1, 7, 155, [])
theorem ev_zl_me : ev_me ev_jl = some ev_zl := rfl
theorem ev_zl_mel : ev_mel ev_jl = some ev_zl := rfl
def ev_jt : Nat := 175
def ev_zt : ev_ME := (7, ⟨"FlagLaundry", "textByte", "(I)I"⟩, prog_1_method_46_code, 2, some FieldType.int, 1, 1, 6, 82, [])
theorem ev_zt_me : ev_me ev_jt = some ev_zt := rfl
theorem ev_zt_mel : ev_mel ev_jt = some ev_zt := rfl
def ev_jr : Nat := 191
def ev_zr : ev_ME := (7, ⟨"FlagLaundry", "restore", "(I)I"⟩, prog_1_method_62_code, 2, some FieldType.int, 1, 1, 7, 102, [])
theorem ev_zr_me : ev_me ev_jr = some ev_zr := rfl
theorem ev_zr_mel : ev_mel ev_jr = some ev_zr := rfl
def ev_jn : Nat := 196
def ev_zn : ev_ME := (7, ⟨"FlagLaundry", "needSlot", "(I)V"⟩, prog_1_method_67_code, 1, none, 1, 0, 6, 82, [])
theorem ev_zn_me : ev_me ev_jn = some ev_zn := rfl
theorem ev_zn_mel : ev_mel ev_jn = some ev_zn := rfl
def ev_jm : Nat := 206
def ev_zm : ev_ME := (8, ⟨"FlagLaundryModel", "may", "(ZZZ)Z"⟩, prog_10_method_6_code, 4, some FieldType.boolean, 3, 1, 0, 0, [])
theorem ev_zm_me : ev_me ev_jm = some ev_zm := rfl
theorem ev_zm_mel : ev_mel ev_jm = some ev_zm := rfl
def ev_jm2 : Nat := 207
def ev_zm2 : ev_ME := (8, ⟨"FlagLaundryModel", "mayTwo", "(ZZ)Z"⟩, prog_10_method_7_code, 3, some FieldType.boolean, 2, 1, 1, 23, [])
theorem ev_zm2_me : ev_me ev_jm2 = some ev_zm2 := rfl
theorem ev_zm2_mel : ev_mel ev_jm2 = some ev_zm2 := rfl
def ev_jml : Nat := 239
def ev_zml : ev_ME := (8, ⟨"FlagLaundryModel", "load", "(I)I"⟩, prog_10_method_39_code, 3, some FieldType.int, 1, 1, 10, 224, [])
theorem ev_zml_me : ev_me ev_jml = some ev_zml := rfl
theorem ev_zml_mel : ev_mel ev_jml = some ev_zml := rfl
def ev_jmt : Nat := 350
def ev_zmt : ev_ME := (8, ⟨"FlagLaundryModel", "textByte", "(I)I"⟩, prog_10_method_150_code, 2, some FieldType.int, 1, 1, 1, 23, [])
theorem ev_zmt_me : ev_me ev_jmt = some ev_zmt := rfl
theorem ev_zmt_mel : ev_mel ev_jmt = some ev_zmt := rfl
def ev_jmr : Nat := 370
def ev_zmr : ev_ME := (8, ⟨"FlagLaundryModel", "restore", "(I)I"⟩, prog_10_method_170_code, 3, some FieldType.int, 1, 1, 2, 45, [])
theorem ev_zmr_me : ev_me ev_jmr = some ev_zmr := rfl
theorem ev_zmr_mel : ev_mel ev_jmr = some ev_zmr := rfl
def ev_jwl : Nat := 373
def ev_zwl : ev_ME := (9, ⟨"FlagLaundryLaw", "load", "(LFlagLaundry;I[J)I"⟩, method_3_code, 4, some FieldType.int, 3, 0, 8, 177, [(0, 9, 12, 13), (0, 9, 15, 15)])
theorem ev_zwl_me : ev_me ev_jwl = some ev_zwl := rfl
theorem ev_zwl_mel : ev_mel ev_jwl = some ev_zwl := rfl
def ev_jwt : Nat := 413
def ev_zwt : ev_ME := (9, ⟨"FlagLaundryLaw", "textByte", "(LFlagLaundry;I[J)I"⟩, method_43_code, 4, some FieldType.int, 3, 0, 7, 103, [(0, 9, 12, 13)])
theorem ev_zwt_me : ev_me ev_jwt = some ev_zwt := rfl
theorem ev_zwt_mel : ev_mel ev_jwt = some ev_zwt := rfl
def ev_jwr : Nat := 428
def ev_zwr : ev_ME := (9, ⟨"FlagLaundryLaw", "restore", "(LFlagLaundry;I[J)I"⟩, method_58_code, 4, some FieldType.int, 3, 0, 8, 123, [(0, 9, 12, 13), (0, 9, 15, 20)])
theorem ev_zwr_me : ev_me ev_jwr = some ev_zwr := rfl
theorem ev_zwr_mel : ev_mel ev_jwr = some ev_zwr := rfl
theorem ev_l_ev (G a : Nat) (n : Int32) (w : ev_W) (ha : a < w_n w) (hk : w_K w a = 7) (hI : w_I w a 1 = 0) (hn : ¬ n = 0) : ev (G + 8) ev_jl 0 (ev_in 3 [.ref a, .int n]) [] w = some (.inr 1, w_th w) := by
  have hcd : ev_cd ev_jl 0 = some (.iload_n 1, 1) ∧ ev_cd ev_jl 1 = some (.ifCond .lt 11, 3) ∧ ev_cd ev_jl 4 = some (.iload_n 1, 1) ∧ ev_cd ev_jl 5 = some (.aload_n 0, 1) ∧ ev_cd ev_jl 6 = some (.getfield 13, 3) ∧ ev_cd ev_jl 9 = some (.if_icmp .le 13, 3) := by decide +kernel
  obtain ⟨c0, c1, c4, c5, c6, c9⟩ := hcd
  have ht : ev_look2 ev_jl 0 ev_thr = none ∧ ev_look2 ev_jl 1 ev_thr = none ∧ ev_look2 ev_jl 4 ev_thr = none ∧ ev_look2 ev_jl 5 ev_thr = none ∧ ev_look2 ev_jl 6 ev_thr = none ∧ ev_look2 ev_jl 9 ev_thr = none := by decide +kernel
  obtain ⟨t0, t1, t4, t5, t6, t9⟩ := ht
  have h12 : ev_look2 ev_jl 12 ev_thr = some (1, 62, 64, 66, 0) := by decide +kernel
  have hls : ev_in 3 [.ref a, .int n] = [some (.ref a), some (.int n), none] := rfl
  rw [hls]
  rw [ev_go t0 ev_zl_mel c0 rfl]
  show ev (G + 7) ev_jl 1 [some (.ref a), some (.int n), none] [.int n] w = _
  rw [ev_go t1 ev_zl_mel c1 rfl]
  show (bif decide (n < 0) then ev (G + 6) ev_jl 12 [some (.ref a), some (.int n), none] [] w else ev (G + 6) ev_jl 4 [some (.ref a), some (.int n), none] [] w) = _
  by_cases h : n < 0
  · rw [decide_eq_true h, cond_true]
    exact ev_g_T (F := G + 5) h12
  · rw [decide_eq_false h, cond_false, ev_go t4 ev_zl_mel c4 rfl]
    show ev (G + 5) ev_jl 5 [some (.ref a), some (.int n), none] [.int n] w = _
    rw [ev_go t5 ev_zl_mel c5 rfl]
    show ev (G + 4) ev_jl 6 [some (.ref a), some (.int n), none] [.ref a, .int n] w = _
    rw [ev_g_I (q := (7, 1)) t6 ev_zl_mel c6 (by decide +kernel) rfl ha hk]
    show ev (G + 3) ev_jl 9 [some (.ref a), some (.int n), none] [.int (w_I w a 1), .int n] w = _
    rw [hI, ev_go t9 ev_zl_mel c9 rfl]
    show (bif decide (n ≤ 0) then ev (G + 2) ev_jl 22 [some (.ref a), some (.int n), none] [] w else ev (G + 2) ev_jl 12 [some (.ref a), some (.int n), none] [] w) = _
    rw [decide_eq_false (fun h9 => hn (Int32.le_antisymm h9 (Int32.not_lt.mp h))), cond_false]
    exact ev_g_T (F := G + 1) h12
theorem ev_t_ev (G a b : Nat) (n : Int32) (w : ev_W) (ha : a < w_n w) (hk : w_K w a = 7) (hR : w_R w a 9 = some b) (hb : b < w_n w) (hkb : w_K w b = 6) (hI : w_I w b 0 = 0) : ev (G + 9) ev_jt 0 (ev_in 2 [.ref a, .int n]) [] w = some (.inr 1, w_th w) := by
  have hcd : ev_cd ev_jt 0 = some (.iload_n 1, 1) ∧ ev_cd ev_jt 1 = some (.ifCond .lt 14, 3) ∧ ev_cd ev_jt 4 = some (.iload_n 1, 1) ∧ ev_cd ev_jt 5 = some (.aload_n 0, 1) ∧ ev_cd ev_jt 6 = some (.getfield 54, 3) ∧ ev_cd ev_jt 9 = some (.getfield 330, 3) ∧ ev_cd ev_jt 12 = some (.if_icmp .lt 14, 3) := by decide +kernel
  obtain ⟨c0, c1, c4, c5, c6, c9, c12⟩ := hcd
  have ht : ev_look2 ev_jt 0 ev_thr = none ∧ ev_look2 ev_jt 1 ev_thr = none ∧ ev_look2 ev_jt 4 ev_thr = none ∧ ev_look2 ev_jt 5 ev_thr = none ∧ ev_look2 ev_jt 6 ev_thr = none ∧ ev_look2 ev_jt 9 ev_thr = none ∧ ev_look2 ev_jt 12 ev_thr = none := by decide +kernel
  obtain ⟨t0, t1, t4, t5, t6, t9, t12⟩ := ht
  have h15 : ev_look2 ev_jt 15 ev_thr = some (1, 62, 343, 66, 1) := by decide +kernel
  have hls : ev_in 2 [.ref a, .int n] = [some (.ref a), some (.int n)] := rfl
  rw [hls]
  rw [ev_go t0 ev_zt_mel c0 rfl]
  show ev (G + 8) ev_jt 1 [some (.ref a), some (.int n)] [.int n] w = _
  rw [ev_go t1 ev_zt_mel c1 rfl]
  show (bif decide (n < 0) then ev (G + 7) ev_jt 15 [some (.ref a), some (.int n)] [] w else ev (G + 7) ev_jt 4 [some (.ref a), some (.int n)] [] w) = _
  by_cases h : n < 0
  · rw [decide_eq_true h, cond_true]
    exact ev_g_T (F := G + 6) h15
  · rw [decide_eq_false h, cond_false, ev_go t4 ev_zt_mel c4 rfl]
    show ev (G + 6) ev_jt 5 [some (.ref a), some (.int n)] [.int n] w = _
    rw [ev_go t5 ev_zt_mel c5 rfl]
    show ev (G + 5) ev_jt 6 [some (.ref a), some (.int n)] [.ref a, .int n] w = _
    rw [ev_g_R (q := (7, 9)) t6 ev_zt_mel c6 (by decide +kernel) rfl ha hk]
    show ev (G + 4) ev_jt 9 [some (.ref a), some (.int n)] [va_rf (w_R w a 9), .int n] w = _
    rw [hR]
    show ev (G + 4) ev_jt 9 [some (.ref a), some (.int n)] [.ref b, .int n] w = _
    rw [ev_g_I (q := (6, 0)) t9 ev_zt_mel c9 (by decide +kernel) rfl hb hkb]
    show ev (G + 3) ev_jt 12 [some (.ref a), some (.int n)] [.int (w_I w b 0), .int n] w = _
    rw [hI, ev_go t12 ev_zt_mel c12 rfl]
    show (bif decide (n < 0) then ev (G + 2) ev_jt 26 [some (.ref a), some (.int n)] [] w else ev (G + 2) ev_jt 15 [some (.ref a), some (.int n)] [] w) = _
    rw [decide_eq_false h, cond_false]
    exact ev_g_T (F := G + 1) h15
theorem ev_n_ev (G : Nat) (n : Int32) (w : ev_W) (hn : n < 0 ∨ ¬ n < 2) : ev (G + 7) ev_jn 0 (ev_in 1 [.int n]) [] w = some (.inr 1, w_th w) := by
  have hcd : ev_cd ev_jn 0 = some (.iload_n 0, 1) ∧ ev_cd ev_jn 1 = some (.ifCond .lt 8, 3) ∧ ev_cd ev_jn 4 = some (.iload_n 0, 1) ∧ ev_cd ev_jn 5 = some (.iconst 2, 1) ∧ ev_cd ev_jn 6 = some (.if_icmp .lt 14, 3) := by decide +kernel
  obtain ⟨c0, c1, c4, c5, c6⟩ := hcd
  have ht : ev_look2 ev_jn 0 ev_thr = none ∧ ev_look2 ev_jn 1 ev_thr = none ∧ ev_look2 ev_jn 4 ev_thr = none ∧ ev_look2 ev_jn 5 ev_thr = none ∧ ev_look2 ev_jn 6 ev_thr = none := by decide +kernel
  obtain ⟨t0, t1, t4, t5, t6⟩ := ht
  have h9 : ev_look2 ev_jn 9 ev_thr = some (1, 62, 434, 66, 1) := by decide +kernel
  have hls : ev_in 1 [.int n] = [some (.int n)] := rfl
  rw [hls]
  rw [ev_go t0 ev_zn_mel c0 rfl]
  show ev (G + 6) ev_jn 1 [some (.int n)] [.int n] w = _
  rw [ev_go t1 ev_zn_mel c1 rfl]
  show (bif decide (n < 0) then ev (G + 5) ev_jn 9 [some (.int n)] [] w else ev (G + 5) ev_jn 4 [some (.int n)] [] w) = _
  by_cases h : n < 0
  · rw [decide_eq_true h, cond_true]
    exact ev_g_T (F := G + 4) h9
  · rw [decide_eq_false h, cond_false, ev_go t4 ev_zn_mel c4 rfl]
    show ev (G + 4) ev_jn 5 [some (.int n)] [.int n] w = _
    rw [ev_go t5 ev_zn_mel c5 rfl]
    show ev (G + 3) ev_jn 6 [some (.int n)] [.int 2, .int n] w = _
    rw [ev_go t6 ev_zn_mel c6 rfl]
    show (bif decide (n < 2) then ev (G + 2) ev_jn 20 [some (.int n)] [] w else ev (G + 2) ev_jn 9 [some (.int n)] [] w) = _
    rw [decide_eq_false (hn.resolve_left h), cond_false]
    exact ev_g_T (F := G + 1) h9
theorem ev_r_ev (G a : Nat) (n : Int32) (w : ev_W) (hn : n < 0 ∨ ¬ n < 2) : ev (G + 9) ev_jr 0 (ev_in 2 [.ref a, .int n]) [] w = some (.inr 1, w_th w) := by
  have hcd : ev_cd ev_jr 0 = some (.iload_n 1, 1) ∧ ev_cd ev_jr 1 = some (.invokestatic 410, 3) := by decide +kernel
  obtain ⟨c0, c1⟩ := hcd
  have ht : ev_look2 ev_jr 0 ev_thr = none ∧ ev_look2 ev_jr 1 ev_thr = none := by decide +kernel
  obtain ⟨t0, t1⟩ := ht
  have hls : ev_in 2 [.ref a, .int n] = [some (.ref a), some (.int n)] := rfl
  rw [hls]
  rw [ev_go t0 ev_zr_mel c0 rfl]
  show ev (G + 8) ev_jr 1 [some (.ref a), some (.int n)] [.int n] w = _
  rw [ev_g_S (z2 := ev_zn) (j2 := ev_jn) t1 ev_zr_mel c1 (by decide +kernel) ev_zn_me rfl rfl]
  have hc : ev_call (G + 7) ev_jn [.int n] w = some (.inr 1, w_th w) := (ev_g_c ev_zn_me rfl).trans (ev_n_ev G n w hn)
  show ev_aft (ev (G + 7)) ev_jr ev_zr 1 [some (.ref a), some (.int n)] (ev_rt ev_zn) [] (ev_call (G + 7) ev_jn [.int n] w) = _
  rw [hc]
  exact ev_g_X0 rfl
theorem ev_wl_ev (G a d : Nat) (n : Int32) (w : ev_W) (ha : a < w_n w) (hk : w_K w a = 7) (hcal : ∀ G, ev (G + 9) ev_jl 0 (ev_in (ev_ml ev_zl) [.ref a, .int n]) [] w = some (.inr 1, w_th w)) : ev (G + 14) ev_jwl 0 (ev_in 4 [.ref a, .int n, .ref d]) [] w = some (.inl (some (.int 1)), w_th w) := by
  have hcd : ev_cd ev_jwl 0 = some (.aload_n 2, 1) ∧ ev_cd ev_jwl 1 = some (.iconst 0, 1) ∧ ev_cd ev_jwl 2 = some (.aload_n 0, 1) ∧ ev_cd ev_jwl 3 = some (.iload_n 1, 1) ∧ ev_cd ev_jwl 4 = some (.invokevirtual 7, 3) := by decide +kernel
  obtain ⟨c0, c1, c2, c3, c4⟩ := hcd
  have ht : ev_look2 ev_jwl 0 ev_thr = none ∧ ev_look2 ev_jwl 1 ev_thr = none ∧ ev_look2 ev_jwl 2 ev_thr = none ∧ ev_look2 ev_jwl 3 ev_thr = none ∧ ev_look2 ev_jwl 4 ev_thr = none := by decide +kernel
  obtain ⟨t0, t1, t2, t3, t4⟩ := ht
  have hls : ev_in 4 [.ref a, .int n, .ref d] = [some (.ref a), some (.int n), some (.ref d), none] := rfl
  rw [hls]
  rw [ev_go t0 ev_zwl_mel c0 rfl]
  show ev (G + 13) ev_jwl 1 [some (.ref a), some (.int n), some (.ref d), none] [.ref d] w = _
  rw [ev_go t1 ev_zwl_mel c1 rfl]
  show ev (G + 12) ev_jwl 2 [some (.ref a), some (.int n), some (.ref d), none] [.int 0, .ref d] w = _
  rw [ev_go t2 ev_zwl_mel c2 rfl]
  show ev (G + 11) ev_jwl 3 [some (.ref a), some (.int n), some (.ref d), none] [.ref a, .int 0, .ref d] w = _
  rw [ev_go t3 ev_zwl_mel c3 rfl]
  show ev (G + 10) ev_jwl 4 [some (.ref a), some (.int n), some (.ref d), none] [.int n, .ref a, .int 0, .ref d] w = _
  rw [ev_g_V (z2 := ev_zl) (j2 := ev_jl) (a := a) (rest := [.int 0, .ref d]) t4 ev_zwl_mel c4 (by decide +kernel) ev_zl_me rfl rfl ha hk rfl]
  have hc : ev_call (G + 9) ev_jl [.ref a, .int n] w = some (.inr 1, w_th w) := (ev_g_c ev_zl_me rfl).trans (hcal G)
  show ev_aft (ev (G + 9)) ev_jwl ev_zwl 4 [some (.ref a), some (.int n), some (.ref d), none] (ev_rt ev_zl) [.int 0, .ref d] (ev_call (G + 9) ev_jl [.ref a, .int n] w) = _
  rw [hc]
  have hhan : ev_han 4 1 (ev_hh ev_zwl) = some 12 := by decide +kernel
  have hret : ev_hret ev_jwl 12 [some (.ref a), some (.int n), some (.ref d), none] = some 1 := by
    have hcd : ev_cd ev_jwl 12 = some (.astore_n 3, 1) ∧ ev_cd ev_jwl 13 = some (.iconst 1, 1) ∧ ev_cd ev_jwl 14 = some (.ireturn, 1) := by decide +kernel
    unfold ev_hret
    rw [hcd.1, hcd.2.1, hcd.2.2]
    rfl
  exact ev_g_X rfl hhan hret rfl
theorem ev_wt_ev (G a d : Nat) (n : Int32) (w : ev_W) (ha : a < w_n w) (hk : w_K w a = 7) (hcal : ∀ G, ev (G + 9) ev_jt 0 (ev_in (ev_ml ev_zt) [.ref a, .int n]) [] w = some (.inr 1, w_th w)) : ev (G + 14) ev_jwt 0 (ev_in 4 [.ref a, .int n, .ref d]) [] w = some (.inl (some (.int 1)), w_th w) := by
  have hcd : ev_cd ev_jwt 0 = some (.aload_n 2, 1) ∧ ev_cd ev_jwt 1 = some (.iconst 0, 1) ∧ ev_cd ev_jwt 2 = some (.aload_n 0, 1) ∧ ev_cd ev_jwt 3 = some (.iload_n 1, 1) ∧ ev_cd ev_jwt 4 = some (.invokevirtual 141, 3) := by decide +kernel
  obtain ⟨c0, c1, c2, c3, c4⟩ := hcd
  have ht : ev_look2 ev_jwt 0 ev_thr = none ∧ ev_look2 ev_jwt 1 ev_thr = none ∧ ev_look2 ev_jwt 2 ev_thr = none ∧ ev_look2 ev_jwt 3 ev_thr = none ∧ ev_look2 ev_jwt 4 ev_thr = none := by decide +kernel
  obtain ⟨t0, t1, t2, t3, t4⟩ := ht
  have hls : ev_in 4 [.ref a, .int n, .ref d] = [some (.ref a), some (.int n), some (.ref d), none] := rfl
  rw [hls]
  rw [ev_go t0 ev_zwt_mel c0 rfl]
  show ev (G + 13) ev_jwt 1 [some (.ref a), some (.int n), some (.ref d), none] [.ref d] w = _
  rw [ev_go t1 ev_zwt_mel c1 rfl]
  show ev (G + 12) ev_jwt 2 [some (.ref a), some (.int n), some (.ref d), none] [.int 0, .ref d] w = _
  rw [ev_go t2 ev_zwt_mel c2 rfl]
  show ev (G + 11) ev_jwt 3 [some (.ref a), some (.int n), some (.ref d), none] [.ref a, .int 0, .ref d] w = _
  rw [ev_go t3 ev_zwt_mel c3 rfl]
  show ev (G + 10) ev_jwt 4 [some (.ref a), some (.int n), some (.ref d), none] [.int n, .ref a, .int 0, .ref d] w = _
  rw [ev_g_V (z2 := ev_zt) (j2 := ev_jt) (a := a) (rest := [.int 0, .ref d]) t4 ev_zwt_mel c4 (by decide +kernel) ev_zt_me rfl rfl ha hk rfl]
  have hc : ev_call (G + 9) ev_jt [.ref a, .int n] w = some (.inr 1, w_th w) := (ev_g_c ev_zt_me rfl).trans (hcal G)
  show ev_aft (ev (G + 9)) ev_jwt ev_zwt 4 [some (.ref a), some (.int n), some (.ref d), none] (ev_rt ev_zt) [.int 0, .ref d] (ev_call (G + 9) ev_jt [.ref a, .int n] w) = _
  rw [hc]
  have hhan : ev_han 4 1 (ev_hh ev_zwt) = some 12 := by decide +kernel
  have hret : ev_hret ev_jwt 12 [some (.ref a), some (.int n), some (.ref d), none] = some 1 := by
    have hcd : ev_cd ev_jwt 12 = some (.astore_n 3, 1) ∧ ev_cd ev_jwt 13 = some (.iconst 1, 1) ∧ ev_cd ev_jwt 14 = some (.ireturn, 1) := by decide +kernel
    unfold ev_hret
    rw [hcd.1, hcd.2.1, hcd.2.2]
    rfl
  exact ev_g_X rfl hhan hret rfl
theorem ev_wr_ev (G a d : Nat) (n : Int32) (w : ev_W) (ha : a < w_n w) (hk : w_K w a = 7) (hcal : ∀ G, ev (G + 9) ev_jr 0 (ev_in (ev_ml ev_zr) [.ref a, .int n]) [] w = some (.inr 1, w_th w)) : ev (G + 14) ev_jwr 0 (ev_in 4 [.ref a, .int n, .ref d]) [] w = some (.inl (some (.int 1)), w_th w) := by
  have hcd : ev_cd ev_jwr 0 = some (.aload_n 2, 1) ∧ ev_cd ev_jwr 1 = some (.iconst 0, 1) ∧ ev_cd ev_jwr 2 = some (.aload_n 0, 1) ∧ ev_cd ev_jwr 3 = some (.iload_n 1, 1) ∧ ev_cd ev_jwr 4 = some (.invokevirtual 187, 3) := by decide +kernel
  obtain ⟨c0, c1, c2, c3, c4⟩ := hcd
  have ht : ev_look2 ev_jwr 0 ev_thr = none ∧ ev_look2 ev_jwr 1 ev_thr = none ∧ ev_look2 ev_jwr 2 ev_thr = none ∧ ev_look2 ev_jwr 3 ev_thr = none ∧ ev_look2 ev_jwr 4 ev_thr = none := by decide +kernel
  obtain ⟨t0, t1, t2, t3, t4⟩ := ht
  have hls : ev_in 4 [.ref a, .int n, .ref d] = [some (.ref a), some (.int n), some (.ref d), none] := rfl
  rw [hls]
  rw [ev_go t0 ev_zwr_mel c0 rfl]
  show ev (G + 13) ev_jwr 1 [some (.ref a), some (.int n), some (.ref d), none] [.ref d] w = _
  rw [ev_go t1 ev_zwr_mel c1 rfl]
  show ev (G + 12) ev_jwr 2 [some (.ref a), some (.int n), some (.ref d), none] [.int 0, .ref d] w = _
  rw [ev_go t2 ev_zwr_mel c2 rfl]
  show ev (G + 11) ev_jwr 3 [some (.ref a), some (.int n), some (.ref d), none] [.ref a, .int 0, .ref d] w = _
  rw [ev_go t3 ev_zwr_mel c3 rfl]
  show ev (G + 10) ev_jwr 4 [some (.ref a), some (.int n), some (.ref d), none] [.int n, .ref a, .int 0, .ref d] w = _
  rw [ev_g_V (z2 := ev_zr) (j2 := ev_jr) (a := a) (rest := [.int 0, .ref d]) t4 ev_zwr_mel c4 (by decide +kernel) ev_zr_me rfl rfl ha hk rfl]
  have hc : ev_call (G + 9) ev_jr [.ref a, .int n] w = some (.inr 1, w_th w) := (ev_g_c ev_zr_me rfl).trans (hcal G)
  show ev_aft (ev (G + 9)) ev_jwr ev_zwr 4 [some (.ref a), some (.int n), some (.ref d), none] (ev_rt ev_zr) [.int 0, .ref d] (ev_call (G + 9) ev_jr [.ref a, .int n] w) = _
  rw [hc]
  have hhan : ev_han 4 1 (ev_hh ev_zwr) = some 12 := by decide +kernel
  have hret : ev_hret ev_jwr 12 [some (.ref a), some (.int n), some (.ref d), none] = some 1 := by
    have hcd : ev_cd ev_jwr 12 = some (.astore_n 3, 1) ∧ ev_cd ev_jwr 13 = some (.iconst 1, 1) ∧ ev_cd ev_jwr 14 = some (.ireturn, 1) := by decide +kernel
    unfold ev_hret
    rw [hcd.1, hcd.2.1, hcd.2.2]
    rfl
  exact ev_g_X rfl hhan hret rfl
theorem ev_m_ev (G a : Nat) (x y : Int32) (w : ev_W) (ha : a < w_n w) (hk : w_K w a = 8) : ev (G + 13) ev_jm 0 (ev_in 4 [.ref a, .int 0, .int x, .int y]) [] w = some (.inl (some (.int 0)), w_sI w a 0 1) := by
  have hcd : ev_cd ev_jm 0 = some (.aload_n 0, 1) ∧ ev_cd ev_jm 1 = some (.iload_n 1, 1) ∧ ev_cd ev_jm 2 = some (.ifCond .ne 7, 3) ∧ ev_cd ev_jm 5 = some (.iconst 1, 1) ∧ ev_cd ev_jm 6 = some (.goto 20, 3) ∧ ev_cd ev_jm 26 = some (.putfield 40, 3) ∧ ev_cd ev_jm 29 = some (.aload_n 0, 1) ∧ ev_cd ev_jm 30 = some (.getfield 40, 3) ∧ ev_cd ev_jm 33 = some (.ifCond .ne 7, 3) ∧ ev_cd ev_jm 40 = some (.iconst 0, 1) ∧ ev_cd ev_jm 41 = some (.ireturn, 1) := by decide +kernel
  obtain ⟨c0, c1, c2, c5, c6, c26, c29, c30, c33, c40, c41⟩ := hcd
  have ht : ev_look2 ev_jm 0 ev_thr = none ∧ ev_look2 ev_jm 1 ev_thr = none ∧ ev_look2 ev_jm 2 ev_thr = none ∧ ev_look2 ev_jm 5 ev_thr = none ∧ ev_look2 ev_jm 6 ev_thr = none ∧ ev_look2 ev_jm 26 ev_thr = none ∧ ev_look2 ev_jm 29 ev_thr = none ∧ ev_look2 ev_jm 30 ev_thr = none ∧ ev_look2 ev_jm 33 ev_thr = none ∧ ev_look2 ev_jm 40 ev_thr = none ∧ ev_look2 ev_jm 41 ev_thr = none := by decide +kernel
  obtain ⟨t0, t1, t2, t5, t6, t26, t29, t30, t33, t40, t41⟩ := ht
  have hls : ev_in 4 [.ref a, .int 0, .int x, .int y] = [some (.ref a), some (.int 0), some (.int x), some (.int y)] := rfl
  rw [hls]
  rw [ev_go t0 ev_zm_mel c0 rfl]
  show ev (G + 12) ev_jm 1 [some (.ref a), some (.int 0), some (.int x), some (.int y)] [.ref a] w = _
  rw [ev_go t1 ev_zm_mel c1 rfl]
  show ev (G + 11) ev_jm 2 [some (.ref a), some (.int 0), some (.int x), some (.int y)] [.int 0, .ref a] w = _
  rw [ev_g_b t2 ev_zm_mel c2 (q := 9) rfl, show ev_t1 .ne (0 : Int32) = false from by decide, cond_false]
  show ev (G + 10) ev_jm 5 [some (.ref a), some (.int 0), some (.int x), some (.int y)] [.ref a] w = _
  rw [ev_go t5 ev_zm_mel c5 rfl]
  show ev (G + 9) ev_jm 6 [some (.ref a), some (.int 0), some (.int x), some (.int y)] [.int 1, .ref a] w = _
  rw [ev_go t6 ev_zm_mel c6 rfl]
  show ev (G + 8) ev_jm 26 [some (.ref a), some (.int 0), some (.int x), some (.int y)] [.int 1, .ref a] w = _
  rw [ev_g_P (q := (8, 0)) t26 ev_zm_mel c26 (by decide +kernel) (by decide +kernel) rfl ha hk]
  show ev (G + 7) ev_jm 29 [some (.ref a), some (.int 0), some (.int x), some (.int y)] [] (w_sI w a 0 1) = _
  rw [ev_go t29 ev_zm_mel c29 rfl]
  show ev (G + 6) ev_jm 30 [some (.ref a), some (.int 0), some (.int x), some (.int y)] [.ref a] (w_sI w a 0 1) = _
  rw [ev_g_I (w := w_sI w a 0 1) (q := (8, 0)) t30 ev_zm_mel c30 (by decide +kernel) rfl ha hk]
  have e9 : w_I (w_sI w a 0 1) a 0 = 1 := by rw [w_sI_at]; exact if_pos rfl
  show ev (G + 5) ev_jm 33 [some (.ref a), some (.int 0), some (.int x), some (.int y)] [.int (w_I (w_sI w a 0 1) a 0)] (w_sI w a 0 1) = _
  rw [e9]
  rw [ev_g_b t33 ev_zm_mel c33 (q := 40) rfl, show ev_t1 .ne (1 : Int32) = true from by decide, cond_true]
  show ev (G + 4) ev_jm 40 [some (.ref a), some (.int 0), some (.int x), some (.int y)] [] (w_sI w a 0 1) = _
  rw [ev_go t40 ev_zm_mel c40 rfl]
  show ev (G + 3) ev_jm 41 [some (.ref a), some (.int 0), some (.int x), some (.int y)] [.int 0] (w_sI w a 0 1) = _
  rw [ev_go t41 ev_zm_mel c41 rfl]
  rfl
theorem ev_ml_ev (G a : Nat) (n : Int32) (w : ev_W) (ha : a < w_n w) (hk : w_K w a = 8) (hI : w_I w a 9 = 0) (hn : ev_in3 n 0 0 = 0) : ev (G + 27) ev_jml 0 (ev_in 3 [.ref a, .int n]) [] w = some (.inl (some (.int 0)), w_sI w a 0 1) := by
  have hcd : ev_cd ev_jml 0 = some (.aload_n 0, 1) ∧ ev_cd ev_jml 1 = some (.iload_n 1, 1) ∧ ev_cd ev_jml 2 = some (.iconst 0, 1) ∧ ev_cd ev_jml 3 = some (.aload_n 0, 1) ∧ ev_cd ev_jml 4 = some (.getfield 55, 3) ∧ ev_cd ev_jml 7 = some (.invokestatic 68, 3) ∧ ev_cd ev_jml 10 = some (.iconst 1, 1) ∧ ev_cd ev_jml 11 = some (.iconst 1, 1) ∧ ev_cd ev_jml 12 = some (.invokevirtual 43, 3) ∧ ev_cd ev_jml 15 = some (.ifCond .ne 5, 3) ∧ ev_cd ev_jml 18 = some (.iconst 0, 1) ∧ ev_cd ev_jml 19 = some (.ireturn, 1) := by decide +kernel
  obtain ⟨c0, c1, c2, c3, c4, c7, c10, c11, c12, c15, c18, c19⟩ := hcd
  have ht : ev_look2 ev_jml 0 ev_thr = none ∧ ev_look2 ev_jml 1 ev_thr = none ∧ ev_look2 ev_jml 2 ev_thr = none ∧ ev_look2 ev_jml 3 ev_thr = none ∧ ev_look2 ev_jml 4 ev_thr = none ∧ ev_look2 ev_jml 7 ev_thr = none ∧ ev_look2 ev_jml 10 ev_thr = none ∧ ev_look2 ev_jml 11 ev_thr = none ∧ ev_look2 ev_jml 12 ev_thr = none ∧ ev_look2 ev_jml 15 ev_thr = none ∧ ev_look2 ev_jml 18 ev_thr = none ∧ ev_look2 ev_jml 19 ev_thr = none := by decide +kernel
  obtain ⟨t0, t1, t2, t3, t4, t7, t10, t11, t12, t15, t18, t19⟩ := ht
  have hls : ev_in 3 [.ref a, .int n] = [some (.ref a), some (.int n), none] := rfl
  rw [hls]
  rw [ev_go t0 ev_zml_mel c0 rfl]
  show ev (G + 26) ev_jml 1 [some (.ref a), some (.int n), none] [.ref a] w = _
  rw [ev_go t1 ev_zml_mel c1 rfl]
  show ev (G + 25) ev_jml 2 [some (.ref a), some (.int n), none] [.int n, .ref a] w = _
  rw [ev_go t2 ev_zml_mel c2 rfl]
  show ev (G + 24) ev_jml 3 [some (.ref a), some (.int n), none] [.int 0, .int n, .ref a] w = _
  rw [ev_go t3 ev_zml_mel c3 rfl]
  show ev (G + 23) ev_jml 4 [some (.ref a), some (.int n), none] [.ref a, .int 0, .int n, .ref a] w = _
  rw [ev_g_I (q := (8, 9)) t4 ev_zml_mel c4 (by decide +kernel) rfl ha hk]
  show ev (G + 22) ev_jml 7 [some (.ref a), some (.int n), none] [.int (w_I w a 9), .int 0, .int n, .ref a] w = _
  rw [hI, ev_g_S (z2 := ev_zin) (j2 := ev_jin) t7 ev_zml_mel c7 (by decide +kernel) ev_zin_me rfl rfl]
  have hc : ev_call (G + 21) ev_jin [.int n, .int 0, .int 0] w = some (.inl (some (.int (ev_in3 n 0 0))), w) := (ev_g_c ev_zin_me rfl).trans (ev_in_ev (G + 12) n 0 0 w)
  show ev_aft (ev (G + 21)) ev_jml ev_zml 7 [some (.ref a), some (.int n), none] (some .boolean) [.ref a] (ev_call (G + 21) ev_jin [.int n, .int 0, .int 0] w) = _
  rw [hc, hn, ev_g_A rfl]
  show ev (G + 21) ev_jml 10 [some (.ref a), some (.int n), none] [.int 0, .ref a] w = _
  rw [ev_go t10 ev_zml_mel c10 rfl]
  show ev (G + 20) ev_jml 11 [some (.ref a), some (.int n), none] [.int 1, .int 0, .ref a] w = _
  rw [ev_go t11 ev_zml_mel c11 rfl]
  show ev (G + 19) ev_jml 12 [some (.ref a), some (.int n), none] [.int 1, .int 1, .int 0, .ref a] w = _
  rw [ev_g_V (z2 := ev_zm) (j2 := ev_jm) (a := a) (rest := []) t12 ev_zml_mel c12 (by decide +kernel) ev_zm_me rfl rfl ha hk rfl]
  have hc2 : ev_call (G + 18) ev_jm [.ref a, .int 0, .int 1, .int 1] w = some (.inl (some (.int 0)), w_sI w a 0 1) := (ev_g_c ev_zm_me rfl).trans (ev_m_ev (G + 5) a 1 1 w ha hk)
  show ev_aft (ev (G + 18)) ev_jml ev_zml 12 [some (.ref a), some (.int n), none] (some .boolean) [] (ev_call (G + 18) ev_jm [.ref a, .int 0, .int 1, .int 1] w) = _
  rw [hc2, ev_g_A rfl]
  show ev (G + 18) ev_jml 15 [some (.ref a), some (.int n), none] [.int 0] (w_sI w a 0 1) = _
  rw [ev_g_b t15 ev_zml_mel c15 (q := 20) rfl, show ev_t1 .ne (0 : Int32) = false from by decide, cond_false]
  show ev (G + 17) ev_jml 18 [some (.ref a), some (.int n), none] [] (w_sI w a 0 1) = _
  rw [ev_go t18 ev_zml_mel c18 rfl]
  show ev (G + 16) ev_jml 19 [some (.ref a), some (.int n), none] [.int 0] (w_sI w a 0 1) = _
  rw [ev_go t19 ev_zml_mel c19 rfl]
  rfl
theorem ev_mt_ev (G a : Nat) (n : Int32) (w : ev_W) (ha : a < w_n w) (hk : w_K w a = 8) (hI : w_I w a 19 = 0) : ev (G + 29) ev_jmt 0 (ev_in 2 [.ref a, .int n]) [] w = some (.inl (some (.int 0)), w_sI w a 0 1) := by
  have hcd : ev_cd ev_jmt 0 = some (.aload_n 0, 1) ∧ ev_cd ev_jmt 1 = some (.iload_n 1, 1) ∧ ev_cd ev_jmt 2 = some (.iconst 0, 1) ∧ ev_cd ev_jmt 3 = some (.aload_n 0, 1) ∧ ev_cd ev_jmt 4 = some (.getfield 425, 3) ∧ ev_cd ev_jmt 7 = some (.iconst 1, 1) ∧ ev_cd ev_jmt 8 = some (.isub, 1) ∧ ev_cd ev_jmt 9 = some (.invokestatic 68, 3) ∧ ev_cd ev_jmt 12 = some (.iconst 1, 1) ∧ ev_cd ev_jmt 13 = some (.iconst 1, 1) ∧ ev_cd ev_jmt 14 = some (.invokevirtual 43, 3) ∧ ev_cd ev_jmt 17 = some (.ifCond .eq 12, 3) ∧ ev_cd ev_jmt 29 = some (.iconst 0, 1) ∧ ev_cd ev_jmt 30 = some (.ireturn, 1) := by decide +kernel
  obtain ⟨c0, c1, c2, c3, c4, c7, c8, c9, c12, c13, c14, c17, c29, c30⟩ := hcd
  have ht : ev_look2 ev_jmt 0 ev_thr = none ∧ ev_look2 ev_jmt 1 ev_thr = none ∧ ev_look2 ev_jmt 2 ev_thr = none ∧ ev_look2 ev_jmt 3 ev_thr = none ∧ ev_look2 ev_jmt 4 ev_thr = none ∧ ev_look2 ev_jmt 7 ev_thr = none ∧ ev_look2 ev_jmt 8 ev_thr = none ∧ ev_look2 ev_jmt 9 ev_thr = none ∧ ev_look2 ev_jmt 12 ev_thr = none ∧ ev_look2 ev_jmt 13 ev_thr = none ∧ ev_look2 ev_jmt 14 ev_thr = none ∧ ev_look2 ev_jmt 17 ev_thr = none ∧ ev_look2 ev_jmt 29 ev_thr = none ∧ ev_look2 ev_jmt 30 ev_thr = none := by decide +kernel
  obtain ⟨t0, t1, t2, t3, t4, t7, t8, t9, t12, t13, t14, t17, t29, t30⟩ := ht
  have hls : ev_in 2 [.ref a, .int n] = [some (.ref a), some (.int n)] := rfl
  have hn : ev_in3 n 0 (0 - 1) = 0 := by
    unfold ev_in3
    by_cases h : (0 : Int32) ≤ n
    · rw [if_pos h, if_neg (fun h9 => absurd (Int32.le_trans h h9) (by decide))]
    · rw [if_neg h]
  rw [hls]
  rw [ev_go t0 ev_zmt_mel c0 rfl]
  show ev (G + 28) ev_jmt 1 [some (.ref a), some (.int n)] [.ref a] w = _
  rw [ev_go t1 ev_zmt_mel c1 rfl]
  show ev (G + 27) ev_jmt 2 [some (.ref a), some (.int n)] [.int n, .ref a] w = _
  rw [ev_go t2 ev_zmt_mel c2 rfl]
  show ev (G + 26) ev_jmt 3 [some (.ref a), some (.int n)] [.int 0, .int n, .ref a] w = _
  rw [ev_go t3 ev_zmt_mel c3 rfl]
  show ev (G + 25) ev_jmt 4 [some (.ref a), some (.int n)] [.ref a, .int 0, .int n, .ref a] w = _
  rw [ev_g_I (q := (8, 19)) t4 ev_zmt_mel c4 (by decide +kernel) rfl ha hk]
  show ev (G + 24) ev_jmt 7 [some (.ref a), some (.int n)] [.int (w_I w a 19), .int 0, .int n, .ref a] w = _
  rw [hI]
  rw [ev_go t7 ev_zmt_mel c7 rfl]
  show ev (G + 23) ev_jmt 8 [some (.ref a), some (.int n)] [.int 1, .int 0, .int 0, .int n, .ref a] w = _
  rw [ev_go t8 ev_zmt_mel c8 rfl]
  show ev (G + 22) ev_jmt 9 [some (.ref a), some (.int n)] [.int (0 - 1), .int 0, .int n, .ref a] w = _
  rw [ev_g_S (z2 := ev_zin) (j2 := ev_jin) t9 ev_zmt_mel c9 (by decide +kernel) ev_zin_me rfl rfl]
  have hc : ev_call (G + 21) ev_jin [.int n, .int 0, .int (0 - 1)] w = some (.inl (some (.int (ev_in3 n 0 (0 - 1)))), w) := (ev_g_c ev_zin_me rfl).trans (ev_in_ev (G + 12) n 0 (0 - 1) w)
  show ev_aft (ev (G + 21)) ev_jmt ev_zmt 9 [some (.ref a), some (.int n)] (some .boolean) [.ref a] (ev_call (G + 21) ev_jin [.int n, .int 0, .int (0 - 1)] w) = _
  rw [hc, hn, ev_g_A rfl]
  show ev (G + 21) ev_jmt 12 [some (.ref a), some (.int n)] [.int 0, .ref a] w = _
  rw [ev_go t12 ev_zmt_mel c12 rfl]
  show ev (G + 20) ev_jmt 13 [some (.ref a), some (.int n)] [.int 1, .int 0, .ref a] w = _
  rw [ev_go t13 ev_zmt_mel c13 rfl]
  show ev (G + 19) ev_jmt 14 [some (.ref a), some (.int n)] [.int 1, .int 1, .int 0, .ref a] w = _
  rw [ev_g_V (z2 := ev_zm) (j2 := ev_jm) (a := a) (rest := []) t14 ev_zmt_mel c14 (by decide +kernel) ev_zm_me rfl rfl ha hk rfl]
  have hc2 : ev_call (G + 18) ev_jm [.ref a, .int 0, .int 1, .int 1] w = some (.inl (some (.int 0)), w_sI w a 0 1) := (ev_g_c ev_zm_me rfl).trans (ev_m_ev (G + 5) a 1 1 w ha hk)
  show ev_aft (ev (G + 18)) ev_jmt ev_zmt 14 [some (.ref a), some (.int n)] (some .boolean) [] (ev_call (G + 18) ev_jm [.ref a, .int 0, .int 1, .int 1] w) = _
  rw [hc2, ev_g_A rfl]
  show ev (G + 18) ev_jmt 17 [some (.ref a), some (.int n)] [.int 0] (w_sI w a 0 1) = _
  rw [ev_g_b t17 ev_zmt_mel c17 (q := 29) rfl, show ev_t1 .eq (0 : Int32) = true from by decide, cond_true]
  show ev (G + 17) ev_jmt 29 [some (.ref a), some (.int n)] [] (w_sI w a 0 1) = _
  rw [ev_go t29 ev_zmt_mel c29 rfl]
  show ev (G + 16) ev_jmt 30 [some (.ref a), some (.int n)] [.int 0] (w_sI w a 0 1) = _
  rw [ev_go t30 ev_zmt_mel c30 rfl]
  rfl
theorem ev_m2_ev (G a : Nat) (w : ev_W) (ha : a < w_n w) (hk : w_K w a = 8) : ev (G + 19) ev_jm2 0 (ev_in 3 [.ref a, .int 0, .int 0]) [] w = some (.inl (some (.int 0)), w_sI w a 0 1) := by
  have hcd : ev_cd ev_jm2 0 = some (.aload_n 0, 1) ∧ ev_cd ev_jm2 1 = some (.iload_n 1, 1) ∧ ev_cd ev_jm2 2 = some (.iload_n 2, 1) ∧ ev_cd ev_jm2 3 = some (.iconst 1, 1) ∧ ev_cd ev_jm2 4 = some (.invokevirtual 43, 3) ∧ ev_cd ev_jm2 7 = some (.ireturn, 1) := by decide +kernel
  obtain ⟨c0, c1, c2, c3, c4, c7⟩ := hcd
  have ht : ev_look2 ev_jm2 0 ev_thr = none ∧ ev_look2 ev_jm2 1 ev_thr = none ∧ ev_look2 ev_jm2 2 ev_thr = none ∧ ev_look2 ev_jm2 3 ev_thr = none ∧ ev_look2 ev_jm2 4 ev_thr = none ∧ ev_look2 ev_jm2 7 ev_thr = none := by decide +kernel
  obtain ⟨t0, t1, t2, t3, t4, t7⟩ := ht
  have hls : ev_in 3 [.ref a, .int 0, .int 0] = [some (.ref a), some (.int 0), some (.int 0)] := rfl
  rw [hls]
  rw [ev_go t0 ev_zm2_mel c0 rfl]
  show ev (G + 18) ev_jm2 1 [some (.ref a), some (.int 0), some (.int 0)] [.ref a] w = _
  rw [ev_go t1 ev_zm2_mel c1 rfl]
  show ev (G + 17) ev_jm2 2 [some (.ref a), some (.int 0), some (.int 0)] [.int 0, .ref a] w = _
  rw [ev_go t2 ev_zm2_mel c2 rfl]
  show ev (G + 16) ev_jm2 3 [some (.ref a), some (.int 0), some (.int 0)] [.int 0, .int 0, .ref a] w = _
  rw [ev_go t3 ev_zm2_mel c3 rfl]
  show ev (G + 15) ev_jm2 4 [some (.ref a), some (.int 0), some (.int 0)] [.int 1, .int 0, .int 0, .ref a] w = _
  rw [ev_g_V (z2 := ev_zm) (j2 := ev_jm) (a := a) (rest := []) t4 ev_zm2_mel c4 (by decide +kernel) ev_zm_me rfl rfl ha hk rfl]
  have hc2 : ev_call (G + 14) ev_jm [.ref a, .int 0, .int 0, .int 1] w = some (.inl (some (.int 0)), w_sI w a 0 1) := (ev_g_c ev_zm_me rfl).trans (ev_m_ev (G + 1) a 0 1 w ha hk)
  show ev_aft (ev (G + 14)) ev_jm2 ev_zm2 4 [some (.ref a), some (.int 0), some (.int 0)] (some .boolean) [] (ev_call (G + 14) ev_jm [.ref a, .int 0, .int 0, .int 1] w) = _
  rw [hc2, ev_g_A rfl]
  show ev (G + 14) ev_jm2 7 [some (.ref a), some (.int 0), some (.int 0)] [.int 0] (w_sI w a 0 1) = _
  rw [ev_go t7 ev_zm2_mel c7 rfl]
  rfl
theorem ev_mr_ev (G a : Nat) (n : Int32) (w : ev_W) (ha : a < w_n w) (hk : w_K w a = 8) (hn : ev_in3 n 0 1 = 0) : ev (G + 32) ev_jmr 0 (ev_in 3 [.ref a, .int n]) [] w = some (.inl (some (.int 0)), w_sI w a 0 1) := by
  have hcd : ev_cd ev_jmr 0 = some (.iload_n 1, 1) ∧ ev_cd ev_jmr 1 = some (.invokestatic 449, 3) ∧ ev_cd ev_jmr 4 = some (.istore_n 2, 1) ∧ ev_cd ev_jmr 5 = some (.aload_n 0, 1) ∧ ev_cd ev_jmr 6 = some (.iload_n 2, 1) ∧ ev_cd ev_jmr 7 = some (.iload_n 2, 1) ∧ ev_cd ev_jmr 8 = some (.ifCond .eq 16, 3) ∧ ev_cd ev_jmr 24 = some (.iconst 0, 1) ∧ ev_cd ev_jmr 25 = some (.invokevirtual 314, 3) ∧ ev_cd ev_jmr 28 = some (.ifCond .ne 5, 3) ∧ ev_cd ev_jmr 31 = some (.iconst 0, 1) ∧ ev_cd ev_jmr 32 = some (.ireturn, 1) := by decide +kernel
  obtain ⟨c0, c1, c4, c5, c6, c7, c8, c24, c25, c28, c31, c32⟩ := hcd
  have ht : ev_look2 ev_jmr 0 ev_thr = none ∧ ev_look2 ev_jmr 1 ev_thr = none ∧ ev_look2 ev_jmr 4 ev_thr = none ∧ ev_look2 ev_jmr 5 ev_thr = none ∧ ev_look2 ev_jmr 6 ev_thr = none ∧ ev_look2 ev_jmr 7 ev_thr = none ∧ ev_look2 ev_jmr 8 ev_thr = none ∧ ev_look2 ev_jmr 24 ev_thr = none ∧ ev_look2 ev_jmr 25 ev_thr = none ∧ ev_look2 ev_jmr 28 ev_thr = none ∧ ev_look2 ev_jmr 31 ev_thr = none ∧ ev_look2 ev_jmr 32 ev_thr = none := by decide +kernel
  obtain ⟨t0, t1, t4, t5, t6, t7, t8, t24, t25, t28, t31, t32⟩ := ht
  have hls : ev_in 3 [.ref a, .int n] = [some (.ref a), some (.int n), none] := rfl
  rw [hls]
  rw [ev_go t0 ev_zmr_mel c0 rfl]
  show ev (G + 31) ev_jmr 1 [some (.ref a), some (.int n), none] [.int n] w = _
  rw [ev_g_S (z2 := ev_zs) (j2 := ev_js) t1 ev_zmr_mel c1 (by decide +kernel) ev_zs_me rfl rfl]
  have hc : ev_call (G + 30) ev_js [.int n] w = some (.inl (some (.int (ev_in3 n 0 1))), w) := (ev_g_c ev_zs_me rfl).trans (ev_s_ev (G + 16) n w)
  show ev_aft (ev (G + 30)) ev_jmr ev_zmr 1 [some (.ref a), some (.int n), none] (some .boolean) [] (ev_call (G + 30) ev_js [.int n] w) = _
  rw [hc, hn, ev_g_A rfl]
  show ev (G + 30) ev_jmr 4 [some (.ref a), some (.int n), none] [.int 0] w = _
  rw [ev_g_sto (k := 2) t4 ev_zmr_mel c4 rfl]
  show ev (G + 29) ev_jmr 5 [some (.ref a), some (.int n), some (.int 0)] [] w = _
  rw [ev_go t5 ev_zmr_mel c5 rfl]
  show ev (G + 28) ev_jmr 6 [some (.ref a), some (.int n), some (.int 0)] [.ref a] w = _
  rw [ev_go t6 ev_zmr_mel c6 rfl]
  show ev (G + 27) ev_jmr 7 [some (.ref a), some (.int n), some (.int 0)] [.int 0, .ref a] w = _
  rw [ev_go t7 ev_zmr_mel c7 rfl]
  show ev (G + 26) ev_jmr 8 [some (.ref a), some (.int n), some (.int 0)] [.int 0, .int 0, .ref a] w = _
  rw [ev_g_b t8 ev_zmr_mel c8 (q := 24) rfl, show ev_t1 .eq (0 : Int32) = true from by decide, cond_true]
  show ev (G + 25) ev_jmr 24 [some (.ref a), some (.int n), some (.int 0)] [.int 0, .ref a] w = _
  rw [ev_go t24 ev_zmr_mel c24 rfl]
  show ev (G + 24) ev_jmr 25 [some (.ref a), some (.int n), some (.int 0)] [.int 0, .int 0, .ref a] w = _
  rw [ev_g_V (z2 := ev_zm2) (j2 := ev_jm2) (a := a) (rest := []) t25 ev_zmr_mel c25 (by decide +kernel) ev_zm2_me rfl rfl ha hk rfl]
  have hc2 : ev_call (G + 23) ev_jm2 [.ref a, .int 0, .int 0] w = some (.inl (some (.int 0)), w_sI w a 0 1) := (ev_g_c ev_zm2_me rfl).trans (ev_m2_ev (G + 4) a w ha hk)
  show ev_aft (ev (G + 23)) ev_jmr ev_zmr 25 [some (.ref a), some (.int n), some (.int 0)] (some .boolean) [] (ev_call (G + 23) ev_jm2 [.ref a, .int 0, .int 0] w) = _
  rw [hc2, ev_g_A rfl]
  show ev (G + 23) ev_jmr 28 [some (.ref a), some (.int n), some (.int 0)] [.int 0] (w_sI w a 0 1) = _
  rw [ev_g_b t28 ev_zmr_mel c28 (q := 33) rfl, show ev_t1 .ne (0 : Int32) = false from by decide, cond_false]
  show ev (G + 22) ev_jmr 31 [some (.ref a), some (.int n), some (.int 0)] [] (w_sI w a 0 1) = _
  rw [ev_go t31 ev_zmr_mel c31 rfl]
  show ev (G + 21) ev_jmr 32 [some (.ref a), some (.int n), some (.int 0)] [.int 0] (w_sI w a 0 1) = _
  rw [ev_go t32 ev_zmr_mel c32 rfl]
  rfl
