/-! the cases of a step of the law's loop: by wip/gen/p64/j98zc.py -/
theorem jl_i {a : Nat} (h : a < 100000) : (jn a).toInt64 = Int64.ofNat a := Int32.toInt64_ofNat (by omega)
theorem jl_add {a b : Nat} (h : a + b < 100000) : (jn (a + b)).toInt64 = (jn a).toInt64 + (jn b).toInt64 := by
  rw [jl_i h, jl_i (by omega), jl_i (by omega)]
  exact Int64.ofNat_add a b
theorem jmx_sub {a b : Nat} (ha : a < 100000) (hb : b < 100000) : z_mx (jn 0) (jn a - jn b) = jn (a - b) := by
  unfold z_mx
  rcases Nat.lt_or_ge b a with h | h
  · rw [if_pos (show jn 0 < jn a - jn b from jsub_gt h ha), jn_sub (by omega)]
  · rw [if_neg (show ¬ jn 0 < jn a - jn b from jsub_le h hb), show a - b = 0 by omega]
theorem ypd_b {L : LL} (g : qG L) {n : Nat} (hn : n < qN L) {y : Nat} (h0 : qs L 0 = jn y) (hy : y < 1000) : ∃ p q, ypd L n = jn p ∧ qn L n 1 * yof L n = jn q ∧ p ≤ q ∧ q ≤ 1188 := by
  obtain ⟨⟨a0, ha0, e0⟩, ⟨a1, ha1, e1⟩, ⟨a2, ha2, e2⟩, -⟩ := g.2.2.2.2.2.2.1 n hn
  have hc : yof L n = jn (qcn (fun f => qf L f 0 = jn n) (qF L)) := qct_n
  have hc2 := qcn_le (P := fun f => qf L f 0 = jn n) (n := qF L)
  have F := g.1
  generalize qcn (fun f => qf L f 0 = jn n) (qF L) = c at hc hc2
  have h1 : a2 * (y - a0) ≤ 9 * 1000 := Nat.mul_le_mul (by omega) (by omega)
  refine ⟨(a1 - a2 * (y - a0)) * c, a1 * c, ?_, ?_, Nat.mul_le_mul_right c (Nat.sub_le _ _), ?_⟩
  · unfold ypd ypay ylate
    rw [h0, e0, e1, e2, hc, jmx_sub (by omega) (by omega), jn_mul, jmx_sub (by omega) (by omega), jn_mul]
  · rw [e1, hc, jn_mul]
  · have h2 : a1 * c ≤ 99 * 12 := Nat.mul_le_mul (by omega) (by omega)
    omega
theorem sv_c {L : LL} {k : Nat} (h : k < 16) : svL L k = (ycount L k).toInt64 := if_pos h
theorem hal_d {L : LL} : ∀ m, (Lhal L m).2.1 = L.1 ∧ (∀ k, qs (Lhal L m).2 k = qs L k)
  | 0 => ⟨rfl, fun _ => rfl⟩
  | m + 1 => by
    have ih := hal_d (L := L) m
    rw [show Lhal L (m + 1) = Lhst m (Lhal L m) from rfl]
    unfold Lhst
    by_cases hc : ¬ qf (Lhal L m).2 m 4 = jn 0 ∧ qf (Lhal L m).2 m 8 = jn 0 ∧ ¬ yfree (Lhal L m).2 = jg 1
    · rw [if_pos hc]; exact ih
    · rw [if_neg hc]; exact ih
theorem lst_d {L : LL} : (Llst L).1 = L.1 := by
  unfold Llst
  cases ylst L <;> rfl
theorem pas_d {L : LL} : (Lpas L).1 = L.1 := by
  show (Lfall (Ldry L)).1 = _
  unfold Lfall
  by_cases q : qs (Ldry L) 1 < jn 7
  · rw [if_pos q]; exact Ldj_F (qF L)
  · rw [if_neg q]; exact lst_d.trans (Ldj_F (qF L))
theorem pas_sk {L : LL} {k : Nat} (h0 : ¬ k = 0) (h5 : ¬ k = 5) : qs (Lpas L) k = qs L k := by
  show qs (ls (Lfall (Ldry L)) 0 _) k = _
  rw [ls_ne h0]
  unfold Lfall
  by_cases q : qs (Ldry L) 1 < jn 7
  · rw [if_pos q]; exact dry_s k
  · rw [if_neg q, lst_s h5]; exact dry_s k
theorem pas_s0 {L : LL} : qs (Lpas L) 0 = qs L 0 + jn 1 := by
  show qs (ls (Lfall (Ldry L)) 0 _) 0 = _
  rw [ls_at]
  refine congrArg (fun q => q + jn 1) ?_
  unfold Lfall
  by_cases q : qs (Ldry L) 1 < jn 7
  · rw [if_pos q]; exact dry_s 0
  · rw [if_neg q, lst_s (by omega)]; exact dry_s 0
theorem pss_s0 {L : LL} {y : Nat} (h : qs L 0 = jn y) : ∀ n, qs (Lpss L n) 0 = jn (y + n)
  | 0 => h
  | n + 1 => by
    show qs (Lpas (Lpss L n)) 0 = _
    rw [pas_s0, pss_s0 h n, jn_add]
    rfl
theorem pss_d {L : LL} : ∀ n, (Lpss L n).1 = L.1 ∧ ∀ k, ¬ k = 0 → ¬ k = 5 → qs (Lpss L n) k = qs L k
  | 0 => ⟨rfl, fun _ _ _ => rfl⟩
  | n + 1 => ⟨pas_d.trans (pss_d n).1, fun k h0 h5 => (pas_sk h0 h5).trans ((pss_d n).2 k h0 h5)⟩
theorem jw_3 : ∀ r : Fin 5, 1 ≤ r.val → (jn r.val * jn 3) - jn 3 = jn (3 * r.val - 3) := by decide +kernel
theorem put_h0 {L : LL} {f t : Nat} (y : yput L f t = jn 0) : qf L f 8 = jn 0 := by
  unfold yput at y
  by_cases q : qf L f 8 = jn 0
  · exact q
  · rw [if_neg q] at y; exact absurd y (by decide)
theorem ble_h0 {L : LL} {f : Nat} (y : yble L f = jn 0) : qf L f 8 = jn 0 ∧ ¬ qf L f 6 = jn 0 := by
  unfold yble at y
  by_cases q : qf L f 8 = jn 0
  · rw [if_pos q] at y
    refine ⟨q, fun z => ?_⟩
    rw [if_pos z] at y; exact absurd y (by decide)
  · rw [if_neg q] at y; exact absurd y (by decide)
section CASE
variable {G : z_G} {P : Option Value → ev_W → Prop} {w : ev_W} {n d s a b : Nat} {L : LL} {U : List LL} {V : Nat → Option LL} {f t x m r z : Nat} {u : Int32} {x7 x8 x9 x16 x17 x18 : Option Value}
/-- flags fallen; earned and fined -/
def Exz (z : Nat) (L : LL) : Prop := (∃ y, qs L 0 = jn y ∧ y ≤ z) ∧ (∃ y, qs L 5 = jn y ∧ y ≤ z) ∧ ∃ e i, qs L 2 = jn e ∧ qs L 3 = jn i ∧ e + i ≤ 300 * z
theorem Exz.of {z : Nat} {L M : LL} (h : Exz z L) (h0 : qs M 0 = qs L 0) (h5 : qs M 5 = qs L 5) (h2 : qs M 2 = qs L 2) (h3 : qs M 3 = qs L 3) : Exz (z + 4) M := by
  obtain ⟨⟨y0, k1, hy0⟩, ⟨y, h1, hy⟩, e, i, he, hi, hs⟩ := h
  exact ⟨⟨y0, h0.trans k1, by omega⟩, ⟨y, h5.trans h1, by omega⟩, e, i, h2.trans he, h3.trans hi, by omega⟩
def LFin (z : Nat) (G : z_G) (P : Option Value → ev_W → Prop) (w : ev_W) (n : Nat) (L : LL) (V : Nat → Option LL) (ls : Option Value → Option Value → Option Value → ev_L) : Prop := ∀ (J : z_H) (L2 : LL) (U2 : List LL) (x16 x17 x18 : Option Value), cIv n L2 U2 V J → PmL L2 → L2.1 = L.1 → Exz (z + 4) L2 → z_Q G 216 894 (ls x16 x17 x18) [] (z_w w J) P
theorem LFin.no {ls : Option Value → Option Value → Option Value → ev_L} (fin : LFin z G P w n L V ls) (h : cIv n L U V (w_I w)) (hp : PmL L) (hE : Exz z L) {y16 y17 y18 : Option Value} : z_Q G 216 894 (ls y16 y17 y18) [] w P := by
  have e := fin (w_I w) L U y16 y17 y18 h hp rfl (hE.of rfl rfl rfl rfl)
  rw [z_w_w] at e
  exact e
theorem lc_put (ok : z_Ok G w) (hn : z_fc w n) (h : cIv n L U V (w_I w)) (hp : PmL L) (hE : Exz z L) (hf : f < qF L) (ht : t < qT L) (fin : LFin z G P w n L V (fun y16 y17 y18 => [some (.ref ev_S), some (.ref 0), some (.ref 241), some (.ref d), some (.ref s), some (.ref a), some (.ref b), x7, x8, x9, some (.int (jn f)), some (.int (jn t)), some (.int (jn x)), some (.int (jn m)), some (.int (jn r)), some (.int u), y16, y17, y18])) : z_Q G 216 203 [some (.ref ev_S), some (.ref 0), some (.ref 241), some (.ref d), some (.ref s), some (.ref a), some (.ref b), x7, x8, x9, some (.int (jn f)), some (.int (jn t)), some (.int (jn x)), some (.int (jn m)), some (.int (jn r)), some (.int u), x16, x17, x18] [] w P := by
  have g := h.2.2.1
  have k1 := kc_tub1 ok hn h ht
  have k2 := kc_whyNotPut ok hn h hf ht
  by_cases y : yput L f t = jn 0
  · obtain ⟨J, c1, k3⟩ := kd_put ok hn h hf ht y
    have k4 := kc_inTub (w := z_w w J) ok hn c1 (f := t) ht (x := jn (qt L t).length)
    rw [put_in g ht] at k4
    have k5 := kc_why (w := z_w w J) ok hn c1 (k := f) hf
    rw [put_why] at k5
    have q1 : jn ((qt L t).length + 1) = jn (qt L t).length + jn 1 := (jn_add _ _).symm
    have hB : z_all [z_is 216 203 (zf_aload 203 1 204), z_is 216 204 (zf_iload 204 11 206), z_is 216 206 (zf_cst 206 (jn 1) 207), z_is 216 207 (zf_cv 207 110 2 7 210), z_is 216 210 (zf_istore 210 16 212), z_is 216 212 (zf_aload 212 1 213), z_is 216 213 (zf_iload 213 10 215), z_is 216 215 (zf_iload 215 11 217), z_is 216 217 (zf_cv 217 116 2 7 220), z_is 216 220 (zf_if1 .ne 220 263 223), z_is 216 223 (zf_aload 223 1 224), z_is 216 224 (zf_iload 224 10 226), z_is 216 226 (zf_iload 226 11 228), z_is 216 228 (zf_cv 228 128 2 7 231), z_is 216 231 (zf_iload 231 16 233), z_is 216 233 (zf_cst 233 (jn 1) 234), z_is 216 234 (zf_iadd 234 235), z_is 216 235 (zf_if2 .ne 235 261 238), z_is 216 238 (zf_aload 238 1 239), z_is 216 239 (zf_iload 239 11 241), z_is 216 241 (zf_iload 241 16 243), z_is 216 243 (zf_cv 243 111 2 7 246), z_is 216 246 (zf_iload 246 10 248), z_is 216 248 (zf_if2 .ne 248 261 251), z_is 216 251 (zf_aload 251 1 252), z_is 216 252 (zf_iload 252 10 254), z_is 216 254 (zf_cv 254 114 1 7 257), z_is 216 257 (zf_cst 257 (jn 2) 258), z_is 216 258 (zf_if2 .eq 258 263 261), z_is 216 263 (zf_goto 263 894)] = true := by decide +kernel
    refine q_s hB (fun _ _ k => z_aload hB rfl k) (fun hB => ?_)
    refine q_s hB (fun _ _ k => z_iload hB rfl k) (fun hB => ?_)
    refine q_s hB (fun _ _ k => z_cst hB k) (fun hB => ?_)
    refine q_s hB (fun _ _ k => z_callV hB (rest := []) rfl rfl rfl (z_ok0 ok).1 (z_ok0 ok).2 k1 k) (fun hB => ?_)
    refine q_s hB (fun _ _ k => z_istore hB rfl rfl k) (fun hB => ?_)
    refine q_s hB (fun _ _ k => z_aload hB rfl k) (fun hB => ?_)
    refine q_s hB (fun _ _ k => z_iload hB rfl k) (fun hB => ?_)
    refine q_s hB (fun _ _ k => z_iload hB rfl k) (fun hB => ?_)
    refine q_s hB (fun _ _ k => z_callV hB (rest := []) rfl rfl rfl (z_ok0 ok).1 (z_ok0 ok).2 k2 k) (fun hB => ?_)
    refine q_s hB (fun _ _ k => z_if_ne hB (fun h _ => absurd (y) h) (fun _ => k)) (fun hB => ?_)
    refine q_s hB (fun _ _ k => z_aload hB rfl k) (fun hB => ?_)
    refine q_s hB (fun _ _ k => z_iload hB rfl k) (fun hB => ?_)
    refine q_s hB (fun _ _ k => z_iload hB rfl k) (fun hB => ?_)
    refine q_s hB (fun _ _ k => z_callV hB (rest := []) rfl rfl rfl (z_ok0 ok).1 (z_ok0 ok).2 k3 k) (fun hB => ?_)
    refine q_s hB (fun _ _ k => z_iload hB rfl k) (fun hB => ?_)
    refine q_s hB (fun _ _ k => z_cst hB k) (fun hB => ?_)
    refine q_s hB (fun _ _ k => z_iadd hB k) (fun hB => ?_)
    refine q_s hB (fun _ _ k => z_ic_ne hB (fun h _ => absurd (q1) h) (fun _ => k)) (fun hB => ?_)
    refine q_s hB (fun _ _ k => z_aload hB rfl k) (fun hB => ?_)
    refine q_s hB (fun _ _ k => z_iload hB rfl k) (fun hB => ?_)
    refine q_s hB (fun _ _ k => z_iload hB rfl k) (fun hB => ?_)
    refine q_s hB (fun _ _ k => z_callV hB (rest := []) rfl rfl rfl (z_ok0 ok).1 (z_ok0 ok).2 k4 k) (fun hB => ?_)
    refine q_s hB (fun _ _ k => z_iload hB rfl k) (fun hB => ?_)
    refine q_s hB (fun _ _ k => z_ic_ne hB (fun h _ => absurd (rfl) h) (fun _ => k)) (fun hB => ?_)
    refine q_s hB (fun _ _ k => z_aload hB rfl k) (fun hB => ?_)
    refine q_s hB (fun _ _ k => z_iload hB rfl k) (fun hB => ?_)
    refine q_s hB (fun _ _ k => z_callV hB (rest := []) rfl rfl rfl (z_ok0 ok).1 (z_ok0 ok).2 k5 k) (fun hB => ?_)
    refine q_s hB (fun _ _ k => z_cst hB k) (fun hB => ?_)
    refine q_s hB (fun _ _ k => z_ic_eq hB (fun _ => k) (fun h _ => absurd (rfl) h)) (fun hB => ?_)
    refine q_s hB (fun _ _ k => z_goto hB k) (fun hB => ?_)
    exact fin J _ _ _ _ _ c1 (Pm_put hp (put_h0 y)) rfl (hE.of rfl rfl rfl rfl)
  · have hB : z_all [z_is 216 203 (zf_aload 203 1 204), z_is 216 204 (zf_iload 204 11 206), z_is 216 206 (zf_cst 206 (jn 1) 207), z_is 216 207 (zf_cv 207 110 2 7 210), z_is 216 210 (zf_istore 210 16 212), z_is 216 212 (zf_aload 212 1 213), z_is 216 213 (zf_iload 213 10 215), z_is 216 215 (zf_iload 215 11 217), z_is 216 217 (zf_cv 217 116 2 7 220), z_is 216 220 (zf_if1 .ne 220 263 223), z_is 216 263 (zf_goto 263 894)] = true := by decide +kernel
    refine q_s hB (fun _ _ k => z_aload hB rfl k) (fun hB => ?_)
    refine q_s hB (fun _ _ k => z_iload hB rfl k) (fun hB => ?_)
    refine q_s hB (fun _ _ k => z_cst hB k) (fun hB => ?_)
    refine q_s hB (fun _ _ k => z_callV hB (rest := []) rfl rfl rfl (z_ok0 ok).1 (z_ok0 ok).2 k1 k) (fun hB => ?_)
    refine q_s hB (fun _ _ k => z_istore hB rfl rfl k) (fun hB => ?_)
    refine q_s hB (fun _ _ k => z_aload hB rfl k) (fun hB => ?_)
    refine q_s hB (fun _ _ k => z_iload hB rfl k) (fun hB => ?_)
    refine q_s hB (fun _ _ k => z_iload hB rfl k) (fun hB => ?_)
    refine q_s hB (fun _ _ k => z_callV hB (rest := []) rfl rfl rfl (z_ok0 ok).1 (z_ok0 ok).2 k2 k) (fun hB => ?_)
    refine q_s hB (fun _ _ k => z_if_ne hB (fun _ => k) (fun h _ => absurd h (y))) (fun hB => ?_)
    refine q_s hB (fun _ _ k => z_goto hB k) (fun hB => ?_)
    exact fin.no h hp hE
theorem lc_wash (ok : z_Ok G w) (hn : z_fc w n) (h : cIv n L U V (w_I w)) (hp : PmL L) (hE : Exz z L) (ha : a < w_n w ∧ w_K w a = 14 ∧ w_L w a = 100) (hw : ∀ c, c < 100 → w_J w a c = svL L c) (ht : t < qT L) (fin : LFin z G P w n L V (fun y16 y17 y18 => [some (.ref ev_S), some (.ref 0), some (.ref 241), some (.ref d), some (.ref s), some (.ref a), some (.ref b), x7, x8, x9, some (.int (jn f)), some (.int (jn t)), some (.int (jn x)), some (.int (jn m)), some (.int (jn r)), some (.int u), y16, y17, y18])) : z_Q G 216 273 [some (.ref ev_S), some (.ref 0), some (.ref 241), some (.ref d), some (.ref s), some (.ref a), some (.ref b), x7, x8, x9, some (.int (jn f)), some (.int (jn t)), some (.int (jn x)), some (.int (jn m)), some (.int (jn r)), some (.int u), x16, x17, x18] [] w P := by
  have g := h.2.2.1
  have g1 := g.1
  have k1 := kc_bestHeat ok hn h ht
  have k2 := kc_tub1 ok hn h ht
  rcases bh_law g ht with e | ⟨c, hc, e, y⟩
  · rw [e] at k1
    have hB : z_all [z_is 216 273 (zf_aload 273 1 274), z_is 216 274 (zf_iload 274 11 276), z_is 216 276 (zf_cv 276 121 1 7 279), z_is 216 279 (zf_istore 279 16 281), z_is 216 281 (zf_iload 281 16 283), z_is 216 283 (zf_if1 .ge 283 290 286), z_is 216 286 (zf_cst 286 (jn 0) 287), z_is 216 287 (zf_goto 287 298), z_is 216 298 (zf_istore 298 17 300), z_is 216 300 (zf_aload 300 1 301), z_is 216 301 (zf_iload 301 11 303), z_is 216 303 (zf_cst 303 (jn 1) 304), z_is 216 304 (zf_cv 304 110 2 7 307), z_is 216 307 (zf_istore 307 18 309), z_is 216 309 (zf_iload 309 16 311), z_is 216 311 (zf_if1 .lt 311 370 314), z_is 216 370 (zf_goto 370 894)] = true := by decide +kernel
    refine q_s hB (fun _ _ k => z_aload hB rfl k) (fun hB => ?_)
    refine q_s hB (fun _ _ k => z_iload hB rfl k) (fun hB => ?_)
    refine q_s hB (fun _ _ k => z_callV hB (rest := []) rfl rfl rfl (z_ok0 ok).1 (z_ok0 ok).2 k1 k) (fun hB => ?_)
    refine q_s hB (fun _ _ k => z_istore hB rfl rfl k) (fun hB => ?_)
    refine q_s hB (fun _ _ k => z_iload hB rfl k) (fun hB => ?_)
    refine q_s hB (fun _ _ k => z_if_ge hB (fun h _ => absurd ((by decide)) h) (fun _ => k)) (fun hB => ?_)
    refine q_s hB (fun _ _ k => z_cst hB k) (fun hB => ?_)
    refine q_s hB (fun _ _ k => z_goto hB k) (fun hB => ?_)
    refine q_s hB (fun _ _ k => z_istore hB rfl rfl k) (fun hB => ?_)
    refine q_s hB (fun _ _ k => z_aload hB rfl k) (fun hB => ?_)
    refine q_s hB (fun _ _ k => z_iload hB rfl k) (fun hB => ?_)
    refine q_s hB (fun _ _ k => z_cst hB k) (fun hB => ?_)
    refine q_s hB (fun _ _ k => z_callV hB (rest := []) rfl rfl rfl (z_ok0 ok).1 (z_ok0 ok).2 k2 k) (fun hB => ?_)
    refine q_s hB (fun _ _ k => z_istore hB rfl rfl k) (fun hB => ?_)
    refine q_s hB (fun _ _ k => z_iload hB rfl k) (fun hB => ?_)
    refine q_s hB (fun _ _ k => z_if_lt hB (fun _ => k) (fun h _ => absurd ((by decide)) h)) (fun hB => ?_)
    refine q_s hB (fun _ _ k => z_goto hB k) (fun hB => ?_)
    exact fin.no h hp hE
  · rw [e] at k1
    have hh : hOk (jn c) := ⟨by rw [jn_lt (by omega) (by omega)]; omega, by rw [jn_lt (by omega) (by omega)]; omega⟩
    have k3 := kc_stainedIf ok hn h ht hh
    have k4 := kc_whyNotWash ok hn h ht hh
    rw [y] at k4
    obtain ⟨J, c1, k5⟩ := kd_wash ok hn h ht hh y
    have k6 := kc_tub1 (w := z_w w J) ok hn c1 (t := t) ht
    rw [wsh_t, List.length_nil] at k6
    have k7 := kc_count (w := z_w w J) ok hn c1 (k := 7) (by omega)
    have l1 := qt_len g ht
    have l2 := qcn_le (P := fun i => qf L i 8 = jn 0) (n := qF L)
    have q1 : lg_cmp (ycount (Lwsh L t (jn c)) 7).toInt64 (w_J w a 7 + (jn (qt L t).length).toInt64) = jn 0 := by
      have e1 : ycount (Lwsh L t (jn c)) 7 = jn (qcn (fun i => qf L i 8 = jn 0) (qF L) + (qt L t).length) := by
        show qct (fun i => qf (Lwsh L t (jn c)) i 8 = jn 0) (qF L) = _
        rw [qct_n, wsh_cnt g ht]
      have e2 : ycount L 7 = jn (qcn (fun i => qf L i 8 = jn 0) (qF L)) := qct_n
      rw [hw 7 (by omega), sv_c (by omega), e1, e2, jl_add (by omega)]
      exact lcmp_self _
    have hB : z_all [z_is 216 273 (zf_aload 273 1 274), z_is 216 274 (zf_iload 274 11 276), z_is 216 276 (zf_cv 276 121 1 7 279), z_is 216 279 (zf_istore 279 16 281), z_is 216 281 (zf_iload 281 16 283), z_is 216 283 (zf_if1 .ge 283 290 286), z_is 216 290 (zf_aload 290 1 291), z_is 216 291 (zf_iload 291 11 293), z_is 216 293 (zf_iload 293 16 295), z_is 216 295 (zf_cv 295 120 2 7 298), z_is 216 298 (zf_istore 298 17 300), z_is 216 300 (zf_aload 300 1 301), z_is 216 301 (zf_iload 301 11 303), z_is 216 303 (zf_cst 303 (jn 1) 304), z_is 216 304 (zf_cv 304 110 2 7 307), z_is 216 307 (zf_istore 307 18 309), z_is 216 309 (zf_iload 309 16 311), z_is 216 311 (zf_if1 .lt 311 370 314), z_is 216 314 (zf_aload 314 1 315), z_is 216 315 (zf_iload 315 11 317), z_is 216 317 (zf_iload 317 16 319), z_is 216 319 (zf_cv 319 117 2 7 322), z_is 216 322 (zf_if1 .ne 322 368 325), z_is 216 325 (zf_aload 325 1 326), z_is 216 326 (zf_iload 326 11 328), z_is 216 328 (zf_iload 328 16 330), z_is 216 330 (zf_cv 330 129 2 7 333), z_is 216 333 (zf_iload 333 17 335), z_is 216 335 (zf_if2 .ne 335 368 338), z_is 216 338 (zf_aload 338 1 339), z_is 216 339 (zf_iload 339 11 341), z_is 216 341 (zf_cst 341 (jn 1) 342), z_is 216 342 (zf_cv 342 110 2 7 345), z_is 216 345 (zf_if1 .ne 345 368 348), z_is 216 348 (zf_aload 348 1 349), z_is 216 349 (zf_cst 349 (jn 7) 351), z_is 216 351 (zf_cv 351 107 1 7 354), z_at 216 354 (zx_ilong 354 355), z_is 216 355 (zf_aload 355 5 357), z_is 216 357 (zf_cst 357 (jn 7) 359), z_at 216 359 (zx_lald 359 360), z_is 216 360 (zf_iload 360 18 362), z_at 216 362 (zx_ilong 362 363), z_at 216 363 (zx_ladd 363 364), z_at 216 364 (zx_lcmp 364 365), z_is 216 365 (zf_if1 .eq 365 370 368), z_is 216 370 (zf_goto 370 894)] = true := by decide +kernel
    refine q_s hB (fun _ _ k => z_aload hB rfl k) (fun hB => ?_)
    refine q_s hB (fun _ _ k => z_iload hB rfl k) (fun hB => ?_)
    refine q_s hB (fun _ _ k => z_callV hB (rest := []) rfl rfl rfl (z_ok0 ok).1 (z_ok0 ok).2 k1 k) (fun hB => ?_)
    refine q_s hB (fun _ _ k => z_istore hB rfl rfl k) (fun hB => ?_)
    refine q_s hB (fun _ _ k => z_iload hB rfl k) (fun hB => ?_)
    refine q_s hB (fun _ _ k => z_if_ge hB (fun _ => k) (fun h _ => absurd h ((by show ¬ jn c < jn 0; rw [jn_lt (by omega) (by omega)]; omega)))) (fun hB => ?_)
    refine q_s hB (fun _ _ k => z_aload hB rfl k) (fun hB => ?_)
    refine q_s hB (fun _ _ k => z_iload hB rfl k) (fun hB => ?_)
    refine q_s hB (fun _ _ k => z_iload hB rfl k) (fun hB => ?_)
    refine q_s hB (fun _ _ k => z_callV hB (rest := []) rfl rfl rfl (z_ok0 ok).1 (z_ok0 ok).2 k3 k) (fun hB => ?_)
    refine q_s hB (fun _ _ k => z_istore hB rfl rfl k) (fun hB => ?_)
    refine q_s hB (fun _ _ k => z_aload hB rfl k) (fun hB => ?_)
    refine q_s hB (fun _ _ k => z_iload hB rfl k) (fun hB => ?_)
    refine q_s hB (fun _ _ k => z_cst hB k) (fun hB => ?_)
    refine q_s hB (fun _ _ k => z_callV hB (rest := []) rfl rfl rfl (z_ok0 ok).1 (z_ok0 ok).2 k2 k) (fun hB => ?_)
    refine q_s hB (fun _ _ k => z_istore hB rfl rfl k) (fun hB => ?_)
    refine q_s hB (fun _ _ k => z_iload hB rfl k) (fun hB => ?_)
    refine q_s hB (fun _ _ k => z_if_lt hB (fun h _ => absurd h ((by show ¬ jn c < jn 0; rw [jn_lt (by omega) (by omega)]; omega))) (fun _ => k)) (fun hB => ?_)
    refine q_s hB (fun _ _ k => z_aload hB rfl k) (fun hB => ?_)
    refine q_s hB (fun _ _ k => z_iload hB rfl k) (fun hB => ?_)
    refine q_s hB (fun _ _ k => z_iload hB rfl k) (fun hB => ?_)
    refine q_s hB (fun _ _ k => z_callV hB (rest := []) rfl rfl rfl (z_ok0 ok).1 (z_ok0 ok).2 k4 k) (fun hB => ?_)
    refine q_s hB (fun _ _ k => z_if_ne hB (fun h _ => absurd (rfl) h) (fun _ => k)) (fun hB => ?_)
    refine q_s hB (fun _ _ k => z_aload hB rfl k) (fun hB => ?_)
    refine q_s hB (fun _ _ k => z_iload hB rfl k) (fun hB => ?_)
    refine q_s hB (fun _ _ k => z_iload hB rfl k) (fun hB => ?_)
    refine q_s hB (fun _ _ k => z_callV hB (rest := []) rfl rfl rfl (z_ok0 ok).1 (z_ok0 ok).2 k5 k) (fun hB => ?_)
    refine q_s hB (fun _ _ k => z_iload hB rfl k) (fun hB => ?_)
    refine q_s hB (fun _ _ k => z_ic_ne hB (fun h _ => absurd (rfl) h) (fun _ => k)) (fun hB => ?_)
    refine q_s hB (fun _ _ k => z_aload hB rfl k) (fun hB => ?_)
    refine q_s hB (fun _ _ k => z_iload hB rfl k) (fun hB => ?_)
    refine q_s hB (fun _ _ k => z_cst hB k) (fun hB => ?_)
    refine q_s hB (fun _ _ k => z_callV hB (rest := []) rfl rfl rfl (z_ok0 ok).1 (z_ok0 ok).2 k6 k) (fun hB => ?_)
    refine q_s hB (fun _ _ k => z_if_ne hB (fun h _ => absurd (rfl) h) (fun _ => k)) (fun hB => ?_)
    refine q_s hB (fun _ _ k => z_aload hB rfl k) (fun hB => ?_)
    refine q_s hB (fun _ _ k => z_cst hB k) (fun hB => ?_)
    refine q_s hB (fun _ _ k => z_callV hB (rest := []) rfl rfl rfl (z_ok0 ok).1 (z_ok0 ok).2 k7 k) (fun hB => ?_)
    refine q_s hB (fun _ _ k => x_ilong hB k) (fun hB => ?_)
    refine q_s hB (fun _ _ k => z_aload hB rfl k) (fun hB => ?_)
    refine q_s hB (fun _ _ k => z_cst hB k) (fun hB => ?_)
    refine q_s hB (fun _ _ k => x_lald hB ha.1 ha.2.1 (by show ev_ok _ (w_L w a) = true; rw [ha.2.2]; decide) k) (fun hB => ?_)
    refine q_s hB (fun _ _ k => z_iload hB rfl k) (fun hB => ?_)
    refine q_s hB (fun _ _ k => x_ilong hB k) (fun hB => ?_)
    refine q_s hB (fun _ _ k => x_ladd hB k) (fun hB => ?_)
    refine q_s hB (fun _ _ k => x_lcmp hB k) (fun hB => ?_)
    refine q_s hB (fun _ _ k => z_if_eq hB (fun _ => k) (fun h _ => absurd (q1) h)) (fun hB => ?_)
    refine q_s hB (fun _ _ k => z_goto hB k) (fun hB => ?_)
    exact fin J _ _ _ _ _ c1 (Pm_wsh hp g ht) rfl (hE.of rfl rfl rfl rfl)
theorem lc_safe (ok : z_Ok G w) (hn : z_fc w n) (h : cIv n L U V (w_I w)) (hp : PmL L) (hE : Exz z L) (ht : t < qT L) (hx : x < 4) (fin : LFin z G P w n L V (fun y16 y17 y18 => [some (.ref ev_S), some (.ref 0), some (.ref 241), some (.ref d), some (.ref s), some (.ref a), some (.ref b), x7, x8, x9, some (.int (jn f)), some (.int (jn t)), some (.int (jn x)), some (.int (jn m)), some (.int (jn r)), some (.int u), y16, y17, y18])) : z_Q G 216 380 [some (.ref ev_S), some (.ref 0), some (.ref 241), some (.ref d), some (.ref s), some (.ref a), some (.ref b), x7, x8, x9, some (.int (jn f)), some (.int (jn t)), some (.int (jn x)), some (.int (jn m)), some (.int (jn r)), some (.int u), x16, x17, x18] [] w P := by
  have g := h.2.2.1
  have g1 := g.1
  have hh : hOk (jn x) := ⟨by rw [jn_lt (by omega) (by omega)]; omega, by rw [jn_lt (by omega) (by omega)]; omega⟩
  have k1 := kc_firstSafe ok hn h ht hh
  rcases safe_law g ht (x := jn x) with e | ⟨c, hc, e, y1, y2, y3⟩
  · rw [e] at k1
    have hB : z_all [z_is 216 380 (zf_aload 380 1 381), z_is 216 381 (zf_iload 381 11 383), z_is 216 383 (zf_iload 383 12 385), z_is 216 385 (zf_cv 385 122 2 7 388), z_is 216 388 (zf_istore 388 16 390), z_is 216 390 (zf_iload 390 16 392), z_is 216 392 (zf_if1 .lt 392 431 395), z_is 216 431 (zf_goto 431 894)] = true := by decide +kernel
    refine q_s hB (fun _ _ k => z_aload hB rfl k) (fun hB => ?_)
    refine q_s hB (fun _ _ k => z_iload hB rfl k) (fun hB => ?_)
    refine q_s hB (fun _ _ k => z_iload hB rfl k) (fun hB => ?_)
    refine q_s hB (fun _ _ k => z_callV hB (rest := []) rfl rfl rfl (z_ok0 ok).1 (z_ok0 ok).2 k1 k) (fun hB => ?_)
    refine q_s hB (fun _ _ k => z_istore hB rfl rfl k) (fun hB => ?_)
    refine q_s hB (fun _ _ k => z_iload hB rfl k) (fun hB => ?_)
    refine q_s hB (fun _ _ k => z_if_lt hB (fun _ => k) (fun h _ => absurd ((by decide)) h)) (fun hB => ?_)
    refine q_s hB (fun _ _ k => z_goto hB k) (fun hB => ?_)
    exact fin.no h hp hE
  · rw [e] at k1
    obtain ⟨J, c1, k3⟩ := kd_put ok hn h hc ht y1
    have k4 := kc_whyNotWash (w := z_w w J) ok hn c1 (t := t) ht hh
    rw [y2] at k4
    obtain ⟨J2, c2, k5⟩ := kd_wash (w := z_w w J) ok hn c1 (t := t) ht hh y2
    rw [y3] at k5
    have l1 := qt_len g ht
    have hB : z_all [z_is 216 380 (zf_aload 380 1 381), z_is 216 381 (zf_iload 381 11 383), z_is 216 383 (zf_iload 383 12 385), z_is 216 385 (zf_cv 385 122 2 7 388), z_is 216 388 (zf_istore 388 16 390), z_is 216 390 (zf_iload 390 16 392), z_is 216 392 (zf_if1 .lt 392 431 395), z_is 216 395 (zf_aload 395 1 396), z_is 216 396 (zf_iload 396 16 398), z_is 216 398 (zf_iload 398 11 400), z_is 216 400 (zf_cv 400 128 2 7 403), z_is 216 403 (zf_cst 403 (jn 1) 404), z_is 216 404 (zf_if2 .lt 404 429 407), z_is 216 407 (zf_aload 407 1 408), z_is 216 408 (zf_iload 408 11 410), z_is 216 410 (zf_iload 410 12 412), z_is 216 412 (zf_cv 412 117 2 7 415), z_is 216 415 (zf_if1 .ne 415 429 418), z_is 216 418 (zf_aload 418 1 419), z_is 216 419 (zf_iload 419 11 421), z_is 216 421 (zf_iload 421 12 423), z_is 216 423 (zf_cv 423 129 2 7 426), z_is 216 426 (zf_if1 .eq 426 431 429), z_is 216 431 (zf_goto 431 894)] = true := by decide +kernel
    refine q_s hB (fun _ _ k => z_aload hB rfl k) (fun hB => ?_)
    refine q_s hB (fun _ _ k => z_iload hB rfl k) (fun hB => ?_)
    refine q_s hB (fun _ _ k => z_iload hB rfl k) (fun hB => ?_)
    refine q_s hB (fun _ _ k => z_callV hB (rest := []) rfl rfl rfl (z_ok0 ok).1 (z_ok0 ok).2 k1 k) (fun hB => ?_)
    refine q_s hB (fun _ _ k => z_istore hB rfl rfl k) (fun hB => ?_)
    refine q_s hB (fun _ _ k => z_iload hB rfl k) (fun hB => ?_)
    refine q_s hB (fun _ _ k => z_if_lt hB (fun h _ => absurd h ((by show ¬ jn c < jn 0; rw [jn_lt (by omega) (by omega)]; omega))) (fun _ => k)) (fun hB => ?_)
    refine q_s hB (fun _ _ k => z_aload hB rfl k) (fun hB => ?_)
    refine q_s hB (fun _ _ k => z_iload hB rfl k) (fun hB => ?_)
    refine q_s hB (fun _ _ k => z_iload hB rfl k) (fun hB => ?_)
    refine q_s hB (fun _ _ k => z_callV hB (rest := []) rfl rfl rfl (z_ok0 ok).1 (z_ok0 ok).2 k3 k) (fun hB => ?_)
    refine q_s hB (fun _ _ k => z_cst hB k) (fun hB => ?_)
    refine q_s hB (fun _ _ k => z_ic_lt hB (fun h _ => absurd h ((by rw [jn_lt (by omega) (by omega)]; omega))) (fun _ => k)) (fun hB => ?_)
    refine q_s hB (fun _ _ k => z_aload hB rfl k) (fun hB => ?_)
    refine q_s hB (fun _ _ k => z_iload hB rfl k) (fun hB => ?_)
    refine q_s hB (fun _ _ k => z_iload hB rfl k) (fun hB => ?_)
    refine q_s hB (fun _ _ k => z_callV hB (rest := []) rfl rfl rfl (z_ok0 ok).1 (z_ok0 ok).2 k4 k) (fun hB => ?_)
    refine q_s hB (fun _ _ k => z_if_ne hB (fun h _ => absurd (rfl) h) (fun _ => k)) (fun hB => ?_)
    refine q_s hB (fun _ _ k => z_aload hB rfl k) (fun hB => ?_)
    refine q_s hB (fun _ _ k => z_iload hB rfl k) (fun hB => ?_)
    refine q_s hB (fun _ _ k => z_iload hB rfl k) (fun hB => ?_)
    refine q_s hB (fun _ _ k => z_callV hB (rest := []) rfl rfl rfl (z_ok0 ok).1 (z_ok0 ok).2 k5 k) (fun hB => ?_)
    refine q_s hB (fun _ _ k => z_if_eq hB (fun _ => k) (fun h _ => absurd (rfl) h)) (fun hB => ?_)
    refine q_s hB (fun _ _ k => z_goto hB k) (fun hB => ?_)
    exact fin J2 _ _ _ _ _ c2 (Pm_wsh (Pm_put hp (put_h0 y1)) c1.2.2.1 ht) rfl (hE.of rfl rfl rfl rfl)
theorem lc_ble (ok : z_Ok G w) (hn : z_fc w n) (h : cIv n L U V (w_I w)) (hp : PmL L) (hE : Exz z L) (hf : f < qF L) (fin : LFin z G P w n L V (fun y16 y17 y18 => [some (.ref ev_S), some (.ref 0), some (.ref 241), some (.ref d), some (.ref s), some (.ref a), some (.ref b), x7, x8, x9, some (.int (jn f)), some (.int (jn t)), some (.int (jn x)), some (.int (jn m)), some (.int (jn r)), some (.int u), y16, y17, y18])) : z_Q G 216 693 [some (.ref ev_S), some (.ref 0), some (.ref 241), some (.ref d), some (.ref s), some (.ref a), some (.ref b), x7, x8, x9, some (.int (jn f)), some (.int (jn t)), some (.int (jn x)), some (.int (jn m)), some (.int (jn r)), some (.int u), x16, x17, x18] [] w P := by
  have g := h.2.2.1
  have k1 := kc_whyNotBleach ok hn h hf
  by_cases y : yble L f = jn 0
  · obtain ⟨J, c1, k2⟩ := kd_bleach ok hn h hf y
    have y2 := ble_h0 y
    have q1 := ble_1 g hf y2.2
    have k3 := kc_flag (w := z_w w J) ok hn c1 (f := f) (k := 6) hf (by omega)
    rw [show qf (Lble L f) f 6 = jn 0 from (lf_ne (by omega)).trans lf_at] at k3
    have hB : z_all [z_is 216 693 (zf_aload 693 1 694), z_is 216 694 (zf_iload 694 10 696), z_is 216 696 (zf_cv 696 119 1 7 699), z_is 216 699 (zf_if1 .ne 699 894 702), z_is 216 702 (zf_aload 702 1 703), z_is 216 703 (zf_iload 703 10 705), z_is 216 705 (zf_cv 705 132 1 7 708), z_is 216 708 (zf_cst 708 (jn 1) 709), z_is 216 709 (zf_if2 .lt 709 723 712), z_is 216 712 (zf_aload 712 1 713), z_is 216 713 (zf_iload 713 10 715), z_is 216 715 (zf_cst 715 (jn 6) 717), z_is 216 717 (zf_cv 717 109 2 7 720), z_is 216 720 (zf_if1 .eq 720 894 723)] = true := by decide +kernel
    refine q_s hB (fun _ _ k => z_aload hB rfl k) (fun hB => ?_)
    refine q_s hB (fun _ _ k => z_iload hB rfl k) (fun hB => ?_)
    refine q_s hB (fun _ _ k => z_callV hB (rest := []) rfl rfl rfl (z_ok0 ok).1 (z_ok0 ok).2 k1 k) (fun hB => ?_)
    refine q_s hB (fun _ _ k => z_if_ne hB (fun h _ => absurd (y) h) (fun _ => k)) (fun hB => ?_)
    refine q_s hB (fun _ _ k => z_aload hB rfl k) (fun hB => ?_)
    refine q_s hB (fun _ _ k => z_iload hB rfl k) (fun hB => ?_)
    refine q_s hB (fun _ _ k => z_callV hB (rest := []) rfl rfl rfl (z_ok0 ok).1 (z_ok0 ok).2 k2 k) (fun hB => ?_)
    refine q_s hB (fun _ _ k => z_cst hB k) (fun hB => ?_)
    refine q_s hB (fun _ _ k => z_ic_lt hB (fun h _ => absurd h (q1)) (fun _ => k)) (fun hB => ?_)
    refine q_s hB (fun _ _ k => z_aload hB rfl k) (fun hB => ?_)
    refine q_s hB (fun _ _ k => z_iload hB rfl k) (fun hB => ?_)
    refine q_s hB (fun _ _ k => z_cst hB k) (fun hB => ?_)
    refine q_s hB (fun _ _ k => z_callV hB (rest := []) rfl rfl rfl (z_ok0 ok).1 (z_ok0 ok).2 k3 k) (fun hB => ?_)
    refine q_s hB (fun _ _ k => z_if_eq hB (fun _ => k) (fun h _ => absurd (rfl) h)) (fun hB => ?_)
    exact fin J _ _ _ _ _ c1 (Pm_ble hp y2.1) rfl (hE.of rfl rfl rfl rfl)
  · have hB : z_all [z_is 216 693 (zf_aload 693 1 694), z_is 216 694 (zf_iload 694 10 696), z_is 216 696 (zf_cv 696 119 1 7 699), z_is 216 699 (zf_if1 .ne 699 894 702)] = true := by decide +kernel
    refine q_s hB (fun _ _ k => z_aload hB rfl k) (fun hB => ?_)
    refine q_s hB (fun _ _ k => z_iload hB rfl k) (fun hB => ?_)
    refine q_s hB (fun _ _ k => z_callV hB (rest := []) rfl rfl rfl (z_ok0 ok).1 (z_ok0 ok).2 k1 k) (fun hB => ?_)
    refine q_s hB (fun _ _ k => z_if_ne hB (fun _ => k) (fun h _ => absurd h (y))) (fun hB => ?_)
    exact fin.no h hp hE
theorem lc_wind (ok : z_Ok G w) (hn : z_fc w n) (h : cIv n L U V (w_I w)) (hp : PmL L) (hE : Exz z L) (ha : a < w_n w ∧ w_K w a = 14 ∧ w_L w a = 100) (hw : ∀ c, c < 100 → w_J w a c = svL L c) (hf : f < qF L) (hr : 1 ≤ r ∧ r ≤ 4) (fin : LFin z G P w n L V (fun y16 y17 y18 => [some (.ref ev_S), some (.ref 0), some (.ref 241), some (.ref d), some (.ref s), some (.ref a), some (.ref b), x7, x8, x9, some (.int (jn f)), some (.int (jn t)), some (.int (jn x)), some (.int (jn m)), some (.int (jn r)), some (.int u), y16, y17, y18])) : z_Q G 216 847 [some (.ref ev_S), some (.ref 0), some (.ref 241), some (.ref d), some (.ref s), some (.ref a), some (.ref b), x7, x8, x9, some (.int (jn f)), some (.int (jn t)), some (.int (jn x)), some (.int (jn m)), some (.int (jn r)), some (.int u), x16, x17, x18] [] w P := by
  have g := h.2.2.1
  have e0 : (jn r * jn 3) - jn 3 = jn (3 * r - 3) := jw_3 ⟨r, by omega⟩ hr.1
  have hv : 3 * r - 3 < 10 := by omega
  have k1 := kc_dryByWind ok hn h hf hv
  obtain ⟨J, c1, k2⟩ := kd_setWind ok hn h hv
  have k3 := kc_dryIn (w := z_w w J) ok hn c1 (k := f) hf hv ls_at
  have e3 : ydry (ls L 1 (jn (3 * r - 3))) f (3 * r - 3) = ydry L f (3 * r - 3) := rfl
  rw [e3] at k3
  have q1 : lg_cmp (qs L 1).toInt64 (w_J w a 6) = jn 0 := by
    rw [hw 6 (by omega), sv_c (by omega)]
    exact lcmp_self _
  have hB : z_all [z_is 216 847 (zf_iload 847 14 849), z_is 216 849 (zf_cst 849 (jn 3) 850), z_is 216 850 (zf_imul 850 851), z_is 216 851 (zf_cst 851 (jn 3) 852), z_is 216 852 (zf_isub 852 853), z_is 216 853 (zf_istore 853 16 855), z_is 216 855 (zf_aload 855 1 856), z_is 216 856 (zf_iload 856 10 858), z_is 216 858 (zf_iload 858 16 860), z_is 216 860 (zf_cv 860 124 2 7 863), z_is 216 863 (zf_istore 863 17 865), z_is 216 865 (zf_aload 865 1 866), z_is 216 866 (zf_iload 866 16 868), z_is 216 868 (zf_cv 868 135 1 7 871), z_at 216 871 (zx_ilong 871 872), z_is 216 872 (zf_aload 872 5 874), z_is 216 874 (zf_cst 874 (jn 6) 876), z_at 216 876 (zx_lald 876 877), z_at 216 877 (zx_lcmp 877 878), z_is 216 878 (zf_if1 .ne 878 892 881), z_is 216 881 (zf_aload 881 1 882), z_is 216 882 (zf_iload 882 10 884), z_is 216 884 (zf_cv 884 123 1 7 887), z_is 216 887 (zf_iload 887 17 889), z_is 216 889 (zf_if2 .eq 889 894 892)] = true := by decide +kernel
  refine q_s hB (fun _ _ k => z_iload hB rfl k) (fun hB => ?_)
  refine q_s hB (fun _ _ k => z_cst hB k) (fun hB => ?_)
  refine q_s hB (fun _ _ k => z_imul hB k) (fun hB => ?_)
  refine q_s hB (fun _ _ k => z_cst hB k) (fun hB => ?_)
  refine q_s hB (fun _ _ k => z_isub hB k) (fun hB => ?_)
  rw [e0]
  refine q_s hB (fun _ _ k => z_istore hB rfl rfl k) (fun hB => ?_)
  refine q_s hB (fun _ _ k => z_aload hB rfl k) (fun hB => ?_)
  refine q_s hB (fun _ _ k => z_iload hB rfl k) (fun hB => ?_)
  refine q_s hB (fun _ _ k => z_iload hB rfl k) (fun hB => ?_)
  refine q_s hB (fun _ _ k => z_callV hB (rest := []) rfl rfl rfl (z_ok0 ok).1 (z_ok0 ok).2 k1 k) (fun hB => ?_)
  refine q_s hB (fun _ _ k => z_istore hB rfl rfl k) (fun hB => ?_)
  refine q_s hB (fun _ _ k => z_aload hB rfl k) (fun hB => ?_)
  refine q_s hB (fun _ _ k => z_iload hB rfl k) (fun hB => ?_)
  refine q_s hB (fun _ _ k => z_callV hB (rest := []) rfl rfl rfl (z_ok0 ok).1 (z_ok0 ok).2 k2 k) (fun hB => ?_)
  refine q_s hB (fun _ _ k => x_ilong hB k) (fun hB => ?_)
  refine q_s hB (fun _ _ k => z_aload hB rfl k) (fun hB => ?_)
  refine q_s hB (fun _ _ k => z_cst hB k) (fun hB => ?_)
  refine q_s hB (fun _ _ k => x_lald hB ha.1 ha.2.1 (by show ev_ok _ (w_L w a) = true; rw [ha.2.2]; decide) k) (fun hB => ?_)
  refine q_s hB (fun _ _ k => x_lcmp hB k) (fun hB => ?_)
  refine q_s hB (fun _ _ k => z_if_ne hB (fun h _ => absurd (q1) h) (fun _ => k)) (fun hB => ?_)
  refine q_s hB (fun _ _ k => z_aload hB rfl k) (fun hB => ?_)
  refine q_s hB (fun _ _ k => z_iload hB rfl k) (fun hB => ?_)
  refine q_s hB (fun _ _ k => z_callV hB (rest := []) rfl rfl rfl (z_ok0 ok).1 (z_ok0 ok).2 k3 k) (fun hB => ?_)
  refine q_s hB (fun _ _ k => z_iload hB rfl k) (fun hB => ?_)
  refine q_s hB (fun _ _ k => z_ic_eq hB (fun _ => k) (fun h _ => absurd (rfl) h)) (fun hB => ?_)
  exact fin J _ _ _ _ _ c1 (Pm_ls hp (by omega) (by omega)) rfl (hE.of rfl rfl rfl rfl)
theorem lc_hang (ok : z_Ok G w) (hn : z_fc w n) (h : cIv n L U V (w_I w)) (hp : PmL L) (hE : Exz z L) (ha : a < w_n w ∧ w_K w a = 14 ∧ w_L w a = 100) (hw : ∀ c, c < 100 → w_J w a c = svL L c) (fin : LFin z G P w n L V (fun y16 y17 y18 => [some (.ref ev_S), some (.ref 0), some (.ref 241), some (.ref d), some (.ref s), some (.ref a), some (.ref b), x7, x8, x9, some (.int (jn f)), some (.int (jn t)), some (.int (jn x)), some (.int (jn m)), some (.int (jn r)), some (.int u), y16, y17, y18])) : z_Q G 216 441 [some (.ref ev_S), some (.ref 0), some (.ref 241), some (.ref d), some (.ref s), some (.ref a), some (.ref b), x7, x8, x9, some (.int (jn f)), some (.int (jn t)), some (.int (jn x)), some (.int (jn m)), some (.int (jn r)), some (.int u), x16, x17, x18] [] w P := by
  have g := h.2.2.1
  have g1 := g.1
  have g5 := g.2.2.2.2.1
  obtain ⟨J, c1, k2⟩ := kd_hangAll ok hn h
  obtain ⟨c, e1, e2, e3, e4, e5, e6⟩ := hal_k hp g (qF L) (Nat.le_refl _)
  have k1 := kc_freePegs ok hn h
  have k3 := kc_freePegs (w := z_w w J) ok hn c1
  have k4 := kc_count (w := z_w w J) ok hn c1 (k := 9) (by omega)
  have gl := line_le c1.2.2.1
  have y4 : ycount (Lhal L (qF L)).2 9 = jn (qcn (fun i => qf L i 8 = jn 2) (qF L) + c) := by
    show qct (fun i => qf (Lhal L (qF L)).2 i 8 = jn 2) (qF (Lhal L (qF L)).2) = _
    rw [e3, qct_n, e6]
  rw [e3, e6, e4] at gl
  rw [e1] at k2
  rw [qct_n, jn_sub (by omega)] at k1
  rw [e3, e4, qct_n, e6, jn_sub gl] at k3
  rw [y4] at k4
  have y9 : ycount L 9 = jn (qcn (fun i => qf L i 8 = jn 2) (qF L)) := qct_n
  generalize qcn (fun i => qf L i 8 = jn 2) (qF L) = q at gl k1 k3 k4 y4 y9
  have q1 : jn (qP L - (q + c)) = jn (qP L - q) - jn c := by rw [jn_sub (by omega)]; congr 1; omega
  have q2 : lg_cmp (jn (q + c)).toInt64 (w_J w a 9 + (jn c).toInt64) = jn 0 := by
    rw [hw 9 (by omega), sv_c (by omega), y9, jl_add (by omega)]
    exact lcmp_self _
  have hB : z_all [z_is 216 441 (zf_aload 441 1 442), z_is 216 442 (zf_cv 442 112 0 7 445), z_is 216 445 (zf_istore 445 16 447), z_is 216 447 (zf_aload 447 1 448), z_is 216 448 (zf_cv 448 130 0 7 451), z_is 216 451 (zf_istore 451 17 453), z_is 216 453 (zf_iload 453 17 455), z_is 216 455 (zf_iload 455 16 457), z_is 216 457 (zf_if2 .gt 457 492 460), z_is 216 460 (zf_aload 460 1 461), z_is 216 461 (zf_cv 461 112 0 7 464), z_is 216 464 (zf_iload 464 16 466), z_is 216 466 (zf_iload 466 17 468), z_is 216 468 (zf_isub 468 469), z_is 216 469 (zf_if2 .ne 469 492 472), z_is 216 472 (zf_aload 472 1 473), z_is 216 473 (zf_cst 473 (jn 9) 475), z_is 216 475 (zf_cv 475 107 1 7 478), z_at 216 478 (zx_ilong 478 479), z_is 216 479 (zf_aload 479 5 481), z_is 216 481 (zf_cst 481 (jn 9) 483), z_at 216 483 (zx_lald 483 484), z_is 216 484 (zf_iload 484 17 486), z_at 216 486 (zx_ilong 486 487), z_at 216 487 (zx_ladd 487 488), z_at 216 488 (zx_lcmp 488 489), z_is 216 489 (zf_if1 .eq 489 494 492), z_is 216 494 (zf_goto 494 894)] = true := by decide +kernel
  refine q_s hB (fun _ _ k => z_aload hB rfl k) (fun hB => ?_)
  refine q_s hB (fun _ _ k => z_callV hB (rest := []) rfl rfl rfl (z_ok0 ok).1 (z_ok0 ok).2 k1 k) (fun hB => ?_)
  refine q_s hB (fun _ _ k => z_istore hB rfl rfl k) (fun hB => ?_)
  refine q_s hB (fun _ _ k => z_aload hB rfl k) (fun hB => ?_)
  refine q_s hB (fun _ _ k => z_callV hB (rest := []) rfl rfl rfl (z_ok0 ok).1 (z_ok0 ok).2 k2 k) (fun hB => ?_)
  refine q_s hB (fun _ _ k => z_istore hB rfl rfl k) (fun hB => ?_)
  refine q_s hB (fun _ _ k => z_iload hB rfl k) (fun hB => ?_)
  refine q_s hB (fun _ _ k => z_iload hB rfl k) (fun hB => ?_)
  refine q_s hB (fun _ _ k => z_ic_gt hB (fun h _ => absurd h ((by rw [jn_lt (by omega) (by omega)]; omega))) (fun _ => k)) (fun hB => ?_)
  refine q_s hB (fun _ _ k => z_aload hB rfl k) (fun hB => ?_)
  refine q_s hB (fun _ _ k => z_callV hB (rest := []) rfl rfl rfl (z_ok0 ok).1 (z_ok0 ok).2 k3 k) (fun hB => ?_)
  refine q_s hB (fun _ _ k => z_iload hB rfl k) (fun hB => ?_)
  refine q_s hB (fun _ _ k => z_iload hB rfl k) (fun hB => ?_)
  refine q_s hB (fun _ _ k => z_isub hB k) (fun hB => ?_)
  refine q_s hB (fun _ _ k => z_ic_ne hB (fun h _ => absurd (q1) h) (fun _ => k)) (fun hB => ?_)
  refine q_s hB (fun _ _ k => z_aload hB rfl k) (fun hB => ?_)
  refine q_s hB (fun _ _ k => z_cst hB k) (fun hB => ?_)
  refine q_s hB (fun _ _ k => z_callV hB (rest := []) rfl rfl rfl (z_ok0 ok).1 (z_ok0 ok).2 k4 k) (fun hB => ?_)
  refine q_s hB (fun _ _ k => x_ilong hB k) (fun hB => ?_)
  refine q_s hB (fun _ _ k => z_aload hB rfl k) (fun hB => ?_)
  refine q_s hB (fun _ _ k => z_cst hB k) (fun hB => ?_)
  refine q_s hB (fun _ _ k => x_lald hB ha.1 ha.2.1 (by show ev_ok _ (w_L w a) = true; rw [ha.2.2]; decide) k) (fun hB => ?_)
  refine q_s hB (fun _ _ k => z_iload hB rfl k) (fun hB => ?_)
  refine q_s hB (fun _ _ k => x_ilong hB k) (fun hB => ?_)
  refine q_s hB (fun _ _ k => x_ladd hB k) (fun hB => ?_)
  refine q_s hB (fun _ _ k => x_lcmp hB k) (fun hB => ?_)
  refine q_s hB (fun _ _ k => z_if_eq hB (fun _ => k) (fun h _ => absurd (q2) h)) (fun hB => ?_)
  refine q_s hB (fun _ _ k => z_goto hB k) (fun hB => ?_)
  exact fin J _ _ _ _ _ c1 e5 (hal_d (qF L)).1 (hE.of ((hal_d (qF L)).2 0) ((hal_d (qF L)).2 5) ((hal_d (qF L)).2 2) ((hal_d (qF L)).2 3))
theorem lc_pass (ok : z_Ok G w) (hn : z_fc w n) (h : cIv n L U V (w_I w)) (hp : PmL L) (hE : Exz z L) (ha : a < w_n w ∧ w_K w a = 14 ∧ w_L w a = 100) (hw : ∀ c, c < 100 → w_J w a c = svL L c) (hf : f < qF L) (hr : 1 ≤ r ∧ r ≤ 4) (hz : z < 150) (fin : LFin z G P w n L V (fun y16 y17 y18 => [some (.ref ev_S), some (.ref 0), some (.ref 241), some (.ref d), some (.ref s), some (.ref a), some (.ref b), x7, x8, x9, some (.int (jn f)), some (.int (jn t)), some (.int (jn x)), some (.int (jn m)), some (.int (jn r)), some (.int u), y16, y17, y18])) : z_Q G 216 504 [some (.ref ev_S), some (.ref 0), some (.ref 241), some (.ref d), some (.ref s), some (.ref a), some (.ref b), x7, x8, x9, some (.int (jn f)), some (.int (jn t)), some (.int (jn x)), some (.int (jn m)), some (.int (jn r)), some (.int u), x16, x17, x18] [] w P := by
  have g := h.2.2.1
  obtain ⟨v, hv, ev⟩ := g.2.2.2.2.2.2.2.2.1
  have k1 := kc_fallsIn ok hn h (k := r) (by omega)
  have k2 := kc_dryIn ok hn h hf hv ev
  obtain ⟨J, c1, k3⟩ := kd_pass ok hn h (k := r) (by omega)
  have k4 := kc_count (w := z_w w J) ok hn c1 (k := 14) (by omega)
  obtain ⟨-, mm, hm, e5, -⟩ := pss_5 g hv ev r
  have hm4 : mm ≤ 4 := by
    rw [hm]
    split
    · omega
    · split <;> omega
  have hE2 := hE
  obtain ⟨⟨y0, hy0, hyz0⟩, ⟨y, hy, hyz⟩, e, i, he, hi, hs⟩ := hE2
  have ef : yfls L r = jn mm := by
    rw [← mq_fls g (by omega), e5, hy, jn_add, jn_sub (by omega)]
    congr 1
    omega
  have y4 : ycount (Lpss L r) 14 = jn (y + mm) := by
    show qs (Lpss L r) 5 = _
    rw [e5, hy, jn_add]
  rw [mq_fls g (by omega), ef] at k3
  rw [ef] at k1
  rw [y4] at k4
  have q1 : lg_cmp (jn (y + mm)).toInt64 (w_J w a 14 + (jn mm).toInt64) = jn 0 := by
    rw [hw 14 (by omega), sv_c (by omega), show ycount L 14 = jn y from hy, jl_add (by omega)]
    exact lcmp_self _
  have hE3 : Exz (z + 4) (Lpss L r) := ⟨⟨y0 + r, pss_s0 hy0 r, by omega⟩, ⟨y + mm, y4, by omega⟩, e, i, ((pss_d r).2 2 (by omega) (by omega)).trans he, ((pss_d r).2 3 (by omega) (by omega)).trans hi, by omega⟩
  by_cases d0 : ydry L f v < jn 0
  · have hB : z_all [z_is 216 504 (zf_aload 504 1 505), z_is 216 505 (zf_iload 505 14 507), z_is 216 507 (zf_cv 507 125 1 7 510), z_is 216 510 (zf_istore 510 16 512), z_is 216 512 (zf_aload 512 1 513), z_is 216 513 (zf_iload 513 10 515), z_is 216 515 (zf_cv 515 123 1 7 518), z_is 216 518 (zf_istore 518 17 520), z_is 216 520 (zf_aload 520 1 521), z_is 216 521 (zf_iload 521 14 523), z_is 216 523 (zf_cv 523 134 1 7 526), z_is 216 526 (zf_iload 526 16 528), z_is 216 528 (zf_if2 .ne 528 573 531), z_is 216 531 (zf_aload 531 1 532), z_is 216 532 (zf_cst 532 (jn 14) 534), z_is 216 534 (zf_cv 534 107 1 7 537), z_at 216 537 (zx_ilong 537 538), z_is 216 538 (zf_aload 538 5 540), z_is 216 540 (zf_cst 540 (jn 14) 542), z_at 216 542 (zx_lald 542 543), z_is 216 543 (zf_iload 543 16 545), z_at 216 545 (zx_ilong 545 546), z_at 216 546 (zx_ladd 546 547), z_at 216 547 (zx_lcmp 547 548), z_is 216 548 (zf_if1 .ne 548 573 551), z_is 216 551 (zf_iload 551 17 553), z_is 216 553 (zf_if1 .lt 553 575 556), z_is 216 575 (zf_goto 575 894)] = true := by decide +kernel
    refine q_s hB (fun _ _ k => z_aload hB rfl k) (fun hB => ?_)
    refine q_s hB (fun _ _ k => z_iload hB rfl k) (fun hB => ?_)
    refine q_s hB (fun _ _ k => z_callV hB (rest := []) rfl rfl rfl (z_ok0 ok).1 (z_ok0 ok).2 k1 k) (fun hB => ?_)
    refine q_s hB (fun _ _ k => z_istore hB rfl rfl k) (fun hB => ?_)
    refine q_s hB (fun _ _ k => z_aload hB rfl k) (fun hB => ?_)
    refine q_s hB (fun _ _ k => z_iload hB rfl k) (fun hB => ?_)
    refine q_s hB (fun _ _ k => z_callV hB (rest := []) rfl rfl rfl (z_ok0 ok).1 (z_ok0 ok).2 k2 k) (fun hB => ?_)
    refine q_s hB (fun _ _ k => z_istore hB rfl rfl k) (fun hB => ?_)
    refine q_s hB (fun _ _ k => z_aload hB rfl k) (fun hB => ?_)
    refine q_s hB (fun _ _ k => z_iload hB rfl k) (fun hB => ?_)
    refine q_s hB (fun _ _ k => z_callV hB (rest := []) rfl rfl rfl (z_ok0 ok).1 (z_ok0 ok).2 k3 k) (fun hB => ?_)
    refine q_s hB (fun _ _ k => z_iload hB rfl k) (fun hB => ?_)
    refine q_s hB (fun _ _ k => z_ic_ne hB (fun h _ => absurd (rfl) h) (fun _ => k)) (fun hB => ?_)
    refine q_s hB (fun _ _ k => z_aload hB rfl k) (fun hB => ?_)
    refine q_s hB (fun _ _ k => z_cst hB k) (fun hB => ?_)
    refine q_s hB (fun _ _ k => z_callV hB (rest := []) rfl rfl rfl (z_ok0 ok).1 (z_ok0 ok).2 k4 k) (fun hB => ?_)
    refine q_s hB (fun _ _ k => x_ilong hB k) (fun hB => ?_)
    refine q_s hB (fun _ _ k => z_aload hB rfl k) (fun hB => ?_)
    refine q_s hB (fun _ _ k => z_cst hB k) (fun hB => ?_)
    refine q_s hB (fun _ _ k => x_lald hB ha.1 ha.2.1 (by show ev_ok _ (w_L w a) = true; rw [ha.2.2]; decide) k) (fun hB => ?_)
    refine q_s hB (fun _ _ k => z_iload hB rfl k) (fun hB => ?_)
    refine q_s hB (fun _ _ k => x_ilong hB k) (fun hB => ?_)
    refine q_s hB (fun _ _ k => x_ladd hB k) (fun hB => ?_)
    refine q_s hB (fun _ _ k => x_lcmp hB k) (fun hB => ?_)
    refine q_s hB (fun _ _ k => z_if_ne hB (fun h _ => absurd (q1) h) (fun _ => k)) (fun hB => ?_)
    refine q_s hB (fun _ _ k => z_iload hB rfl k) (fun hB => ?_)
    refine q_s hB (fun _ _ k => z_if_lt hB (fun _ => k) (fun h _ => absurd (d0) h)) (fun hB => ?_)
    refine q_s hB (fun _ _ k => z_goto hB k) (fun hB => ?_)
    exact fin J _ _ _ _ _ c1 (Pm_pss hp g r) (pss_d r).1 hE3
  · by_cases d1 : jn r < ydry L f v
    · have hB : z_all [z_is 216 504 (zf_aload 504 1 505), z_is 216 505 (zf_iload 505 14 507), z_is 216 507 (zf_cv 507 125 1 7 510), z_is 216 510 (zf_istore 510 16 512), z_is 216 512 (zf_aload 512 1 513), z_is 216 513 (zf_iload 513 10 515), z_is 216 515 (zf_cv 515 123 1 7 518), z_is 216 518 (zf_istore 518 17 520), z_is 216 520 (zf_aload 520 1 521), z_is 216 521 (zf_iload 521 14 523), z_is 216 523 (zf_cv 523 134 1 7 526), z_is 216 526 (zf_iload 526 16 528), z_is 216 528 (zf_if2 .ne 528 573 531), z_is 216 531 (zf_aload 531 1 532), z_is 216 532 (zf_cst 532 (jn 14) 534), z_is 216 534 (zf_cv 534 107 1 7 537), z_at 216 537 (zx_ilong 537 538), z_is 216 538 (zf_aload 538 5 540), z_is 216 540 (zf_cst 540 (jn 14) 542), z_at 216 542 (zx_lald 542 543), z_is 216 543 (zf_iload 543 16 545), z_at 216 545 (zx_ilong 545 546), z_at 216 546 (zx_ladd 546 547), z_at 216 547 (zx_lcmp 547 548), z_is 216 548 (zf_if1 .ne 548 573 551), z_is 216 551 (zf_iload 551 17 553), z_is 216 553 (zf_if1 .lt 553 575 556), z_is 216 556 (zf_iload 556 17 558), z_is 216 558 (zf_iload 558 14 560), z_is 216 560 (zf_if2 .gt 560 575 563), z_is 216 575 (zf_goto 575 894)] = true := by decide +kernel
      refine q_s hB (fun _ _ k => z_aload hB rfl k) (fun hB => ?_)
      refine q_s hB (fun _ _ k => z_iload hB rfl k) (fun hB => ?_)
      refine q_s hB (fun _ _ k => z_callV hB (rest := []) rfl rfl rfl (z_ok0 ok).1 (z_ok0 ok).2 k1 k) (fun hB => ?_)
      refine q_s hB (fun _ _ k => z_istore hB rfl rfl k) (fun hB => ?_)
      refine q_s hB (fun _ _ k => z_aload hB rfl k) (fun hB => ?_)
      refine q_s hB (fun _ _ k => z_iload hB rfl k) (fun hB => ?_)
      refine q_s hB (fun _ _ k => z_callV hB (rest := []) rfl rfl rfl (z_ok0 ok).1 (z_ok0 ok).2 k2 k) (fun hB => ?_)
      refine q_s hB (fun _ _ k => z_istore hB rfl rfl k) (fun hB => ?_)
      refine q_s hB (fun _ _ k => z_aload hB rfl k) (fun hB => ?_)
      refine q_s hB (fun _ _ k => z_iload hB rfl k) (fun hB => ?_)
      refine q_s hB (fun _ _ k => z_callV hB (rest := []) rfl rfl rfl (z_ok0 ok).1 (z_ok0 ok).2 k3 k) (fun hB => ?_)
      refine q_s hB (fun _ _ k => z_iload hB rfl k) (fun hB => ?_)
      refine q_s hB (fun _ _ k => z_ic_ne hB (fun h _ => absurd (rfl) h) (fun _ => k)) (fun hB => ?_)
      refine q_s hB (fun _ _ k => z_aload hB rfl k) (fun hB => ?_)
      refine q_s hB (fun _ _ k => z_cst hB k) (fun hB => ?_)
      refine q_s hB (fun _ _ k => z_callV hB (rest := []) rfl rfl rfl (z_ok0 ok).1 (z_ok0 ok).2 k4 k) (fun hB => ?_)
      refine q_s hB (fun _ _ k => x_ilong hB k) (fun hB => ?_)
      refine q_s hB (fun _ _ k => z_aload hB rfl k) (fun hB => ?_)
      refine q_s hB (fun _ _ k => z_cst hB k) (fun hB => ?_)
      refine q_s hB (fun _ _ k => x_lald hB ha.1 ha.2.1 (by show ev_ok _ (w_L w a) = true; rw [ha.2.2]; decide) k) (fun hB => ?_)
      refine q_s hB (fun _ _ k => z_iload hB rfl k) (fun hB => ?_)
      refine q_s hB (fun _ _ k => x_ilong hB k) (fun hB => ?_)
      refine q_s hB (fun _ _ k => x_ladd hB k) (fun hB => ?_)
      refine q_s hB (fun _ _ k => x_lcmp hB k) (fun hB => ?_)
      refine q_s hB (fun _ _ k => z_if_ne hB (fun h _ => absurd (q1) h) (fun _ => k)) (fun hB => ?_)
      refine q_s hB (fun _ _ k => z_iload hB rfl k) (fun hB => ?_)
      refine q_s hB (fun _ _ k => z_if_lt hB (fun h _ => absurd h (d0)) (fun _ => k)) (fun hB => ?_)
      refine q_s hB (fun _ _ k => z_iload hB rfl k) (fun hB => ?_)
      refine q_s hB (fun _ _ k => z_iload hB rfl k) (fun hB => ?_)
      refine q_s hB (fun _ _ k => z_ic_gt hB (fun _ => k) (fun h _ => absurd (d1) h)) (fun hB => ?_)
      refine q_s hB (fun _ _ k => z_goto hB k) (fun hB => ?_)
      exact fin J _ _ _ _ _ c1 (Pm_pss hp g r) (pss_d r).1 hE3
    · have k5 := kc_flag (w := z_w w J) ok hn c1 (f := f) (k := 4) (by rw [show qF (Lpss L r) = qF L from congrArg (fun q => q.1) (pss_d r).1]; exact hf) (by omega)
      rw [dry_fore g hf hv ev (n := r) (by omega) d0 d1] at k5
      have hB : z_all [z_is 216 504 (zf_aload 504 1 505), z_is 216 505 (zf_iload 505 14 507), z_is 216 507 (zf_cv 507 125 1 7 510), z_is 216 510 (zf_istore 510 16 512), z_is 216 512 (zf_aload 512 1 513), z_is 216 513 (zf_iload 513 10 515), z_is 216 515 (zf_cv 515 123 1 7 518), z_is 216 518 (zf_istore 518 17 520), z_is 216 520 (zf_aload 520 1 521), z_is 216 521 (zf_iload 521 14 523), z_is 216 523 (zf_cv 523 134 1 7 526), z_is 216 526 (zf_iload 526 16 528), z_is 216 528 (zf_if2 .ne 528 573 531), z_is 216 531 (zf_aload 531 1 532), z_is 216 532 (zf_cst 532 (jn 14) 534), z_is 216 534 (zf_cv 534 107 1 7 537), z_at 216 537 (zx_ilong 537 538), z_is 216 538 (zf_aload 538 5 540), z_is 216 540 (zf_cst 540 (jn 14) 542), z_at 216 542 (zx_lald 542 543), z_is 216 543 (zf_iload 543 16 545), z_at 216 545 (zx_ilong 545 546), z_at 216 546 (zx_ladd 546 547), z_at 216 547 (zx_lcmp 547 548), z_is 216 548 (zf_if1 .ne 548 573 551), z_is 216 551 (zf_iload 551 17 553), z_is 216 553 (zf_if1 .lt 553 575 556), z_is 216 556 (zf_iload 556 17 558), z_is 216 558 (zf_iload 558 14 560), z_is 216 560 (zf_if2 .gt 560 575 563), z_is 216 563 (zf_aload 563 1 564), z_is 216 564 (zf_iload 564 10 566), z_is 216 566 (zf_cst 566 (jn 4) 567), z_is 216 567 (zf_cv 567 109 2 7 570), z_is 216 570 (zf_if1 .eq 570 575 573), z_is 216 575 (zf_goto 575 894)] = true := by decide +kernel
      refine q_s hB (fun _ _ k => z_aload hB rfl k) (fun hB => ?_)
      refine q_s hB (fun _ _ k => z_iload hB rfl k) (fun hB => ?_)
      refine q_s hB (fun _ _ k => z_callV hB (rest := []) rfl rfl rfl (z_ok0 ok).1 (z_ok0 ok).2 k1 k) (fun hB => ?_)
      refine q_s hB (fun _ _ k => z_istore hB rfl rfl k) (fun hB => ?_)
      refine q_s hB (fun _ _ k => z_aload hB rfl k) (fun hB => ?_)
      refine q_s hB (fun _ _ k => z_iload hB rfl k) (fun hB => ?_)
      refine q_s hB (fun _ _ k => z_callV hB (rest := []) rfl rfl rfl (z_ok0 ok).1 (z_ok0 ok).2 k2 k) (fun hB => ?_)
      refine q_s hB (fun _ _ k => z_istore hB rfl rfl k) (fun hB => ?_)
      refine q_s hB (fun _ _ k => z_aload hB rfl k) (fun hB => ?_)
      refine q_s hB (fun _ _ k => z_iload hB rfl k) (fun hB => ?_)
      refine q_s hB (fun _ _ k => z_callV hB (rest := []) rfl rfl rfl (z_ok0 ok).1 (z_ok0 ok).2 k3 k) (fun hB => ?_)
      refine q_s hB (fun _ _ k => z_iload hB rfl k) (fun hB => ?_)
      refine q_s hB (fun _ _ k => z_ic_ne hB (fun h _ => absurd (rfl) h) (fun _ => k)) (fun hB => ?_)
      refine q_s hB (fun _ _ k => z_aload hB rfl k) (fun hB => ?_)
      refine q_s hB (fun _ _ k => z_cst hB k) (fun hB => ?_)
      refine q_s hB (fun _ _ k => z_callV hB (rest := []) rfl rfl rfl (z_ok0 ok).1 (z_ok0 ok).2 k4 k) (fun hB => ?_)
      refine q_s hB (fun _ _ k => x_ilong hB k) (fun hB => ?_)
      refine q_s hB (fun _ _ k => z_aload hB rfl k) (fun hB => ?_)
      refine q_s hB (fun _ _ k => z_cst hB k) (fun hB => ?_)
      refine q_s hB (fun _ _ k => x_lald hB ha.1 ha.2.1 (by show ev_ok _ (w_L w a) = true; rw [ha.2.2]; decide) k) (fun hB => ?_)
      refine q_s hB (fun _ _ k => z_iload hB rfl k) (fun hB => ?_)
      refine q_s hB (fun _ _ k => x_ilong hB k) (fun hB => ?_)
      refine q_s hB (fun _ _ k => x_ladd hB k) (fun hB => ?_)
      refine q_s hB (fun _ _ k => x_lcmp hB k) (fun hB => ?_)
      refine q_s hB (fun _ _ k => z_if_ne hB (fun h _ => absurd (q1) h) (fun _ => k)) (fun hB => ?_)
      refine q_s hB (fun _ _ k => z_iload hB rfl k) (fun hB => ?_)
      refine q_s hB (fun _ _ k => z_if_lt hB (fun h _ => absurd h (d0)) (fun _ => k)) (fun hB => ?_)
      refine q_s hB (fun _ _ k => z_iload hB rfl k) (fun hB => ?_)
      refine q_s hB (fun _ _ k => z_iload hB rfl k) (fun hB => ?_)
      refine q_s hB (fun _ _ k => z_ic_gt hB (fun h _ => absurd h (d1)) (fun _ => k)) (fun hB => ?_)
      refine q_s hB (fun _ _ k => z_aload hB rfl k) (fun hB => ?_)
      refine q_s hB (fun _ _ k => z_iload hB rfl k) (fun hB => ?_)
      refine q_s hB (fun _ _ k => z_cst hB k) (fun hB => ?_)
      refine q_s hB (fun _ _ k => z_callV hB (rest := []) rfl rfl rfl (z_ok0 ok).1 (z_ok0 ok).2 k5 k) (fun hB => ?_)
      refine q_s hB (fun _ _ k => z_if_eq hB (fun _ => k) (fun h _ => absurd (rfl) h)) (fun hB => ?_)
      refine q_s hB (fun _ _ k => z_goto hB k) (fun hB => ?_)
      exact fin J _ _ _ _ _ c1 (Pm_pss hp g r) (pss_d r).1 hE3
theorem lc_hand (ok : z_Ok G w) (hn : z_fc w n) (h : cIv n L U V (w_I w)) (hp : PmL L) (hE : Exz z L) (ha : a < w_n w ∧ w_K w a = 14 ∧ w_L w a = 100) (hw : ∀ c, c < 100 → w_J w a c = svL L c) (hm : m < qN L) (hz : z < 150) (fin : LFin z G P w n L V (fun y16 y17 y18 => [some (.ref ev_S), some (.ref 0), some (.ref 241), some (.ref d), some (.ref s), some (.ref a), some (.ref b), x7, x8, x9, some (.int (jn f)), some (.int (jn t)), some (.int (jn x)), some (.int (jn m)), some (.int (jn r)), some (.int u), y16, y17, y18])) : z_Q G 216 732 [some (.ref ev_S), some (.ref 0), some (.ref 241), some (.ref d), some (.ref s), some (.ref a), some (.ref b), x7, x8, x9, some (.int (jn f)), some (.int (jn t)), some (.int (jn x)), some (.int (jn m)), some (.int (jn r)), some (.int u), x16, x17, x18] [] w P := by
  have g := h.2.2.1
  have k1 := kc_payIf ok hn h hm (x := jn 0) ⟨by decide, by decide⟩
  have k2 := kc_nation ok hn h hm (k := 5) (by omega)
  have k3 := kc_nation ok hn h hm (k := 3) (by omega)
  rw [show ynat L m 3 = yof L m from rfl] at k3
  have k4 := kc_culprit ok hn h hm
  by_cases y5 : qn L m 3 = jn 1
  · rw [show ynat L m 5 = jn 1 from if_pos y5] at k2
    have hB : z_all [z_is 216 732 (zf_aload 732 1 733), z_is 216 733 (zf_iload 733 13 735), z_is 216 735 (zf_cst 735 (jn 0) 736), z_is 216 736 (zf_cv 736 126 2 7 739), z_is 216 739 (zf_istore 739 16 741), z_is 216 741 (zf_aload 741 1 742), z_is 216 742 (zf_iload 742 13 744), z_is 216 744 (zf_cst 744 (jn 5) 745), z_is 216 745 (zf_cv 745 108 2 7 748), z_is 216 748 (zf_if1 .ne 748 775 751), z_is 216 775 (zf_cst 775 (jn 0) 776), z_is 216 776 (zf_istore 776 17 778), z_is 216 778 (zf_iload 778 17 780), z_is 216 780 (zf_if1 .eq 780 844 783), z_is 216 844 (zf_goto 844 894)] = true := by decide +kernel
    refine q_s hB (fun _ _ k => z_aload hB rfl k) (fun hB => ?_)
    refine q_s hB (fun _ _ k => z_iload hB rfl k) (fun hB => ?_)
    refine q_s hB (fun _ _ k => z_cst hB k) (fun hB => ?_)
    refine q_s hB (fun _ _ k => z_callV hB (rest := []) rfl rfl rfl (z_ok0 ok).1 (z_ok0 ok).2 k1 k) (fun hB => ?_)
    refine q_s hB (fun _ _ k => z_istore hB rfl rfl k) (fun hB => ?_)
    refine q_s hB (fun _ _ k => z_aload hB rfl k) (fun hB => ?_)
    refine q_s hB (fun _ _ k => z_iload hB rfl k) (fun hB => ?_)
    refine q_s hB (fun _ _ k => z_cst hB k) (fun hB => ?_)
    refine q_s hB (fun _ _ k => z_callV hB (rest := []) rfl rfl rfl (z_ok0 ok).1 (z_ok0 ok).2 k2 k) (fun hB => ?_)
    refine q_s hB (fun _ _ k => z_if_ne hB (fun _ => k) (fun h _ => absurd h ((by decide)))) (fun hB => ?_)
    refine q_s hB (fun _ _ k => z_cst hB k) (fun hB => ?_)
    refine q_s hB (fun _ _ k => z_istore hB rfl rfl k) (fun hB => ?_)
    refine q_s hB (fun _ _ k => z_iload hB rfl k) (fun hB => ?_)
    refine q_s hB (fun _ _ k => z_if_eq hB (fun _ => k) (fun h _ => absurd (rfl) h)) (fun hB => ?_)
    refine q_s hB (fun _ _ k => z_goto hB k) (fun hB => ?_)
    exact fin.no h hp hE
  · rw [show ynat L m 5 = jn 0 from if_neg y5] at k2
    by_cases y3 : jn 0 < yof L m
    · by_cases yc : ycul L m = jg 1
      · have k5 := kc_nation ok hn h hm (k := 4) (by omega)
        rw [show ynat L m 4 = yof L m from rdy_all g yc] at k5
        obtain ⟨J, c1, k6⟩ := kd_handOver ok hn h hm ⟨y3, y5, yc⟩
        have k7 := kc_count (w := z_w w J) ok hn c1 (k := 11) (by omega)
        have k8 := kc_nation (w := z_w w J) ok hn c1 (f := m) hm (k := 5) (by omega)
        have n3 : qn (Lhov L m) m 3 = jn 1 := by
          show (if m = m ∧ (3 : Nat) = 4 then _ else if m = m ∧ (3 : Nat) = 3 then jn 1 else qn L m 3) = _
          rw [if_neg (by omega), if_pos ⟨rfl, rfl⟩]
        rw [show ynat (Lhov L m) m 5 = jn 1 from if_pos n3] at k8
        have hE2 := hE
        obtain ⟨⟨y0, hy0, hyz0⟩, ⟨y, hy, hyz⟩, e, i, he, hi, hs⟩ := hE2
        obtain ⟨p, q, ep, eq, hpq, hq⟩ := ypd_b g hm hy0 (by omega)
        have e1 : yahead L m (jn 0) = ypd L m := by
          unfold yahead ypd
          rw [if_neg y5, show qs L 0 + jn 0 = qs L 0 from Int32.add_zero _]
        rw [e1, ep] at k1
        rw [ep] at k6
        have s2 : qs (Lhov L m) 2 = jn (e + p) := by
          show qs L 2 + ypd L m = _
          rw [he, ep, jn_add]
        have s3 : qs (Lhov L m) 3 = jn (i + (q - p)) := by
          show qs L 3 + ((qn L m 1 * yof L m) - ypd L m) = _
          rw [hi, eq, ep, jn_sub hpq, jn_add]
        rw [show ycount (Lhov L m) 11 = jn (e + p) from s2] at k7
        have q1 : lg_cmp (jn (e + p)).toInt64 (w_J w a 11 + (jn p).toInt64) = jn 0 := by
          rw [hw 11 (by omega), sv_c (by omega), show ycount L 11 = jn e from he, jl_add (by omega)]
          exact lcmp_self _
        have hB : z_all [z_is 216 732 (zf_aload 732 1 733), z_is 216 733 (zf_iload 733 13 735), z_is 216 735 (zf_cst 735 (jn 0) 736), z_is 216 736 (zf_cv 736 126 2 7 739), z_is 216 739 (zf_istore 739 16 741), z_is 216 741 (zf_aload 741 1 742), z_is 216 742 (zf_iload 742 13 744), z_is 216 744 (zf_cst 744 (jn 5) 745), z_is 216 745 (zf_cv 745 108 2 7 748), z_is 216 748 (zf_if1 .ne 748 775 751), z_is 216 751 (zf_aload 751 1 752), z_is 216 752 (zf_iload 752 13 754), z_is 216 754 (zf_cst 754 (jn 3) 755), z_is 216 755 (zf_cv 755 108 2 7 758), z_is 216 758 (zf_if1 .le 758 775 761), z_is 216 761 (zf_aload 761 1 762), z_is 216 762 (zf_iload 762 13 764), z_is 216 764 (zf_cv 764 115 1 7 767), z_is 216 767 (zf_cst 767 (jg 1) 768), z_is 216 768 (zf_if2 .ne 768 775 771), z_is 216 771 (zf_cst 771 (jn 1) 772), z_is 216 772 (zf_goto 772 776), z_is 216 776 (zf_istore 776 17 778), z_is 216 778 (zf_iload 778 17 780), z_is 216 780 (zf_if1 .eq 780 844 783), z_is 216 783 (zf_aload 783 1 784), z_is 216 784 (zf_iload 784 13 786), z_is 216 786 (zf_cst 786 (jn 4) 787), z_is 216 787 (zf_cv 787 108 2 7 790), z_is 216 790 (zf_aload 790 1 791), z_is 216 791 (zf_iload 791 13 793), z_is 216 793 (zf_cst 793 (jn 3) 794), z_is 216 794 (zf_cv 794 108 2 7 797), z_is 216 797 (zf_if2 .ne 797 842 800), z_is 216 800 (zf_aload 800 1 801), z_is 216 801 (zf_iload 801 13 803), z_is 216 803 (zf_cv 803 133 1 7 806), z_is 216 806 (zf_iload 806 16 808), z_is 216 808 (zf_if2 .ne 808 842 811), z_is 216 811 (zf_aload 811 1 812), z_is 216 812 (zf_cst 812 (jn 11) 814), z_is 216 814 (zf_cv 814 107 1 7 817), z_at 216 817 (zx_ilong 817 818), z_is 216 818 (zf_aload 818 5 820), z_is 216 820 (zf_cst 820 (jn 11) 822), z_at 216 822 (zx_lald 822 823), z_is 216 823 (zf_iload 823 16 825), z_at 216 825 (zx_ilong 825 826), z_at 216 826 (zx_ladd 826 827), z_at 216 827 (zx_lcmp 827 828), z_is 216 828 (zf_if1 .ne 828 842 831), z_is 216 831 (zf_aload 831 1 832), z_is 216 832 (zf_iload 832 13 834), z_is 216 834 (zf_cst 834 (jn 5) 835), z_is 216 835 (zf_cv 835 108 2 7 838), z_is 216 838 (zf_cst 838 (jn 1) 839), z_is 216 839 (zf_if2 .eq 839 844 842), z_is 216 844 (zf_goto 844 894)] = true := by decide +kernel
        refine q_s hB (fun _ _ k => z_aload hB rfl k) (fun hB => ?_)
        refine q_s hB (fun _ _ k => z_iload hB rfl k) (fun hB => ?_)
        refine q_s hB (fun _ _ k => z_cst hB k) (fun hB => ?_)
        refine q_s hB (fun _ _ k => z_callV hB (rest := []) rfl rfl rfl (z_ok0 ok).1 (z_ok0 ok).2 k1 k) (fun hB => ?_)
        refine q_s hB (fun _ _ k => z_istore hB rfl rfl k) (fun hB => ?_)
        refine q_s hB (fun _ _ k => z_aload hB rfl k) (fun hB => ?_)
        refine q_s hB (fun _ _ k => z_iload hB rfl k) (fun hB => ?_)
        refine q_s hB (fun _ _ k => z_cst hB k) (fun hB => ?_)
        refine q_s hB (fun _ _ k => z_callV hB (rest := []) rfl rfl rfl (z_ok0 ok).1 (z_ok0 ok).2 k2 k) (fun hB => ?_)
        refine q_s hB (fun _ _ k => z_if_ne hB (fun h _ => absurd (rfl) h) (fun _ => k)) (fun hB => ?_)
        refine q_s hB (fun _ _ k => z_aload hB rfl k) (fun hB => ?_)
        refine q_s hB (fun _ _ k => z_iload hB rfl k) (fun hB => ?_)
        refine q_s hB (fun _ _ k => z_cst hB k) (fun hB => ?_)
        refine q_s hB (fun _ _ k => z_callV hB (rest := []) rfl rfl rfl (z_ok0 ok).1 (z_ok0 ok).2 k3 k) (fun hB => ?_)
        refine q_s hB (fun _ _ k => z_if_le hB (fun h _ => absurd (y3) h) (fun _ => k)) (fun hB => ?_)
        refine q_s hB (fun _ _ k => z_aload hB rfl k) (fun hB => ?_)
        refine q_s hB (fun _ _ k => z_iload hB rfl k) (fun hB => ?_)
        refine q_s hB (fun _ _ k => z_callV hB (rest := []) rfl rfl rfl (z_ok0 ok).1 (z_ok0 ok).2 k4 k) (fun hB => ?_)
        refine q_s hB (fun _ _ k => z_cst hB k) (fun hB => ?_)
        refine q_s hB (fun _ _ k => z_ic_ne hB (fun h _ => absurd (yc) h) (fun _ => k)) (fun hB => ?_)
        refine q_s hB (fun _ _ k => z_cst hB k) (fun hB => ?_)
        refine q_s hB (fun _ _ k => z_goto hB k) (fun hB => ?_)
        refine q_s hB (fun _ _ k => z_istore hB rfl rfl k) (fun hB => ?_)
        refine q_s hB (fun _ _ k => z_iload hB rfl k) (fun hB => ?_)
        refine q_s hB (fun _ _ k => z_if_eq hB (fun h _ => absurd h ((by decide))) (fun _ => k)) (fun hB => ?_)
        refine q_s hB (fun _ _ k => z_aload hB rfl k) (fun hB => ?_)
        refine q_s hB (fun _ _ k => z_iload hB rfl k) (fun hB => ?_)
        refine q_s hB (fun _ _ k => z_cst hB k) (fun hB => ?_)
        refine q_s hB (fun _ _ k => z_callV hB (rest := []) rfl rfl rfl (z_ok0 ok).1 (z_ok0 ok).2 k5 k) (fun hB => ?_)
        refine q_s hB (fun _ _ k => z_aload hB rfl k) (fun hB => ?_)
        refine q_s hB (fun _ _ k => z_iload hB rfl k) (fun hB => ?_)
        refine q_s hB (fun _ _ k => z_cst hB k) (fun hB => ?_)
        refine q_s hB (fun _ _ k => z_callV hB (rest := [.int (yof L m)]) rfl rfl rfl (z_ok0 ok).1 (z_ok0 ok).2 k3 k) (fun hB => ?_)
        refine q_s hB (fun _ _ k => z_ic_ne hB (fun h _ => absurd (rfl) h) (fun _ => k)) (fun hB => ?_)
        refine q_s hB (fun _ _ k => z_aload hB rfl k) (fun hB => ?_)
        refine q_s hB (fun _ _ k => z_iload hB rfl k) (fun hB => ?_)
        refine q_s hB (fun _ _ k => z_callV hB (rest := []) rfl rfl rfl (z_ok0 ok).1 (z_ok0 ok).2 k6 k) (fun hB => ?_)
        refine q_s hB (fun _ _ k => z_iload hB rfl k) (fun hB => ?_)
        refine q_s hB (fun _ _ k => z_ic_ne hB (fun h _ => absurd (rfl) h) (fun _ => k)) (fun hB => ?_)
        refine q_s hB (fun _ _ k => z_aload hB rfl k) (fun hB => ?_)
        refine q_s hB (fun _ _ k => z_cst hB k) (fun hB => ?_)
        refine q_s hB (fun _ _ k => z_callV hB (rest := []) rfl rfl rfl (z_ok0 ok).1 (z_ok0 ok).2 k7 k) (fun hB => ?_)
        refine q_s hB (fun _ _ k => x_ilong hB k) (fun hB => ?_)
        refine q_s hB (fun _ _ k => z_aload hB rfl k) (fun hB => ?_)
        refine q_s hB (fun _ _ k => z_cst hB k) (fun hB => ?_)
        refine q_s hB (fun _ _ k => x_lald hB ha.1 ha.2.1 (by show ev_ok _ (w_L w a) = true; rw [ha.2.2]; decide) k) (fun hB => ?_)
        refine q_s hB (fun _ _ k => z_iload hB rfl k) (fun hB => ?_)
        refine q_s hB (fun _ _ k => x_ilong hB k) (fun hB => ?_)
        refine q_s hB (fun _ _ k => x_ladd hB k) (fun hB => ?_)
        refine q_s hB (fun _ _ k => x_lcmp hB k) (fun hB => ?_)
        refine q_s hB (fun _ _ k => z_if_ne hB (fun h _ => absurd (q1) h) (fun _ => k)) (fun hB => ?_)
        refine q_s hB (fun _ _ k => z_aload hB rfl k) (fun hB => ?_)
        refine q_s hB (fun _ _ k => z_iload hB rfl k) (fun hB => ?_)
        refine q_s hB (fun _ _ k => z_cst hB k) (fun hB => ?_)
        refine q_s hB (fun _ _ k => z_callV hB (rest := []) rfl rfl rfl (z_ok0 ok).1 (z_ok0 ok).2 k8 k) (fun hB => ?_)
        refine q_s hB (fun _ _ k => z_cst hB k) (fun hB => ?_)
        refine q_s hB (fun _ _ k => z_ic_eq hB (fun _ => k) (fun h _ => absurd (rfl) h)) (fun hB => ?_)
        refine q_s hB (fun _ _ k => z_goto hB k) (fun hB => ?_)
        exact fin J _ _ _ _ _ c1 (Pm_hov hp g hm y5 yc) rfl ⟨⟨y0, hy0, by omega⟩, ⟨y, hy, by omega⟩, e + p, i + (q - p), s2, s3, by omega⟩
      · have hB : z_all [z_is 216 732 (zf_aload 732 1 733), z_is 216 733 (zf_iload 733 13 735), z_is 216 735 (zf_cst 735 (jn 0) 736), z_is 216 736 (zf_cv 736 126 2 7 739), z_is 216 739 (zf_istore 739 16 741), z_is 216 741 (zf_aload 741 1 742), z_is 216 742 (zf_iload 742 13 744), z_is 216 744 (zf_cst 744 (jn 5) 745), z_is 216 745 (zf_cv 745 108 2 7 748), z_is 216 748 (zf_if1 .ne 748 775 751), z_is 216 751 (zf_aload 751 1 752), z_is 216 752 (zf_iload 752 13 754), z_is 216 754 (zf_cst 754 (jn 3) 755), z_is 216 755 (zf_cv 755 108 2 7 758), z_is 216 758 (zf_if1 .le 758 775 761), z_is 216 761 (zf_aload 761 1 762), z_is 216 762 (zf_iload 762 13 764), z_is 216 764 (zf_cv 764 115 1 7 767), z_is 216 767 (zf_cst 767 (jg 1) 768), z_is 216 768 (zf_if2 .ne 768 775 771), z_is 216 775 (zf_cst 775 (jn 0) 776), z_is 216 776 (zf_istore 776 17 778), z_is 216 778 (zf_iload 778 17 780), z_is 216 780 (zf_if1 .eq 780 844 783), z_is 216 844 (zf_goto 844 894)] = true := by decide +kernel
        refine q_s hB (fun _ _ k => z_aload hB rfl k) (fun hB => ?_)
        refine q_s hB (fun _ _ k => z_iload hB rfl k) (fun hB => ?_)
        refine q_s hB (fun _ _ k => z_cst hB k) (fun hB => ?_)
        refine q_s hB (fun _ _ k => z_callV hB (rest := []) rfl rfl rfl (z_ok0 ok).1 (z_ok0 ok).2 k1 k) (fun hB => ?_)
        refine q_s hB (fun _ _ k => z_istore hB rfl rfl k) (fun hB => ?_)
        refine q_s hB (fun _ _ k => z_aload hB rfl k) (fun hB => ?_)
        refine q_s hB (fun _ _ k => z_iload hB rfl k) (fun hB => ?_)
        refine q_s hB (fun _ _ k => z_cst hB k) (fun hB => ?_)
        refine q_s hB (fun _ _ k => z_callV hB (rest := []) rfl rfl rfl (z_ok0 ok).1 (z_ok0 ok).2 k2 k) (fun hB => ?_)
        refine q_s hB (fun _ _ k => z_if_ne hB (fun h _ => absurd (rfl) h) (fun _ => k)) (fun hB => ?_)
        refine q_s hB (fun _ _ k => z_aload hB rfl k) (fun hB => ?_)
        refine q_s hB (fun _ _ k => z_iload hB rfl k) (fun hB => ?_)
        refine q_s hB (fun _ _ k => z_cst hB k) (fun hB => ?_)
        refine q_s hB (fun _ _ k => z_callV hB (rest := []) rfl rfl rfl (z_ok0 ok).1 (z_ok0 ok).2 k3 k) (fun hB => ?_)
        refine q_s hB (fun _ _ k => z_if_le hB (fun h _ => absurd (y3) h) (fun _ => k)) (fun hB => ?_)
        refine q_s hB (fun _ _ k => z_aload hB rfl k) (fun hB => ?_)
        refine q_s hB (fun _ _ k => z_iload hB rfl k) (fun hB => ?_)
        refine q_s hB (fun _ _ k => z_callV hB (rest := []) rfl rfl rfl (z_ok0 ok).1 (z_ok0 ok).2 k4 k) (fun hB => ?_)
        refine q_s hB (fun _ _ k => z_cst hB k) (fun hB => ?_)
        refine q_s hB (fun _ _ k => z_ic_ne hB (fun _ => k) (fun h _ => absurd h (yc))) (fun hB => ?_)
        refine q_s hB (fun _ _ k => z_cst hB k) (fun hB => ?_)
        refine q_s hB (fun _ _ k => z_istore hB rfl rfl k) (fun hB => ?_)
        refine q_s hB (fun _ _ k => z_iload hB rfl k) (fun hB => ?_)
        refine q_s hB (fun _ _ k => z_if_eq hB (fun _ => k) (fun h _ => absurd (rfl) h)) (fun hB => ?_)
        refine q_s hB (fun _ _ k => z_goto hB k) (fun hB => ?_)
        exact fin.no h hp hE
    · have hB : z_all [z_is 216 732 (zf_aload 732 1 733), z_is 216 733 (zf_iload 733 13 735), z_is 216 735 (zf_cst 735 (jn 0) 736), z_is 216 736 (zf_cv 736 126 2 7 739), z_is 216 739 (zf_istore 739 16 741), z_is 216 741 (zf_aload 741 1 742), z_is 216 742 (zf_iload 742 13 744), z_is 216 744 (zf_cst 744 (jn 5) 745), z_is 216 745 (zf_cv 745 108 2 7 748), z_is 216 748 (zf_if1 .ne 748 775 751), z_is 216 751 (zf_aload 751 1 752), z_is 216 752 (zf_iload 752 13 754), z_is 216 754 (zf_cst 754 (jn 3) 755), z_is 216 755 (zf_cv 755 108 2 7 758), z_is 216 758 (zf_if1 .le 758 775 761), z_is 216 775 (zf_cst 775 (jn 0) 776), z_is 216 776 (zf_istore 776 17 778), z_is 216 778 (zf_iload 778 17 780), z_is 216 780 (zf_if1 .eq 780 844 783), z_is 216 844 (zf_goto 844 894)] = true := by decide +kernel
      refine q_s hB (fun _ _ k => z_aload hB rfl k) (fun hB => ?_)
      refine q_s hB (fun _ _ k => z_iload hB rfl k) (fun hB => ?_)
      refine q_s hB (fun _ _ k => z_cst hB k) (fun hB => ?_)
      refine q_s hB (fun _ _ k => z_callV hB (rest := []) rfl rfl rfl (z_ok0 ok).1 (z_ok0 ok).2 k1 k) (fun hB => ?_)
      refine q_s hB (fun _ _ k => z_istore hB rfl rfl k) (fun hB => ?_)
      refine q_s hB (fun _ _ k => z_aload hB rfl k) (fun hB => ?_)
      refine q_s hB (fun _ _ k => z_iload hB rfl k) (fun hB => ?_)
      refine q_s hB (fun _ _ k => z_cst hB k) (fun hB => ?_)
      refine q_s hB (fun _ _ k => z_callV hB (rest := []) rfl rfl rfl (z_ok0 ok).1 (z_ok0 ok).2 k2 k) (fun hB => ?_)
      refine q_s hB (fun _ _ k => z_if_ne hB (fun h _ => absurd (rfl) h) (fun _ => k)) (fun hB => ?_)
      refine q_s hB (fun _ _ k => z_aload hB rfl k) (fun hB => ?_)
      refine q_s hB (fun _ _ k => z_iload hB rfl k) (fun hB => ?_)
      refine q_s hB (fun _ _ k => z_cst hB k) (fun hB => ?_)
      refine q_s hB (fun _ _ k => z_callV hB (rest := []) rfl rfl rfl (z_ok0 ok).1 (z_ok0 ok).2 k3 k) (fun hB => ?_)
      refine q_s hB (fun _ _ k => z_if_le hB (fun _ => k) (fun h _ => absurd h (y3))) (fun hB => ?_)
      refine q_s hB (fun _ _ k => z_cst hB k) (fun hB => ?_)
      refine q_s hB (fun _ _ k => z_istore hB rfl rfl k) (fun hB => ?_)
      refine q_s hB (fun _ _ k => z_iload hB rfl k) (fun hB => ?_)
      refine q_s hB (fun _ _ k => z_if_eq hB (fun _ => k) (fun h _ => absurd (rfl) h)) (fun hB => ?_)
      refine q_s hB (fun _ _ k => z_goto hB k) (fun hB => ?_)
      exact fin.no h hp hE
theorem irn_s {L : LL} {f x : Nat} : ∀ n k, qs (Lirn L f x n) k = qs L k
  | 0, _ => rfl
  | n + 1, k => irn_s n k
theorem iron_h0 {L : LL} {f : Nat} {x : Int32} (y : yiron L f x = jn 0) : qf L f 8 = jn 0 := by
  unfold yiron at y
  by_cases q : qf L f 8 = jn 0
  · exact q
  · rw [if_neg q] at y; exact absurd y (by decide)
theorem Pm_irn {L : LL} (h : PmL L) {f x : Nat} (h8 : qf L f 8 = jn 0) : ∀ n, PmL (Lirn L f x n)
  | 0 => h
  | n + 1 => by
    have k03 : ¬ jn 0 = jn 3 := by decide
    have e : qf (Lirn L f x n) f 8 = jn 0 := (irn_f n f 8 (by omega)).trans h8
    exact Pm_lf (Pm_lf (Pm_irn h h8 n) (Or.inr (Or.inl rfl)) (by rw [e]; exact k03)) (Or.inl rfl) (by rw [lf_ne (by omega), e]; exact k03)
theorem n_ir_lp (ok : z_Ok G w) (hn : z_fc w n) (h : cIv n L U V (w_I w)) (hp : PmL L) (hE : Exz z L) (hf : f < qF L) (hx : x < 4) (fin : LFin z G P w n L V (fun y16 y17 y18 => [some (.ref ev_S), some (.ref 0), some (.ref 241), some (.ref d), some (.ref s), some (.ref a), some (.ref b), x7, x8, x9, some (.int (jn f)), some (.int (jn t)), some (.int (jn x)), some (.int (jn m)), some (.int (jn r)), some (.int u), y16, y17, y18])) (y : yiron L f (jn x) = jn 0) {mm : Nat} (hm : mm < 10) (b1 : ∀ i, i < mm → ¬ qf (Lirn L f x i) f 5 = jn 0) (b2 : qf (Lirn L f x mm) f 5 = jn 0) : ∀ (k i : Nat) (J : z_H) (U2 : List LL), i + k = mm → cIv n (Lirn L f x i) U2 V J → z_Q G 216 608 [some (.ref ev_S), some (.ref 0), some (.ref 241), some (.ref d), some (.ref s), some (.ref a), some (.ref b), x7, x8, x9, some (.int (jn f)), some (.int (jn t)), some (.int (jn x)), some (.int (jn m)), some (.int (jn r)), some (.int u), some (.int (jn mm)), some (.int (jn 0)), some (.int (jn i))] [] (z_w w J) P := by
  intro k
  have g := h.2.2.1
  have hF : ∀ i, qF (Lirn L f x i) = qF L := fun i => congrArg (fun q => q.1) (irn_e i)
  induction k with
  | zero =>
    intro i J U2 e c1
    have e2 : i = mm := by omega
    rw [e2] at c1 ⊢
    have k4 := kc_flag (w := z_w w J) ok hn c1 (f := f) (k := 5) (by rw [hF]; exact hf) (by omega)
    rw [b2] at k4
    have end_ : ∀ y16 y17 y18, z_Q G 216 894 [some (.ref ev_S), some (.ref 0), some (.ref 241), some (.ref d), some (.ref s), some (.ref a), some (.ref b), x7, x8, x9, some (.int (jn f)), some (.int (jn t)), some (.int (jn x)), some (.int (jn m)), some (.int (jn r)), some (.int u), y16, y17, y18] [] (z_w w J) P := fun y16 y17 y18 => fin J _ U2 y16 y17 y18 c1 (Pm_irn hp (iron_h0 y) mm) (irn_e mm) (hE.of (irn_s mm 0) (irn_s mm 5) (irn_s mm 2) (irn_s mm 3))
    rcases Nat.eq_zero_or_pos mm with z0 | z0
    · have hB : z_all [z_is 216 608 (zf_iload 608 18 610), z_is 216 610 (zf_iload 610 16 612), z_is 216 612 (zf_if2 .ge 612 661 615), z_is 216 661 (zf_iload 661 16 663), z_is 216 663 (zf_if1 .le 663 683 666), z_is 216 683 (zf_goto 683 894)] = true := by decide +kernel
      refine q_s hB (fun _ _ k => z_iload hB rfl k) (fun hB => ?_)
      refine q_s hB (fun _ _ k => z_iload hB rfl k) (fun hB => ?_)
      refine q_s hB (fun _ _ k => z_ic_ge hB (fun _ => k) (fun h _ => absurd h ((by rw [jn_lt (by omega) (by omega)]; omega)))) (fun hB => ?_)
      refine q_s hB (fun _ _ k => z_iload hB rfl k) (fun hB => ?_)
      refine q_s hB (fun _ _ k => z_if_le hB (fun _ => k) (fun h _ => absurd h ((by show ¬ jn 0 < jn mm; rw [jn_lt (by omega) (by omega)]; omega)))) (fun hB => ?_)
      refine q_s hB (fun _ _ k => z_goto hB k) (fun hB => ?_)
      exact end_ _ _ _
    · have hB : z_all [z_is 216 608 (zf_iload 608 18 610), z_is 216 610 (zf_iload 610 16 612), z_is 216 612 (zf_if2 .ge 612 661 615), z_is 216 661 (zf_iload 661 16 663), z_is 216 663 (zf_if1 .le 663 683 666), z_is 216 666 (zf_iload 666 17 668), z_is 216 668 (zf_if1 .ne 668 683 671), z_is 216 671 (zf_aload 671 1 672), z_is 216 672 (zf_iload 672 10 674), z_is 216 674 (zf_cst 674 (jn 5) 675), z_is 216 675 (zf_cv 675 109 2 7 678), z_is 216 678 (zf_if1 .eq 678 683 681), z_is 216 683 (zf_goto 683 894)] = true := by decide +kernel
      refine q_s hB (fun _ _ k => z_iload hB rfl k) (fun hB => ?_)
      refine q_s hB (fun _ _ k => z_iload hB rfl k) (fun hB => ?_)
      refine q_s hB (fun _ _ k => z_ic_ge hB (fun _ => k) (fun h _ => absurd h ((by rw [jn_lt (by omega) (by omega)]; omega)))) (fun hB => ?_)
      refine q_s hB (fun _ _ k => z_iload hB rfl k) (fun hB => ?_)
      refine q_s hB (fun _ _ k => z_if_le hB (fun h _ => absurd ((by show jn 0 < jn mm; rw [jn_lt (by omega) (by omega)]; omega)) h) (fun _ => k)) (fun hB => ?_)
      refine q_s hB (fun _ _ k => z_iload hB rfl k) (fun hB => ?_)
      refine q_s hB (fun _ _ k => z_if_ne hB (fun h _ => absurd (rfl) h) (fun _ => k)) (fun hB => ?_)
      refine q_s hB (fun _ _ k => z_aload hB rfl k) (fun hB => ?_)
      refine q_s hB (fun _ _ k => z_iload hB rfl k) (fun hB => ?_)
      refine q_s hB (fun _ _ k => z_cst hB k) (fun hB => ?_)
      refine q_s hB (fun _ _ k => z_callV hB (rest := []) rfl rfl rfl (z_ok0 ok).1 (z_ok0 ok).2 k4 k) (fun hB => ?_)
      refine q_s hB (fun _ _ k => z_if_eq hB (fun _ => k) (fun h _ => absurd (rfl) h)) (fun hB => ?_)
      refine q_s hB (fun _ _ k => z_goto hB k) (fun hB => ?_)
      exact end_ _ _ _
  | succ k ih =>
    intro i J U2 e c1
    have hh : hOk (jn x) := ⟨by rw [jn_lt (by omega) (by omega)]; omega, by rw [jn_lt (by omega) (by omega)]; omega⟩
    obtain ⟨J2, c2, k3⟩ := kd_iron (w := z_w w J) ok hn c1 (k := f) (by rw [hF]; exact hf) hh (irn_why g hf hx y i)
    rcases Nat.lt_or_ge (i + 1) mm with z0 | z0
    · have v1 : ¬ qf (Liron (Lirn L f x i) f (jn x)) f 5 = jn 0 := b1 (i + 1) z0
      have hB : z_all [z_is 216 608 (zf_iload 608 18 610), z_is 216 610 (zf_iload 610 16 612), z_is 216 612 (zf_if2 .ge 612 661 615), z_is 216 615 (zf_iload 615 17 617), z_is 216 617 (zf_if1 .ne 617 661 620), z_is 216 620 (zf_aload 620 1 621), z_is 216 621 (zf_iload 621 10 623), z_is 216 623 (zf_iload 623 12 625), z_is 216 625 (zf_cv 625 131 2 7 628), z_is 216 628 (zf_if1 .ne 628 635 631), z_is 216 635 (zf_cst 635 (jn 0) 636), z_is 216 636 (zf_iload 636 18 638), z_is 216 638 (zf_iload 638 16 640), z_is 216 640 (zf_cst 640 (jn 1) 641), z_is 216 641 (zf_isub 641 642), z_is 216 642 (zf_if2 .ne 642 649 645), z_is 216 649 (zf_cst 649 (jn 0) 650), z_is 216 650 (zf_if2 .eq 650 655 653), z_is 216 655 (zf_iinc 655 18 (jn 1) 658), z_is 216 658 (zf_goto 658 608)] = true := by decide +kernel
      refine q_s hB (fun _ _ k => z_iload hB rfl k) (fun hB => ?_)
      refine q_s hB (fun _ _ k => z_iload hB rfl k) (fun hB => ?_)
      refine q_s hB (fun _ _ k => z_ic_ge hB (fun h _ => absurd ((by rw [jn_lt (by omega) (by omega)]; omega)) h) (fun _ => k)) (fun hB => ?_)
      refine q_s hB (fun _ _ k => z_iload hB rfl k) (fun hB => ?_)
      refine q_s hB (fun _ _ k => z_if_ne hB (fun h _ => absurd (rfl) h) (fun _ => k)) (fun hB => ?_)
      refine q_s hB (fun _ _ k => z_aload hB rfl k) (fun hB => ?_)
      refine q_s hB (fun _ _ k => z_iload hB rfl k) (fun hB => ?_)
      refine q_s hB (fun _ _ k => z_iload hB rfl k) (fun hB => ?_)
      refine q_s hB (fun _ _ k => z_callV hB (rest := []) rfl rfl rfl (z_ok0 ok).1 (z_ok0 ok).2 k3 k) (fun hB => ?_)
      refine q_s hB (fun _ _ k => z_if_ne hB (fun _ => k) (fun h _ => absurd h (v1))) (fun hB => ?_)
      refine q_s hB (fun _ _ k => z_cst hB k) (fun hB => ?_)
      refine q_s hB (fun _ _ k => z_iload hB rfl k) (fun hB => ?_)
      refine q_s hB (fun _ _ k => z_iload hB rfl k) (fun hB => ?_)
      refine q_s hB (fun _ _ k => z_cst hB k) (fun hB => ?_)
      refine q_s hB (fun _ _ k => z_isub hB k) (fun hB => ?_)
      refine q_s hB (fun _ _ k => z_ic_ne hB (fun _ => k) (fun h _ => absurd h ((by rw [jn_sub (by omega), jn_eq (by omega) (by omega)]; omega)))) (fun hB => ?_)
      refine q_s hB (fun _ _ k => z_cst hB k) (fun hB => ?_)
      refine q_s hB (fun _ _ k => z_ic_eq hB (fun _ => k) (fun h _ => absurd (rfl) h)) (fun hB => ?_)
      refine q_s hB (fun _ _ k => z_iinc hB rfl rfl k) (fun hB => ?_)
      refine q_s hB (fun _ _ k => z_goto hB k) (fun hB => ?_)
      rw [jn_add]
      exact ih (i + 1) J2 _ (by omega) c2
    · have e3 : i + 1 = mm := by omega
      have v1 : qf (Liron (Lirn L f x i) f (jn x)) f 5 = jn 0 := by
        rw [← e3] at b2
        exact b2
      have hB : z_all [z_is 216 608 (zf_iload 608 18 610), z_is 216 610 (zf_iload 610 16 612), z_is 216 612 (zf_if2 .ge 612 661 615), z_is 216 615 (zf_iload 615 17 617), z_is 216 617 (zf_if1 .ne 617 661 620), z_is 216 620 (zf_aload 620 1 621), z_is 216 621 (zf_iload 621 10 623), z_is 216 623 (zf_iload 623 12 625), z_is 216 625 (zf_cv 625 131 2 7 628), z_is 216 628 (zf_if1 .ne 628 635 631), z_is 216 631 (zf_cst 631 (jn 1) 632), z_is 216 632 (zf_goto 632 636), z_is 216 636 (zf_iload 636 18 638), z_is 216 638 (zf_iload 638 16 640), z_is 216 640 (zf_cst 640 (jn 1) 641), z_is 216 641 (zf_isub 641 642), z_is 216 642 (zf_if2 .ne 642 649 645), z_is 216 645 (zf_cst 645 (jn 1) 646), z_is 216 646 (zf_goto 646 650), z_is 216 650 (zf_if2 .eq 650 655 653), z_is 216 655 (zf_iinc 655 18 (jn 1) 658), z_is 216 658 (zf_goto 658 608)] = true := by decide +kernel
      refine q_s hB (fun _ _ k => z_iload hB rfl k) (fun hB => ?_)
      refine q_s hB (fun _ _ k => z_iload hB rfl k) (fun hB => ?_)
      refine q_s hB (fun _ _ k => z_ic_ge hB (fun h _ => absurd ((by rw [jn_lt (by omega) (by omega)]; omega)) h) (fun _ => k)) (fun hB => ?_)
      refine q_s hB (fun _ _ k => z_iload hB rfl k) (fun hB => ?_)
      refine q_s hB (fun _ _ k => z_if_ne hB (fun h _ => absurd (rfl) h) (fun _ => k)) (fun hB => ?_)
      refine q_s hB (fun _ _ k => z_aload hB rfl k) (fun hB => ?_)
      refine q_s hB (fun _ _ k => z_iload hB rfl k) (fun hB => ?_)
      refine q_s hB (fun _ _ k => z_iload hB rfl k) (fun hB => ?_)
      refine q_s hB (fun _ _ k => z_callV hB (rest := []) rfl rfl rfl (z_ok0 ok).1 (z_ok0 ok).2 k3 k) (fun hB => ?_)
      refine q_s hB (fun _ _ k => z_if_ne hB (fun h _ => absurd (v1) h) (fun _ => k)) (fun hB => ?_)
      refine q_s hB (fun _ _ k => z_cst hB k) (fun hB => ?_)
      refine q_s hB (fun _ _ k => z_goto hB k) (fun hB => ?_)
      refine q_s hB (fun _ _ k => z_iload hB rfl k) (fun hB => ?_)
      refine q_s hB (fun _ _ k => z_iload hB rfl k) (fun hB => ?_)
      refine q_s hB (fun _ _ k => z_cst hB k) (fun hB => ?_)
      refine q_s hB (fun _ _ k => z_isub hB k) (fun hB => ?_)
      refine q_s hB (fun _ _ k => z_ic_ne hB (fun h _ => absurd ((by rw [jn_sub (by omega)]; congr 1; omega)) h) (fun _ => k)) (fun hB => ?_)
      refine q_s hB (fun _ _ k => z_cst hB k) (fun hB => ?_)
      refine q_s hB (fun _ _ k => z_goto hB k) (fun hB => ?_)
      refine q_s hB (fun _ _ k => z_ic_eq hB (fun _ => k) (fun h _ => absurd (rfl) h)) (fun hB => ?_)
      refine q_s hB (fun _ _ k => z_iinc hB rfl rfl k) (fun hB => ?_)
      refine q_s hB (fun _ _ k => z_goto hB k) (fun hB => ?_)
      rw [jn_add]
      exact ih (i + 1) J2 _ (by omega) c2

theorem lc_iron (ok : z_Ok G w) (hn : z_fc w n) (h : cIv n L U V (w_I w)) (hp : PmL L) (hE : Exz z L) (hf : f < qF L) (hx : x < 4) (fin : LFin z G P w n L V (fun y16 y17 y18 => [some (.ref ev_S), some (.ref 0), some (.ref 241), some (.ref d), some (.ref s), some (.ref a), some (.ref b), x7, x8, x9, some (.int (jn f)), some (.int (jn t)), some (.int (jn x)), some (.int (jn m)), some (.int (jn r)), some (.int u), y16, y17, y18])) : z_Q G 216 585 [some (.ref ev_S), some (.ref 0), some (.ref 241), some (.ref d), some (.ref s), some (.ref a), some (.ref b), x7, x8, x9, some (.int (jn f)), some (.int (jn t)), some (.int (jn x)), some (.int (jn m)), some (.int (jn r)), some (.int u), x16, x17, x18] [] w P := by
  have g := h.2.2.1
  have hh : hOk (jn x) := ⟨by rw [jn_lt (by omega) (by omega)]; omega, by rw [jn_lt (by omega) (by omega)]; omega⟩
  obtain ⟨q, e, hq⟩ := cr_ironsFor h hf hx
  have k1 := t_F_ironsFor ok hn (I := w_I w) e
  rw [z_w_w] at k1
  have k2 := kc_whyNotIron ok hn h hf hh
  by_cases y : yiron L f (jn x) = jn 0
  · obtain ⟨mm, rfl, hm, b1, b2⟩ := hq y
    rw [y] at k2
    have hB : z_all [z_is 216 585 (zf_aload 585 1 586), z_is 216 586 (zf_iload 586 10 588), z_is 216 588 (zf_iload 588 12 590), z_is 216 590 (zf_cv 590 127 2 7 593), z_is 216 593 (zf_istore 593 16 595), z_is 216 595 (zf_aload 595 1 596), z_is 216 596 (zf_iload 596 10 598), z_is 216 598 (zf_iload 598 12 600), z_is 216 600 (zf_cv 600 118 2 7 603), z_is 216 603 (zf_istore 603 17 605), z_is 216 605 (zf_cst 605 (jn 0) 606), z_is 216 606 (zf_istore 606 18 608)] = true := by decide +kernel
    refine q_s hB (fun _ _ k => z_aload hB rfl k) (fun hB => ?_)
    refine q_s hB (fun _ _ k => z_iload hB rfl k) (fun hB => ?_)
    refine q_s hB (fun _ _ k => z_iload hB rfl k) (fun hB => ?_)
    refine q_s hB (fun _ _ k => z_callV hB (rest := []) rfl rfl rfl (z_ok0 ok).1 (z_ok0 ok).2 k1 k) (fun hB => ?_)
    refine q_s hB (fun _ _ k => z_istore hB rfl rfl k) (fun hB => ?_)
    refine q_s hB (fun _ _ k => z_aload hB rfl k) (fun hB => ?_)
    refine q_s hB (fun _ _ k => z_iload hB rfl k) (fun hB => ?_)
    refine q_s hB (fun _ _ k => z_iload hB rfl k) (fun hB => ?_)
    refine q_s hB (fun _ _ k => z_callV hB (rest := []) rfl rfl rfl (z_ok0 ok).1 (z_ok0 ok).2 k2 k) (fun hB => ?_)
    refine q_s hB (fun _ _ k => z_istore hB rfl rfl k) (fun hB => ?_)
    refine q_s hB (fun _ _ k => z_cst hB k) (fun hB => ?_)
    refine q_s hB (fun _ _ k => z_istore hB rfl rfl k) (fun hB => ?_)
    have e9 := n_ir_lp ok hn h hp hE hf hx fin y hm b1 b2 mm 0 (w_I w) U (by omega) h
    rw [z_w_w] at e9
    exact e9
  · by_cases c0 : jn 0 < q
    · have hB : z_all [z_is 216 585 (zf_aload 585 1 586), z_is 216 586 (zf_iload 586 10 588), z_is 216 588 (zf_iload 588 12 590), z_is 216 590 (zf_cv 590 127 2 7 593), z_is 216 593 (zf_istore 593 16 595), z_is 216 595 (zf_aload 595 1 596), z_is 216 596 (zf_iload 596 10 598), z_is 216 598 (zf_iload 598 12 600), z_is 216 600 (zf_cv 600 118 2 7 603), z_is 216 603 (zf_istore 603 17 605), z_is 216 605 (zf_cst 605 (jn 0) 606), z_is 216 606 (zf_istore 606 18 608), z_is 216 608 (zf_iload 608 18 610), z_is 216 610 (zf_iload 610 16 612), z_is 216 612 (zf_if2 .ge 612 661 615), z_is 216 615 (zf_iload 615 17 617), z_is 216 617 (zf_if1 .ne 617 661 620), z_is 216 661 (zf_iload 661 16 663), z_is 216 663 (zf_if1 .le 663 683 666), z_is 216 666 (zf_iload 666 17 668), z_is 216 668 (zf_if1 .ne 668 683 671), z_is 216 683 (zf_goto 683 894)] = true := by decide +kernel
      refine q_s hB (fun _ _ k => z_aload hB rfl k) (fun hB => ?_)
      refine q_s hB (fun _ _ k => z_iload hB rfl k) (fun hB => ?_)
      refine q_s hB (fun _ _ k => z_iload hB rfl k) (fun hB => ?_)
      refine q_s hB (fun _ _ k => z_callV hB (rest := []) rfl rfl rfl (z_ok0 ok).1 (z_ok0 ok).2 k1 k) (fun hB => ?_)
      refine q_s hB (fun _ _ k => z_istore hB rfl rfl k) (fun hB => ?_)
      refine q_s hB (fun _ _ k => z_aload hB rfl k) (fun hB => ?_)
      refine q_s hB (fun _ _ k => z_iload hB rfl k) (fun hB => ?_)
      refine q_s hB (fun _ _ k => z_iload hB rfl k) (fun hB => ?_)
      refine q_s hB (fun _ _ k => z_callV hB (rest := []) rfl rfl rfl (z_ok0 ok).1 (z_ok0 ok).2 k2 k) (fun hB => ?_)
      refine q_s hB (fun _ _ k => z_istore hB rfl rfl k) (fun hB => ?_)
      refine q_s hB (fun _ _ k => z_cst hB k) (fun hB => ?_)
      refine q_s hB (fun _ _ k => z_istore hB rfl rfl k) (fun hB => ?_)
      refine q_s hB (fun _ _ k => z_iload hB rfl k) (fun hB => ?_)
      refine q_s hB (fun _ _ k => z_iload hB rfl k) (fun hB => ?_)
      refine q_s hB (fun _ _ k => z_ic_ge hB (fun h _ => absurd (c0) h) (fun _ => k)) (fun hB => ?_)
      refine q_s hB (fun _ _ k => z_iload hB rfl k) (fun hB => ?_)
      refine q_s hB (fun _ _ k => z_if_ne hB (fun _ => k) (fun h _ => absurd h (y))) (fun hB => ?_)
      refine q_s hB (fun _ _ k => z_iload hB rfl k) (fun hB => ?_)
      refine q_s hB (fun _ _ k => z_if_le hB (fun h _ => absurd (c0) h) (fun _ => k)) (fun hB => ?_)
      refine q_s hB (fun _ _ k => z_iload hB rfl k) (fun hB => ?_)
      refine q_s hB (fun _ _ k => z_if_ne hB (fun _ => k) (fun h _ => absurd h (y))) (fun hB => ?_)
      refine q_s hB (fun _ _ k => z_goto hB k) (fun hB => ?_)
      exact fin.no h hp hE
    · have hB : z_all [z_is 216 585 (zf_aload 585 1 586), z_is 216 586 (zf_iload 586 10 588), z_is 216 588 (zf_iload 588 12 590), z_is 216 590 (zf_cv 590 127 2 7 593), z_is 216 593 (zf_istore 593 16 595), z_is 216 595 (zf_aload 595 1 596), z_is 216 596 (zf_iload 596 10 598), z_is 216 598 (zf_iload 598 12 600), z_is 216 600 (zf_cv 600 118 2 7 603), z_is 216 603 (zf_istore 603 17 605), z_is 216 605 (zf_cst 605 (jn 0) 606), z_is 216 606 (zf_istore 606 18 608), z_is 216 608 (zf_iload 608 18 610), z_is 216 610 (zf_iload 610 16 612), z_is 216 612 (zf_if2 .ge 612 661 615), z_is 216 661 (zf_iload 661 16 663), z_is 216 663 (zf_if1 .le 663 683 666), z_is 216 683 (zf_goto 683 894)] = true := by decide +kernel
      refine q_s hB (fun _ _ k => z_aload hB rfl k) (fun hB => ?_)
      refine q_s hB (fun _ _ k => z_iload hB rfl k) (fun hB => ?_)
      refine q_s hB (fun _ _ k => z_iload hB rfl k) (fun hB => ?_)
      refine q_s hB (fun _ _ k => z_callV hB (rest := []) rfl rfl rfl (z_ok0 ok).1 (z_ok0 ok).2 k1 k) (fun hB => ?_)
      refine q_s hB (fun _ _ k => z_istore hB rfl rfl k) (fun hB => ?_)
      refine q_s hB (fun _ _ k => z_aload hB rfl k) (fun hB => ?_)
      refine q_s hB (fun _ _ k => z_iload hB rfl k) (fun hB => ?_)
      refine q_s hB (fun _ _ k => z_iload hB rfl k) (fun hB => ?_)
      refine q_s hB (fun _ _ k => z_callV hB (rest := []) rfl rfl rfl (z_ok0 ok).1 (z_ok0 ok).2 k2 k) (fun hB => ?_)
      refine q_s hB (fun _ _ k => z_istore hB rfl rfl k) (fun hB => ?_)
      refine q_s hB (fun _ _ k => z_cst hB k) (fun hB => ?_)
      refine q_s hB (fun _ _ k => z_istore hB rfl rfl k) (fun hB => ?_)
      refine q_s hB (fun _ _ k => z_iload hB rfl k) (fun hB => ?_)
      refine q_s hB (fun _ _ k => z_iload hB rfl k) (fun hB => ?_)
      refine q_s hB (fun _ _ k => z_ic_ge hB (fun _ => k) (fun h _ => absurd h (c0))) (fun hB => ?_)
      refine q_s hB (fun _ _ k => z_iload hB rfl k) (fun hB => ?_)
      refine q_s hB (fun _ _ k => z_if_le hB (fun _ => k) (fun h _ => absurd h (c0))) (fun hB => ?_)
      refine q_s hB (fun _ _ k => z_goto hB k) (fun hB => ?_)
      exact fin.no h hp hE
end CASE
