/-! the law's sees and areOwn; Arrays.fill: by wip/gen/p64/j98t.py -/
/-- the row of longs a holds f -/
def w_tJ (w : ev_W) (a : Nat) (f : Nat → Int64) : ev_W := (w.1, w.2.1, w.2.2.1, w.2.2.2.1, w.2.2.2.2.1, w.2.2.2.2.2.1, w.2.2.2.2.2.2.1, w.2.2.2.2.2.2.2.1, ev_u1 w.2.2.2.2.2.2.2.2.1 a f, w.2.2.2.2.2.2.2.2.2)
def jlp (f : Nat → Int64) (i : Nat) (x : Int64) : Nat → Int64 := fun k => if k = i then x else f k
theorem tJ_at {w : ev_W} {a : Nat} {f : Nat → Int64} : w_J (w_tJ w a f) a = f := ev_u1_at _ _ _
theorem tJ_ne {w : ev_W} {a b : Nat} {f : Nat → Int64} (h : ¬ b = a) : w_J (w_tJ w a f) b = w_J w b := if_neg h
theorem tJ_s {w : ev_W} {a i : Nat} {f : Nat → Int64} {x : Int64} : w_sJ (w_tJ w a f) a i x = w_tJ w a (jlp f i x) := by
  have h : ev_u2 (ev_u1 (w_J w) a f) a i x = ev_u1 (w_J w) a (jlp f i x) := by
    funext b k
    unfold ev_u2 ev_u1 jlp
    by_cases q : b = a
    · simp only [if_pos q]
    · simp only [if_neg q]
  show (w.1, w.2.1, w.2.2.1, w.2.2.2.1, w.2.2.2.2.1, w.2.2.2.2.2.1, w.2.2.2.2.2.2.1, w.2.2.2.2.2.2.2.1, ev_u2 (ev_u1 (w_J w) a f) a i x, w.2.2.2.2.2.2.2.2.2) = _
  rw [h]
  all_goals rfl
theorem tJ_w {w : ev_W} {a : Nat} : w_tJ w a (w_J w a) = w := by
  have h : ev_u1 (w_J w) a (w_J w a) = w_J w := by
    funext b
    unfold ev_u1
    by_cases q : b = a
    · rw [if_pos q, q]
    · rw [if_neg q]
  show (w.1, w.2.1, w.2.2.1, w.2.2.2.1, w.2.2.2.2.1, w.2.2.2.2.2.1, w.2.2.2.2.2.2.1, w.2.2.2.2.2.2.2.1, ev_u1 (w_J w) a (w_J w a), w.2.2.2.2.2.2.2.2.2) = w
  rw [h]
  all_goals rfl
theorem n_fl_lp {G : z_G} (hl : G.2.2.stackTraces = false) {w : ev_W} {a N : Nat} {x : Int64} (ha : a < w_n w ∧ w_K w a = 14 ∧ w_L w a = N) (hN : N ≤ 1000) : ∀ (k i : Nat) (f : Nat → Int64), i + k = N → (∀ c, c < i → f c = x) → z_Q G 204 6 [some (.ref a), some (.long x), none, some (.int (jn i)), some (.int (jn N))] [] (w_tJ w a f) (fun v w1 => v = none ∧ ∃ g, w1 = w_tJ w a g ∧ ∀ c, c < N → g c = x) := by
  intro k
  induction k with
  | zero =>
    intro i f e hf
    have hB : z_all [z_is 204 6 (zf_iload 6 3 7), z_is 204 7 (zf_iload 7 4 9), z_is 204 9 (zf_if2 .ge 9 22 12), z_is 204 22 (zf_ret 6)] = true := by decide +kernel
    refine q_s hB (fun _ _ k => z_iload hB rfl k) (fun hB => ?_)
    refine q_s hB (fun _ _ k => z_iload hB rfl k) (fun hB => ?_)
    refine q_s hB (fun _ _ k => z_ic_ge hB (fun _ => k) (fun h _ => absurd h ((by rw [jn_lt (by omega) (by omega)]; omega)))) (fun hB => ?_)
    exact q_r (z_retv hB) ⟨rfl, f, rfl, fun c hc => hf c (by omega)⟩
  | succ k ih =>
    intro i f e hf
    have hB : z_all [z_is 204 6 (zf_iload 6 3 7), z_is 204 7 (zf_iload 7 4 9), z_is 204 9 (zf_if2 .ge 9 22 12), z_is 204 12 (zf_aload 12 0 13), z_is 204 13 (zf_iload 13 3 14), z_at 204 14 (zx_lload 14 1 15), z_at 204 15 (zx_last 15 16), z_is 204 16 (zf_iinc 16 3 (jn 1) 19), z_is 204 19 (zf_goto 19 6)] = true := by decide +kernel
    refine q_s hB (fun _ _ k => z_iload hB rfl k) (fun hB => ?_)
    refine q_s hB (fun _ _ k => z_iload hB rfl k) (fun hB => ?_)
    refine q_s hB (fun _ _ k => z_ic_ge hB (fun h _ => absurd ((by rw [jn_lt (by omega) (by omega)]; omega)) h) (fun _ => k)) (fun hB => ?_)
    refine q_s hB (fun _ _ k => z_aload hB rfl k) (fun hB => ?_)
    refine q_s hB (fun _ _ k => z_iload hB rfl k) (fun hB => ?_)
    refine q_s hB (fun _ _ k => x_lload hB rfl k) (fun hB => ?_)
    refine q_s hB (fun _ _ k => x_last hB ha.1 ha.2.1 (by show ev_ok _ (w_L w a) = true; rw [ha.2.2]; exact jn_ok (by omega) (by omega)) k) (fun hB => ?_)
    rw [jn_n (by omega), tJ_s]
    refine q_s hB (fun _ _ k => z_iinc hB rfl rfl k) (fun hB => ?_)
    rw [jn_add]
    refine q_s hB (fun _ _ k => z_goto hB k) (fun hB => ?_)
    refine ih (i + 1) (jlp f i x) (by omega) (fun c hc => ?_)
    unfold jlp
    by_cases q : c = i
    · rw [if_pos q]
    · rw [if_neg q]; exact hf c (by omega)
theorem n_fill {G : z_G} {w : ev_W} (hl : G.2.2.stackTraces = false) {a N : Nat} {x : Int64} (ha : a < w_n w ∧ w_K w a = 14 ∧ w_L w a = N) (hN : N ≤ 1000) : z_N G 204 [.ref a, .long x] w (fun v w1 => v = none ∧ ∃ g, w1 = w_tJ w a g ∧ ∀ c, c < N → g c = x) := by
  refine q_conL hl (ml := 5) (by decide +kernel) rfl ?_
  have hB : z_all [z_is 204 0 (zf_cst 0 (jn 0) 1), z_is 204 1 (zf_istore 1 3 2), z_is 204 2 (zf_aload 2 0 3), z_at 204 3 (zx_alen 3 4), z_is 204 4 (zf_istore 4 4 6)] = true := by decide +kernel
  refine q_s hB (fun _ _ k => z_cst hB k) (fun hB => ?_)
  refine q_s hB (fun _ _ k => z_istore hB rfl rfl k) (fun hB => ?_)
  refine q_s hB (fun _ _ k => z_aload hB rfl k) (fun hB => ?_)
  refine q_s hB (fun _ _ k => x_alen hB ha.1 (by rw [ha.2.1]; omega) (by rw [ha.2.1]; omega) k) (fun hB => ?_)
  rw [ha.2.2, show Int32.ofNat N = jn N from rfl]
  refine q_s hB (fun _ _ k => z_istore hB rfl rfl k) (fun hB => ?_)
  have h := n_fl_lp hl ha hN N 0 (w_J w a) (by omega) (fun c hc => absurd hc (Nat.not_lt_zero _)) (x := x)
  rw [tJ_w] at h
  exact h
section KC
variable {G : z_G} {w : ev_W} {n : Nat} {L : LL} {U : List LL} {V : Nat → Option LL}
theorem kc_count (ok : z_Ok G w) (hn : z_fc w n) (h : cIv n L U V (w_I w)) {k : Nat} (hk : k < 16) : z_K G 107 [.ref 0, .int (jn k)] w (.inl (some (.int (ycount L k)))) w := by
  have k9 := t_F_count ok hn (I := w_I w) (cr_count h hk)
  rw [z_w_w] at k9
  exact k9
theorem kc_flag (ok : z_Ok G w) (hn : z_fc w n) (h : cIv n L U V (w_I w)) {f k : Nat} (hf : f < qF L) (hk : k < 10) : z_K G 109 [.ref 0, .int (jn f), .int (jn k)] w (.inl (some (.int (qf L f k)))) w := by
  have k9 := t_F_flag ok hn (I := w_I w) (cr_flag h hf hk)
  rw [z_w_w] at k9
  exact k9
theorem kc_nation (ok : z_Ok G w) (hn : z_fc w n) (h : cIv n L U V (w_I w)) {f k : Nat} (hf : f < qN L) (hk : k < 7) : z_K G 108 [.ref 0, .int (jn f), .int (jn k)] w (.inl (some (.int (ynat L f k)))) w := by
  have k9 := t_F_nation ok hn (I := w_I w) (cr_nation h hf hk)
  rw [z_w_w] at k9
  exact k9
theorem kc_inTub (ok : z_Ok G w) (hn : z_fc w n) (h : cIv n L U V (w_I w)) {f : Nat} (hf : f < qT L) {x : Int32} : z_K G 111 [.ref 0, .int (jn f), .int x] w (.inl (some (.int (yin L f x)))) w := by
  have k9 := t_F_inTub ok hn (I := w_I w) (cr_inTub h hf (x2 := x))
  rw [z_w_w] at k9
  exact k9
theorem kc_gap (ok : z_Ok G w) (hn : z_fc w n) (h : cIv n L U V (w_I w)) : z_K G 113 [.ref 0] w (.inl (some (.int (ygap L)))) w := by
  have k9 := t_F_gap ok hn (I := w_I w) (cr_gap h)
  rw [z_w_w] at k9
  exact k9
theorem kc_tub1 (ok : z_Ok G w) (hn : z_fc w n) (h : cIv n L U V (w_I w)) {t : Nat} (ht : t < qT L) : z_K G 110 [.ref 0, .int (jn t), .int (jn 1)] w (.inl (some (.int (jn (qt L t).length)))) w := by
  have k9 := t_F_tub ok hn (I := w_I w) (cr_tub1 h ht)
  rw [z_w_w] at k9
  exact k9
end KC
/-- what is seen of a laundry -/
def hsh (v : Nat → Int32) : Nat → Int64
  | 0 => Int64.ofNat 0
  | k + 1 => 31 * hsh v k + (v k).toInt64
def svL (L : LL) (i : Nat) : Int64 := if i < 16 then (ycount L i).toInt64 else if 20 ≤ i ∧ i < 20 + qF L then hsh (fun k => qf L (i - 20) k) 10 else if 40 ≤ i ∧ i < 40 + qN L then hsh (fun k => ynat L (i - 40) k) 7 else if 50 ≤ i ∧ i < 50 + qT L then hsh (fun k => yin L (i - 50) (jn k)) 6 else Int64.ofNat 0
theorem n_se1 {G : z_G} (hl : G.2.2.stackTraces = false) {P : Option Value → ev_W → Prop} {w : ev_W} {n a : Nat} {L : LL} {U : List LL} {V : Nat → Option LL} (ok : z_Ok G w) (hn : z_fc w n) (h : cIv n L U V (w_I w)) (ha : a < w_n w ∧ w_K w a = 14 ∧ w_L w a = 100) {x3 : Option Value} : ∀ (k i : Nat) (f : Nat → Int64), i + k = 16 → (∀ c, c < i → f c = svL L c) → (∀ c, 16 ≤ c → c < 100 → f c = Int64.ofNat 0) → (∀ g, (∀ c, c < 16 → g c = svL L c) → (∀ c, 16 ≤ c → c < 100 → g c = Int64.ofNat 0) → z_Q G 162 28 [some (.ref 0), some (.ref a), some (.int (jn 16)), x3] [] (w_tJ w a g) P) → z_Q G 162 7 [some (.ref 0), some (.ref a), some (.int (jn i)), x3] [] (w_tJ w a f) P := by
  intro k
  induction k with
  | zero =>
    intro i f e h1 h2 fin
    have e2 : i = 16 := by omega
    rw [e2]
    have hB : z_all [z_is 162 7 (zf_iload 7 2 8), z_is 162 8 (zf_cst 8 (jn 16) 10), z_is 162 10 (zf_if2 .ge 10 28 13)] = true := by decide +kernel
    refine q_s hB (fun _ _ k => z_iload hB rfl k) (fun hB => ?_)
    refine q_s hB (fun _ _ k => z_cst hB k) (fun hB => ?_)
    refine q_s hB (fun _ _ k => z_ic_ge hB (fun _ => k) (fun h _ => absurd h ((by decide)))) (fun hB => ?_)
    exact fin f (by rw [← e2]; exact h1) h2
  | succ k ih =>
    intro i f e h1 h2 fin
    have k9 := kc_count (w := w_tJ w a f) ok hn h (k := i) (by omega)
    have hB : z_all [z_is 162 7 (zf_iload 7 2 8), z_is 162 8 (zf_cst 8 (jn 16) 10), z_is 162 10 (zf_if2 .ge 10 28 13), z_is 162 13 (zf_aload 13 1 14), z_is 162 14 (zf_iload 14 2 15), z_is 162 15 (zf_aload 15 0 16), z_is 162 16 (zf_iload 16 2 17), z_is 162 17 (zf_cv 17 107 1 7 20), z_at 162 20 (zx_ilong 20 21), z_at 162 21 (zx_last 21 22), z_is 162 22 (zf_iinc 22 2 (jn 1) 25), z_is 162 25 (zf_goto 25 7)] = true := by decide +kernel
    refine q_s hB (fun _ _ k => z_iload hB rfl k) (fun hB => ?_)
    refine q_s hB (fun _ _ k => z_cst hB k) (fun hB => ?_)
    refine q_s hB (fun _ _ k => z_ic_ge hB (fun h _ => absurd ((by rw [jn_lt (by omega) (by omega)]; omega)) h) (fun _ => k)) (fun hB => ?_)
    refine q_s hB (fun _ _ k => z_aload hB rfl k) (fun hB => ?_)
    refine q_s hB (fun _ _ k => z_iload hB rfl k) (fun hB => ?_)
    refine q_s hB (fun _ _ k => z_aload hB rfl k) (fun hB => ?_)
    refine q_s hB (fun _ _ k => z_iload hB rfl k) (fun hB => ?_)
    refine q_s hB (fun _ _ k => z_callV hB (rest := [.int (jn i), .ref a]) rfl rfl rfl (z_ok0 ok).1 (z_ok0 ok).2 k9 k) (fun hB => ?_)
    refine q_s hB (fun _ _ k => x_ilong hB k) (fun hB => ?_)
    refine q_s hB (fun _ _ k => x_last hB ha.1 ha.2.1 (by show ev_ok _ (w_L w a) = true; rw [ha.2.2]; exact jn_ok (by omega) (by omega)) k) (fun hB => ?_)
    rw [jn_n (by omega), tJ_s]
    refine q_s hB (fun _ _ k => z_iinc hB rfl rfl k) (fun hB => ?_)
    rw [jn_add]
    refine q_s hB (fun _ _ k => z_goto hB k) (fun hB => ?_)
    refine ih (i + 1) (jlp f i (ycount L i).toInt64) (by omega) (fun c hc => ?_) (fun c hc hd => ?_) fin
    · unfold jlp
      by_cases q : c = i
      · rw [if_pos q, q]; unfold svL; rw [if_pos (by omega)]
      · rw [if_neg q]; exact h1 c (by omega)
    · unfold jlp
      rw [if_neg (by omega)]; exact h2 c hc hd
theorem n_sfi {G : z_G} (hl : G.2.2.stackTraces = false) {P : Option Value → ev_W → Prop} {w : ev_W} {n a : Nat} {L : LL} {U : List LL} {V : Nat → Option LL} (ok : z_Ok G w) (hn : z_fc w n) (h : cIv n L U V (w_I w)) (ha : a < w_n w ∧ w_K w a = 14 ∧ w_L w a = 100) {r : Nat} (hr : r < qF L) (h12 : qF L ≤ 12) : ∀ (k i : Nat) (f : Nat → Int64), i + k = 10 → f (20 + r) = hsh (fun k => qf L r k) i → (∀ g, (∀ c, ¬ c = 20 + r → g c = f c) → g (20 + r) = hsh (fun k => qf L r k) 10 → z_Q G 162 77 [some (.ref 0), some (.ref a), some (.int (jn r)), some (.int (jn 10))] [] (w_tJ w a g) P) → z_Q G 162 41 [some (.ref 0), some (.ref a), some (.int (jn r)), some (.int (jn i))] [] (w_tJ w a f) P := by
  intro k
  induction k with
  | zero =>
    intro i f e h1 fin
    have e2 : i = 10 := by omega
    rw [e2]
    have hB : z_all [z_is 162 41 (zf_iload 41 3 42), z_is 162 42 (zf_cst 42 (jn 10) 44), z_is 162 44 (zf_if2 .ge 44 77 47)] = true := by decide +kernel
    refine q_s hB (fun _ _ k => z_iload hB rfl k) (fun hB => ?_)
    refine q_s hB (fun _ _ k => z_cst hB k) (fun hB => ?_)
    refine q_s hB (fun _ _ k => z_ic_ge hB (fun _ => k) (fun h _ => absurd h ((by decide)))) (fun hB => ?_)
    exact fin f (fun _ _ => rfl) (by rw [← e2]; exact h1)
  | succ k ih =>
    intro i f e h1 fin
    have k9 := kc_flag (w := w_tJ w a f) ok hn h hr (k := i) (by omega)
    have hB : z_all [z_is 162 41 (zf_iload 41 3 42), z_is 162 42 (zf_cst 42 (jn 10) 44), z_is 162 44 (zf_if2 .ge 44 77 47), z_is 162 47 (zf_aload 47 1 48), z_is 162 48 (zf_cst 48 (jn 20) 50), z_is 162 50 (zf_iload 50 2 51), z_is 162 51 (zf_iadd 51 52), z_at 162 52 (zx_ldc2 52 55), z_is 162 55 (zf_aload 55 1 56), z_is 162 56 (zf_cst 56 (jn 20) 58), z_is 162 58 (zf_iload 58 2 59), z_is 162 59 (zf_iadd 59 60), z_at 162 60 (zx_lald 60 61), z_at 162 61 (zx_lmul 61 62), z_is 162 62 (zf_aload 62 0 63), z_is 162 63 (zf_iload 63 2 64), z_is 162 64 (zf_iload 64 3 65), z_is 162 65 (zf_cv 65 109 2 7 68), z_at 162 68 (zx_ilong 68 69), z_at 162 69 (zx_ladd 69 70), z_at 162 70 (zx_last 70 71), z_is 162 71 (zf_iinc 71 3 (jn 1) 74), z_is 162 74 (zf_goto 74 41)] = true := by decide +kernel
    refine q_s hB (fun _ _ k => z_iload hB rfl k) (fun hB => ?_)
    refine q_s hB (fun _ _ k => z_cst hB k) (fun hB => ?_)
    refine q_s hB (fun _ _ k => z_ic_ge hB (fun h _ => absurd ((by rw [jn_lt (by omega) (by omega)]; omega)) h) (fun _ => k)) (fun hB => ?_)
    refine q_s hB (fun _ _ k => z_aload hB rfl k) (fun hB => ?_)
    refine q_s hB (fun _ _ k => z_cst hB k) (fun hB => ?_)
    refine q_s hB (fun _ _ k => z_iload hB rfl k) (fun hB => ?_)
    refine q_s hB (fun _ _ k => z_iadd hB k) (fun hB => ?_)
    rw [jn_add]
    refine q_s hB (fun _ _ k => x_ldc2 hB k) (fun hB => ?_)
    refine q_s hB (fun _ _ k => z_aload hB rfl k) (fun hB => ?_)
    refine q_s hB (fun _ _ k => z_cst hB k) (fun hB => ?_)
    refine q_s hB (fun _ _ k => z_iload hB rfl k) (fun hB => ?_)
    refine q_s hB (fun _ _ k => z_iadd hB k) (fun hB => ?_)
    rw [jn_add]
    refine q_s hB (fun _ _ k => x_lald hB ha.1 ha.2.1 (by show ev_ok _ (w_L w a) = true; rw [ha.2.2]; exact jn_ok (by omega) (by omega)) k) (fun hB => ?_)
    rw [jn_n (by omega), tJ_at]
    refine q_s hB (fun _ _ k => x_lmul hB k) (fun hB => ?_)
    refine q_s hB (fun _ _ k => z_aload hB rfl k) (fun hB => ?_)
    refine q_s hB (fun _ _ k => z_iload hB rfl k) (fun hB => ?_)
    refine q_s hB (fun _ _ k => z_iload hB rfl k) (fun hB => ?_)
    refine q_s hB (fun _ _ k => z_callV hB (rest := [.long (31 * f (20 + r)), .int (jn (20 + r)), .ref a]) rfl rfl rfl (z_ok0 ok).1 (z_ok0 ok).2 k9 k) (fun hB => ?_)
    refine q_s hB (fun _ _ k => x_ilong hB k) (fun hB => ?_)
    refine q_s hB (fun _ _ k => x_ladd hB k) (fun hB => ?_)
    refine q_s hB (fun _ _ k => x_last hB ha.1 ha.2.1 (by show ev_ok _ (w_L w a) = true; rw [ha.2.2]; exact jn_ok (by omega) (by omega)) k) (fun hB => ?_)
    rw [jn_n (by omega), tJ_s]
    refine q_s hB (fun _ _ k => z_iinc hB rfl rfl k) (fun hB => ?_)
    rw [jn_add]
    refine q_s hB (fun _ _ k => z_goto hB k) (fun hB => ?_)
    refine ih (i + 1) (jlp f (20 + r) (31 * f (20 + r) + (qf L r i).toInt64)) (by omega) ?_ (fun g g1 g2 => fin g (fun c hc => ?_) g2)
    · show (if 20 + r = 20 + r then 31 * f (20 + r) + (qf L r i).toInt64 else f (20 + r)) = _
      rw [if_pos rfl, h1]
      rfl
    · rw [g1 c hc]
      show (if c = 20 + r then _ else f c) = f c
      rw [if_neg hc]
theorem n_sni {G : z_G} (hl : G.2.2.stackTraces = false) {P : Option Value → ev_W → Prop} {w : ev_W} {n a : Nat} {L : LL} {U : List LL} {V : Nat → Option LL} (ok : z_Ok G w) (hn : z_fc w n) (h : cIv n L U V (w_I w)) (ha : a < w_n w ∧ w_K w a = 14 ∧ w_L w a = 100) {r : Nat} (hr : r < qN L) (h12 : qN L ≤ 4) : ∀ (k i : Nat) (f : Nat → Int64), i + k = 7 → f (40 + r) = hsh (fun k => ynat L r k) i → (∀ g, (∀ c, ¬ c = 40 + r → g c = f c) → g (40 + r) = hsh (fun k => ynat L r k) 7 → z_Q G 162 132 [some (.ref 0), some (.ref a), some (.int (jn r)), some (.int (jn 7))] [] (w_tJ w a g) P) → z_Q G 162 96 [some (.ref 0), some (.ref a), some (.int (jn r)), some (.int (jn i))] [] (w_tJ w a f) P := by
  intro k
  induction k with
  | zero =>
    intro i f e h1 fin
    have e2 : i = 7 := by omega
    rw [e2]
    have hB : z_all [z_is 162 96 (zf_iload 96 3 97), z_is 162 97 (zf_cst 97 (jn 7) 99), z_is 162 99 (zf_if2 .ge 99 132 102)] = true := by decide +kernel
    refine q_s hB (fun _ _ k => z_iload hB rfl k) (fun hB => ?_)
    refine q_s hB (fun _ _ k => z_cst hB k) (fun hB => ?_)
    refine q_s hB (fun _ _ k => z_ic_ge hB (fun _ => k) (fun h _ => absurd h ((by decide)))) (fun hB => ?_)
    exact fin f (fun _ _ => rfl) (by rw [← e2]; exact h1)
  | succ k ih =>
    intro i f e h1 fin
    have k9 := kc_nation (w := w_tJ w a f) ok hn h hr (k := i) (by omega)
    have hB : z_all [z_is 162 96 (zf_iload 96 3 97), z_is 162 97 (zf_cst 97 (jn 7) 99), z_is 162 99 (zf_if2 .ge 99 132 102), z_is 162 102 (zf_aload 102 1 103), z_is 162 103 (zf_cst 103 (jn 40) 105), z_is 162 105 (zf_iload 105 2 106), z_is 162 106 (zf_iadd 106 107), z_at 162 107 (zx_ldc2 107 110), z_is 162 110 (zf_aload 110 1 111), z_is 162 111 (zf_cst 111 (jn 40) 113), z_is 162 113 (zf_iload 113 2 114), z_is 162 114 (zf_iadd 114 115), z_at 162 115 (zx_lald 115 116), z_at 162 116 (zx_lmul 116 117), z_is 162 117 (zf_aload 117 0 118), z_is 162 118 (zf_iload 118 2 119), z_is 162 119 (zf_iload 119 3 120), z_is 162 120 (zf_cv 120 108 2 7 123), z_at 162 123 (zx_ilong 123 124), z_at 162 124 (zx_ladd 124 125), z_at 162 125 (zx_last 125 126), z_is 162 126 (zf_iinc 126 3 (jn 1) 129), z_is 162 129 (zf_goto 129 96)] = true := by decide +kernel
    refine q_s hB (fun _ _ k => z_iload hB rfl k) (fun hB => ?_)
    refine q_s hB (fun _ _ k => z_cst hB k) (fun hB => ?_)
    refine q_s hB (fun _ _ k => z_ic_ge hB (fun h _ => absurd ((by rw [jn_lt (by omega) (by omega)]; omega)) h) (fun _ => k)) (fun hB => ?_)
    refine q_s hB (fun _ _ k => z_aload hB rfl k) (fun hB => ?_)
    refine q_s hB (fun _ _ k => z_cst hB k) (fun hB => ?_)
    refine q_s hB (fun _ _ k => z_iload hB rfl k) (fun hB => ?_)
    refine q_s hB (fun _ _ k => z_iadd hB k) (fun hB => ?_)
    rw [jn_add]
    refine q_s hB (fun _ _ k => x_ldc2 hB k) (fun hB => ?_)
    refine q_s hB (fun _ _ k => z_aload hB rfl k) (fun hB => ?_)
    refine q_s hB (fun _ _ k => z_cst hB k) (fun hB => ?_)
    refine q_s hB (fun _ _ k => z_iload hB rfl k) (fun hB => ?_)
    refine q_s hB (fun _ _ k => z_iadd hB k) (fun hB => ?_)
    rw [jn_add]
    refine q_s hB (fun _ _ k => x_lald hB ha.1 ha.2.1 (by show ev_ok _ (w_L w a) = true; rw [ha.2.2]; exact jn_ok (by omega) (by omega)) k) (fun hB => ?_)
    rw [jn_n (by omega), tJ_at]
    refine q_s hB (fun _ _ k => x_lmul hB k) (fun hB => ?_)
    refine q_s hB (fun _ _ k => z_aload hB rfl k) (fun hB => ?_)
    refine q_s hB (fun _ _ k => z_iload hB rfl k) (fun hB => ?_)
    refine q_s hB (fun _ _ k => z_iload hB rfl k) (fun hB => ?_)
    refine q_s hB (fun _ _ k => z_callV hB (rest := [.long (31 * f (40 + r)), .int (jn (40 + r)), .ref a]) rfl rfl rfl (z_ok0 ok).1 (z_ok0 ok).2 k9 k) (fun hB => ?_)
    refine q_s hB (fun _ _ k => x_ilong hB k) (fun hB => ?_)
    refine q_s hB (fun _ _ k => x_ladd hB k) (fun hB => ?_)
    refine q_s hB (fun _ _ k => x_last hB ha.1 ha.2.1 (by show ev_ok _ (w_L w a) = true; rw [ha.2.2]; exact jn_ok (by omega) (by omega)) k) (fun hB => ?_)
    rw [jn_n (by omega), tJ_s]
    refine q_s hB (fun _ _ k => z_iinc hB rfl rfl k) (fun hB => ?_)
    rw [jn_add]
    refine q_s hB (fun _ _ k => z_goto hB k) (fun hB => ?_)
    refine ih (i + 1) (jlp f (40 + r) (31 * f (40 + r) + (ynat L r i).toInt64)) (by omega) ?_ (fun g g1 g2 => fin g (fun c hc => ?_) g2)
    · show (if 40 + r = 40 + r then 31 * f (40 + r) + (ynat L r i).toInt64 else f (40 + r)) = _
      rw [if_pos rfl, h1]
      rfl
    · rw [g1 c hc]
      show (if c = 40 + r then _ else f c) = f c
      rw [if_neg hc]
theorem n_sti {G : z_G} (hl : G.2.2.stackTraces = false) {P : Option Value → ev_W → Prop} {w : ev_W} {n a : Nat} {L : LL} {U : List LL} {V : Nat → Option LL} (ok : z_Ok G w) (hn : z_fc w n) (h : cIv n L U V (w_I w)) (ha : a < w_n w ∧ w_K w a = 14 ∧ w_L w a = 100) {r : Nat} (hr : r < qT L) (h12 : qT L ≤ 3) : ∀ (k i : Nat) (f : Nat → Int64), i + k = 6 → f (50 + r) = hsh (fun k => yin L r (jn k)) i → (∀ g, (∀ c, ¬ c = 50 + r → g c = f c) → g (50 + r) = hsh (fun k => yin L r (jn k)) 6 → z_Q G 162 187 [some (.ref 0), some (.ref a), some (.int (jn r)), some (.int (jn 6))] [] (w_tJ w a g) P) → z_Q G 162 151 [some (.ref 0), some (.ref a), some (.int (jn r)), some (.int (jn i))] [] (w_tJ w a f) P := by
  intro k
  induction k with
  | zero =>
    intro i f e h1 fin
    have e2 : i = 6 := by omega
    rw [e2]
    have hB : z_all [z_is 162 151 (zf_iload 151 3 152), z_is 162 152 (zf_cst 152 (jn 6) 154), z_is 162 154 (zf_if2 .ge 154 187 157)] = true := by decide +kernel
    refine q_s hB (fun _ _ k => z_iload hB rfl k) (fun hB => ?_)
    refine q_s hB (fun _ _ k => z_cst hB k) (fun hB => ?_)
    refine q_s hB (fun _ _ k => z_ic_ge hB (fun _ => k) (fun h _ => absurd h ((by decide)))) (fun hB => ?_)
    exact fin f (fun _ _ => rfl) (by rw [← e2]; exact h1)
  | succ k ih =>
    intro i f e h1 fin
    have k9 := kc_inTub (w := w_tJ w a f) ok hn h hr (x := jn i)
    have hB : z_all [z_is 162 151 (zf_iload 151 3 152), z_is 162 152 (zf_cst 152 (jn 6) 154), z_is 162 154 (zf_if2 .ge 154 187 157), z_is 162 157 (zf_aload 157 1 158), z_is 162 158 (zf_cst 158 (jn 50) 160), z_is 162 160 (zf_iload 160 2 161), z_is 162 161 (zf_iadd 161 162), z_at 162 162 (zx_ldc2 162 165), z_is 162 165 (zf_aload 165 1 166), z_is 162 166 (zf_cst 166 (jn 50) 168), z_is 162 168 (zf_iload 168 2 169), z_is 162 169 (zf_iadd 169 170), z_at 162 170 (zx_lald 170 171), z_at 162 171 (zx_lmul 171 172), z_is 162 172 (zf_aload 172 0 173), z_is 162 173 (zf_iload 173 2 174), z_is 162 174 (zf_iload 174 3 175), z_is 162 175 (zf_cv 175 111 2 7 178), z_at 162 178 (zx_ilong 178 179), z_at 162 179 (zx_ladd 179 180), z_at 162 180 (zx_last 180 181), z_is 162 181 (zf_iinc 181 3 (jn 1) 184), z_is 162 184 (zf_goto 184 151)] = true := by decide +kernel
    refine q_s hB (fun _ _ k => z_iload hB rfl k) (fun hB => ?_)
    refine q_s hB (fun _ _ k => z_cst hB k) (fun hB => ?_)
    refine q_s hB (fun _ _ k => z_ic_ge hB (fun h _ => absurd ((by rw [jn_lt (by omega) (by omega)]; omega)) h) (fun _ => k)) (fun hB => ?_)
    refine q_s hB (fun _ _ k => z_aload hB rfl k) (fun hB => ?_)
    refine q_s hB (fun _ _ k => z_cst hB k) (fun hB => ?_)
    refine q_s hB (fun _ _ k => z_iload hB rfl k) (fun hB => ?_)
    refine q_s hB (fun _ _ k => z_iadd hB k) (fun hB => ?_)
    rw [jn_add]
    refine q_s hB (fun _ _ k => x_ldc2 hB k) (fun hB => ?_)
    refine q_s hB (fun _ _ k => z_aload hB rfl k) (fun hB => ?_)
    refine q_s hB (fun _ _ k => z_cst hB k) (fun hB => ?_)
    refine q_s hB (fun _ _ k => z_iload hB rfl k) (fun hB => ?_)
    refine q_s hB (fun _ _ k => z_iadd hB k) (fun hB => ?_)
    rw [jn_add]
    refine q_s hB (fun _ _ k => x_lald hB ha.1 ha.2.1 (by show ev_ok _ (w_L w a) = true; rw [ha.2.2]; exact jn_ok (by omega) (by omega)) k) (fun hB => ?_)
    rw [jn_n (by omega), tJ_at]
    refine q_s hB (fun _ _ k => x_lmul hB k) (fun hB => ?_)
    refine q_s hB (fun _ _ k => z_aload hB rfl k) (fun hB => ?_)
    refine q_s hB (fun _ _ k => z_iload hB rfl k) (fun hB => ?_)
    refine q_s hB (fun _ _ k => z_iload hB rfl k) (fun hB => ?_)
    refine q_s hB (fun _ _ k => z_callV hB (rest := [.long (31 * f (50 + r)), .int (jn (50 + r)), .ref a]) rfl rfl rfl (z_ok0 ok).1 (z_ok0 ok).2 k9 k) (fun hB => ?_)
    refine q_s hB (fun _ _ k => x_ilong hB k) (fun hB => ?_)
    refine q_s hB (fun _ _ k => x_ladd hB k) (fun hB => ?_)
    refine q_s hB (fun _ _ k => x_last hB ha.1 ha.2.1 (by show ev_ok _ (w_L w a) = true; rw [ha.2.2]; exact jn_ok (by omega) (by omega)) k) (fun hB => ?_)
    rw [jn_n (by omega), tJ_s]
    refine q_s hB (fun _ _ k => z_iinc hB rfl rfl k) (fun hB => ?_)
    rw [jn_add]
    refine q_s hB (fun _ _ k => z_goto hB k) (fun hB => ?_)
    refine ih (i + 1) (jlp f (50 + r) (31 * f (50 + r) + (yin L r (jn i)).toInt64)) (by omega) ?_ (fun g g1 g2 => fin g (fun c hc => ?_) g2)
    · show (if 50 + r = 50 + r then 31 * f (50 + r) + (yin L r (jn i)).toInt64 else f (50 + r)) = _
      rw [if_pos rfl, h1]
      rfl
    · rw [g1 c hc]
      show (if c = 50 + r then _ else f c) = f c
      rw [if_neg hc]
theorem n_sfo {G : z_G} (hl : G.2.2.stackTraces = false) {P : Option Value → ev_W → Prop} {w : ev_W} {n a : Nat} {L : LL} {U : List LL} {V : Nat → Option LL} (ok : z_Ok G w) (hn : z_fc w n) (h : cIv n L U V (w_I w)) (ha : a < w_n w ∧ w_K w a = 14 ∧ w_L w a = 100) (h12 : qF L ≤ 12) : ∀ (k i : Nat) (x3 : Option Value) (f : Nat → Int64), i + k = qF L → (∀ c, 20 ≤ c → c < 100 → f c = if c < 20 + i then hsh (fun k => qf L (c - 20) k) 10 else Int64.ofNat 0) → (∀ g y3, (∀ c, c < 20 → g c = f c) → (∀ c, 20 ≤ c → c < 100 → g c = if c < 20 + qF L then hsh (fun k => qf L (c - 20) k) 10 else Int64.ofNat 0) → z_Q G 162 83 [some (.ref 0), some (.ref a), some (.int (jn (qF L))), y3] [] (w_tJ w a g) P) → z_Q G 162 30 [some (.ref 0), some (.ref a), some (.int (jn i)), x3] [] (w_tJ w a f) P := by
  intro k
  induction k with
  | zero =>
    intro i x3 f e h1 fin
    have e2 : i = qF L := by omega
    have k9 := kc_count (w := w_tJ w a f) ok hn h (k := 4) (by omega)
    rw [e2]
    have hB : z_all [z_is 162 30 (zf_iload 30 2 31), z_is 162 31 (zf_aload 31 0 32), z_is 162 32 (zf_cst 32 (jn 4) 33), z_is 162 33 (zf_cv 33 107 1 7 36), z_is 162 36 (zf_if2 .ge 36 83 39)] = true := by decide +kernel
    refine q_s hB (fun _ _ k => z_iload hB rfl k) (fun hB => ?_)
    refine q_s hB (fun _ _ k => z_aload hB rfl k) (fun hB => ?_)
    refine q_s hB (fun _ _ k => z_cst hB k) (fun hB => ?_)
    refine q_s hB (fun _ _ k => z_callV hB (rest := [.int (jn (qF L))]) rfl rfl rfl (z_ok0 ok).1 (z_ok0 ok).2 k9 k) (fun hB => ?_)
    refine q_s hB (fun _ _ k => z_ic_ge hB (fun _ => k) (fun h _ => absurd h ((by show ¬ jn (qF L) < jn (qF L); rw [jn_lt (by omega) (by omega)]; omega)))) (fun hB => ?_)
    exact fin f x3 (fun _ _ => rfl) (by rw [← e2]; exact h1)
  | succ k ih =>
    intro i x3 f e h1 fin
    have k9 := kc_count (w := w_tJ w a f) ok hn h (k := 4) (by omega)
    have hB : z_all [z_is 162 30 (zf_iload 30 2 31), z_is 162 31 (zf_aload 31 0 32), z_is 162 32 (zf_cst 32 (jn 4) 33), z_is 162 33 (zf_cv 33 107 1 7 36), z_is 162 36 (zf_if2 .ge 36 83 39), z_is 162 39 (zf_cst 39 (jn 0) 40), z_is 162 40 (zf_istore 40 3 41)] = true := by decide +kernel
    refine q_s hB (fun _ _ k => z_iload hB rfl k) (fun hB => ?_)
    refine q_s hB (fun _ _ k => z_aload hB rfl k) (fun hB => ?_)
    refine q_s hB (fun _ _ k => z_cst hB k) (fun hB => ?_)
    refine q_s hB (fun _ _ k => z_callV hB (rest := [.int (jn i)]) rfl rfl rfl (z_ok0 ok).1 (z_ok0 ok).2 k9 k) (fun hB => ?_)
    refine q_s hB (fun _ _ k => z_ic_ge hB (fun h _ => absurd ((by show jn i < jn (qF L); rw [jn_lt (by omega) (by omega)]; omega)) h) (fun _ => k)) (fun hB => ?_)
    refine q_s hB (fun _ _ k => z_cst hB k) (fun hB => ?_)
    refine q_s hB (fun _ _ k => z_istore hB rfl rfl k) (fun hB => ?_)
    refine n_sfi hl ok hn h ha (r := i) (by omega) h12 10 0 f (by omega) ?_ (fun g g1 g2 => ?_)
    · rw [h1 (20 + i) (by omega) (by omega), if_neg (by omega)]; rfl
    have hB : z_all [z_is 162 77 (zf_iinc 77 2 (jn 1) 80), z_is 162 80 (zf_goto 80 30)] = true := by decide +kernel
    refine q_s hB (fun _ _ k => z_iinc hB rfl rfl k) (fun hB => ?_)
    rw [jn_add]
    refine q_s hB (fun _ _ k => z_goto hB k) (fun hB => ?_)
    refine ih (i + 1) _ g (by omega) (fun c hc hd => ?_) (fun g3 y3 g4 g5 => fin g3 y3 (fun c hc => (g4 c hc).trans (g1 c (by omega))) g5)
    by_cases q : c = 20 + i
    · rw [q, g2, if_pos (by omega), show 20 + i - 20 = i by omega]
    · rw [g1 c q, h1 c hc hd]
      by_cases q2 : c < 20 + i
      · rw [if_pos q2, if_pos (by omega)]
      · rw [if_neg q2, if_neg (by omega)]
theorem n_sno {G : z_G} (hl : G.2.2.stackTraces = false) {P : Option Value → ev_W → Prop} {w : ev_W} {n a : Nat} {L : LL} {U : List LL} {V : Nat → Option LL} (ok : z_Ok G w) (hn : z_fc w n) (h : cIv n L U V (w_I w)) (ha : a < w_n w ∧ w_K w a = 14 ∧ w_L w a = 100) (h12 : qN L ≤ 4) : ∀ (k i : Nat) (x3 : Option Value) (f : Nat → Int64), i + k = qN L → (∀ c, 40 ≤ c → c < 100 → f c = if c < 40 + i then hsh (fun k => ynat L (c - 40) k) 7 else Int64.ofNat 0) → (∀ g y3, (∀ c, c < 40 → g c = f c) → (∀ c, 40 ≤ c → c < 100 → g c = if c < 40 + qN L then hsh (fun k => ynat L (c - 40) k) 7 else Int64.ofNat 0) → z_Q G 162 138 [some (.ref 0), some (.ref a), some (.int (jn (qN L))), y3] [] (w_tJ w a g) P) → z_Q G 162 85 [some (.ref 0), some (.ref a), some (.int (jn i)), x3] [] (w_tJ w a f) P := by
  intro k
  induction k with
  | zero =>
    intro i x3 f e h1 fin
    have e2 : i = qN L := by omega
    have k9 := kc_count (w := w_tJ w a f) ok hn h (k := 1) (by omega)
    rw [e2]
    have hB : z_all [z_is 162 85 (zf_iload 85 2 86), z_is 162 86 (zf_aload 86 0 87), z_is 162 87 (zf_cst 87 (jn 1) 88), z_is 162 88 (zf_cv 88 107 1 7 91), z_is 162 91 (zf_if2 .ge 91 138 94)] = true := by decide +kernel
    refine q_s hB (fun _ _ k => z_iload hB rfl k) (fun hB => ?_)
    refine q_s hB (fun _ _ k => z_aload hB rfl k) (fun hB => ?_)
    refine q_s hB (fun _ _ k => z_cst hB k) (fun hB => ?_)
    refine q_s hB (fun _ _ k => z_callV hB (rest := [.int (jn (qN L))]) rfl rfl rfl (z_ok0 ok).1 (z_ok0 ok).2 k9 k) (fun hB => ?_)
    refine q_s hB (fun _ _ k => z_ic_ge hB (fun _ => k) (fun h _ => absurd h ((by show ¬ jn (qN L) < jn (qN L); rw [jn_lt (by omega) (by omega)]; omega)))) (fun hB => ?_)
    exact fin f x3 (fun _ _ => rfl) (by rw [← e2]; exact h1)
  | succ k ih =>
    intro i x3 f e h1 fin
    have k9 := kc_count (w := w_tJ w a f) ok hn h (k := 1) (by omega)
    have hB : z_all [z_is 162 85 (zf_iload 85 2 86), z_is 162 86 (zf_aload 86 0 87), z_is 162 87 (zf_cst 87 (jn 1) 88), z_is 162 88 (zf_cv 88 107 1 7 91), z_is 162 91 (zf_if2 .ge 91 138 94), z_is 162 94 (zf_cst 94 (jn 0) 95), z_is 162 95 (zf_istore 95 3 96)] = true := by decide +kernel
    refine q_s hB (fun _ _ k => z_iload hB rfl k) (fun hB => ?_)
    refine q_s hB (fun _ _ k => z_aload hB rfl k) (fun hB => ?_)
    refine q_s hB (fun _ _ k => z_cst hB k) (fun hB => ?_)
    refine q_s hB (fun _ _ k => z_callV hB (rest := [.int (jn i)]) rfl rfl rfl (z_ok0 ok).1 (z_ok0 ok).2 k9 k) (fun hB => ?_)
    refine q_s hB (fun _ _ k => z_ic_ge hB (fun h _ => absurd ((by show jn i < jn (qN L); rw [jn_lt (by omega) (by omega)]; omega)) h) (fun _ => k)) (fun hB => ?_)
    refine q_s hB (fun _ _ k => z_cst hB k) (fun hB => ?_)
    refine q_s hB (fun _ _ k => z_istore hB rfl rfl k) (fun hB => ?_)
    refine n_sni hl ok hn h ha (r := i) (by omega) h12 7 0 f (by omega) ?_ (fun g g1 g2 => ?_)
    · rw [h1 (40 + i) (by omega) (by omega), if_neg (by omega)]; rfl
    have hB : z_all [z_is 162 132 (zf_iinc 132 2 (jn 1) 135), z_is 162 135 (zf_goto 135 85)] = true := by decide +kernel
    refine q_s hB (fun _ _ k => z_iinc hB rfl rfl k) (fun hB => ?_)
    rw [jn_add]
    refine q_s hB (fun _ _ k => z_goto hB k) (fun hB => ?_)
    refine ih (i + 1) _ g (by omega) (fun c hc hd => ?_) (fun g3 y3 g4 g5 => fin g3 y3 (fun c hc => (g4 c hc).trans (g1 c (by omega))) g5)
    by_cases q : c = 40 + i
    · rw [q, g2, if_pos (by omega), show 40 + i - 40 = i by omega]
    · rw [g1 c q, h1 c hc hd]
      by_cases q2 : c < 40 + i
      · rw [if_pos q2, if_pos (by omega)]
      · rw [if_neg q2, if_neg (by omega)]
theorem n_sto {G : z_G} (hl : G.2.2.stackTraces = false) {P : Option Value → ev_W → Prop} {w : ev_W} {n a : Nat} {L : LL} {U : List LL} {V : Nat → Option LL} (ok : z_Ok G w) (hn : z_fc w n) (h : cIv n L U V (w_I w)) (ha : a < w_n w ∧ w_K w a = 14 ∧ w_L w a = 100) (h12 : qT L ≤ 3) : ∀ (k i : Nat) (x3 : Option Value) (f : Nat → Int64), i + k = qT L → (∀ c, 50 ≤ c → c < 100 → f c = if c < 50 + i then hsh (fun k => yin L (c - 50) (jn k)) 6 else Int64.ofNat 0) → (∀ g y3, (∀ c, c < 50 → g c = f c) → (∀ c, 50 ≤ c → c < 100 → g c = if c < 50 + qT L then hsh (fun k => yin L (c - 50) (jn k)) 6 else Int64.ofNat 0) → z_Q G 162 193 [some (.ref 0), some (.ref a), some (.int (jn (qT L))), y3] [] (w_tJ w a g) P) → z_Q G 162 140 [some (.ref 0), some (.ref a), some (.int (jn i)), x3] [] (w_tJ w a f) P := by
  intro k
  induction k with
  | zero =>
    intro i x3 f e h1 fin
    have e2 : i = qT L := by omega
    have k9 := kc_count (w := w_tJ w a f) ok hn h (k := 2) (by omega)
    rw [e2]
    have hB : z_all [z_is 162 140 (zf_iload 140 2 141), z_is 162 141 (zf_aload 141 0 142), z_is 162 142 (zf_cst 142 (jn 2) 143), z_is 162 143 (zf_cv 143 107 1 7 146), z_is 162 146 (zf_if2 .ge 146 193 149)] = true := by decide +kernel
    refine q_s hB (fun _ _ k => z_iload hB rfl k) (fun hB => ?_)
    refine q_s hB (fun _ _ k => z_aload hB rfl k) (fun hB => ?_)
    refine q_s hB (fun _ _ k => z_cst hB k) (fun hB => ?_)
    refine q_s hB (fun _ _ k => z_callV hB (rest := [.int (jn (qT L))]) rfl rfl rfl (z_ok0 ok).1 (z_ok0 ok).2 k9 k) (fun hB => ?_)
    refine q_s hB (fun _ _ k => z_ic_ge hB (fun _ => k) (fun h _ => absurd h ((by show ¬ jn (qT L) < jn (qT L); rw [jn_lt (by omega) (by omega)]; omega)))) (fun hB => ?_)
    exact fin f x3 (fun _ _ => rfl) (by rw [← e2]; exact h1)
  | succ k ih =>
    intro i x3 f e h1 fin
    have k9 := kc_count (w := w_tJ w a f) ok hn h (k := 2) (by omega)
    have hB : z_all [z_is 162 140 (zf_iload 140 2 141), z_is 162 141 (zf_aload 141 0 142), z_is 162 142 (zf_cst 142 (jn 2) 143), z_is 162 143 (zf_cv 143 107 1 7 146), z_is 162 146 (zf_if2 .ge 146 193 149), z_is 162 149 (zf_cst 149 (jn 0) 150), z_is 162 150 (zf_istore 150 3 151)] = true := by decide +kernel
    refine q_s hB (fun _ _ k => z_iload hB rfl k) (fun hB => ?_)
    refine q_s hB (fun _ _ k => z_aload hB rfl k) (fun hB => ?_)
    refine q_s hB (fun _ _ k => z_cst hB k) (fun hB => ?_)
    refine q_s hB (fun _ _ k => z_callV hB (rest := [.int (jn i)]) rfl rfl rfl (z_ok0 ok).1 (z_ok0 ok).2 k9 k) (fun hB => ?_)
    refine q_s hB (fun _ _ k => z_ic_ge hB (fun h _ => absurd ((by show jn i < jn (qT L); rw [jn_lt (by omega) (by omega)]; omega)) h) (fun _ => k)) (fun hB => ?_)
    refine q_s hB (fun _ _ k => z_cst hB k) (fun hB => ?_)
    refine q_s hB (fun _ _ k => z_istore hB rfl rfl k) (fun hB => ?_)
    refine n_sti hl ok hn h ha (r := i) (by omega) h12 6 0 f (by omega) ?_ (fun g g1 g2 => ?_)
    · rw [h1 (50 + i) (by omega) (by omega), if_neg (by omega)]; rfl
    have hB : z_all [z_is 162 187 (zf_iinc 187 2 (jn 1) 190), z_is 162 190 (zf_goto 190 140)] = true := by decide +kernel
    refine q_s hB (fun _ _ k => z_iinc hB rfl rfl k) (fun hB => ?_)
    rw [jn_add]
    refine q_s hB (fun _ _ k => z_goto hB k) (fun hB => ?_)
    refine ih (i + 1) _ g (by omega) (fun c hc hd => ?_) (fun g3 y3 g4 g5 => fin g3 y3 (fun c hc => (g4 c hc).trans (g1 c (by omega))) g5)
    by_cases q : c = 50 + i
    · rw [q, g2, if_pos (by omega), show 50 + i - 50 = i by omega]
    · rw [g1 c q, h1 c hc hd]
      by_cases q2 : c < 50 + i
      · rw [if_pos q2, if_pos (by omega)]
      · rw [if_neg q2, if_neg (by omega)]
theorem n_sees {G : z_G} {w : ev_W} (hl : G.2.2.stackTraces = false) {n a : Nat} {L : LL} {U : List LL} {V : Nat → Option LL} (ok : z_Ok G w) (hn : z_fc w n) (h : cIv n L U V (w_I w)) (ha : a < w_n w ∧ w_K w a = 14 ∧ w_L w a = 100) : z_N G 162 [.ref 0, .ref a] w (fun v w1 => v = none ∧ ∃ g, w1 = w_tJ w a g ∧ ∀ c, c < 100 → g c = svL L c) := by
  refine q_con hl (ml := 4) (by decide +kernel) rfl rfl ?_
  have gF := h.2.2.1.1
  have gN := h.2.2.1.2.2.1
  have gT := h.2.2.1.2.2.2.1
  obtain ⟨v5, w5, k5, rfl, g5, e5, z5⟩ := n_fill hl ha (x := Int64.ofNat 0) (by omega)
  rw [e5] at k5
  have hB : z_all [z_is 162 0 (zf_aload 0 1 1), z_at 162 1 (zx_lcon 1 0 2), z_is 162 2 (zf_cs 2 204 2 5), z_is 162 5 (zf_cst 5 (jn 0) 6), z_is 162 6 (zf_istore 6 2 7)] = true := by decide +kernel
  refine q_s hB (fun _ _ k => z_aload hB rfl k) (fun hB => ?_)
  refine q_s hB (fun _ _ k => x_lcon hB k) (fun hB => ?_)
  refine q_s hB (fun _ _ k => z_callS hB (rest := []) rfl rfl rfl k5 k) (fun hB => ?_)
  refine q_s hB (fun _ _ k => z_cst hB k) (fun hB => ?_)
  refine q_s hB (fun _ _ k => z_istore hB rfl rfl k) (fun hB => ?_)
  refine n_se1 hl ok hn h ha 16 0 g5 (by omega) (fun c hc => absurd hc (Nat.not_lt_zero _)) (fun c _ hd => z5 c hd) (fun g6 a6 b6 => ?_)
  have hB : z_all [z_is 162 28 (zf_cst 28 (jn 0) 29), z_is 162 29 (zf_istore 29 2 30)] = true := by decide +kernel
  refine q_s hB (fun _ _ k => z_cst hB k) (fun hB => ?_)
  refine q_s hB (fun _ _ k => z_istore hB rfl rfl k) (fun hB => ?_)
  refine n_sfo hl ok hn h ha gF (qF L) 0 _ g6 (by omega) (fun c hc hd => by rw [b6 c (by omega) hd, if_neg (by omega)]) (fun g7 y7 a7 b7 => ?_)
  have hB : z_all [z_is 162 83 (zf_cst 83 (jn 0) 84), z_is 162 84 (zf_istore 84 2 85)] = true := by decide +kernel
  refine q_s hB (fun _ _ k => z_cst hB k) (fun hB => ?_)
  refine q_s hB (fun _ _ k => z_istore hB rfl rfl k) (fun hB => ?_)
  refine n_sno hl ok hn h ha gN (qN L) 0 _ g7 (by omega) (fun c hc hd => by rw [b7 c (by omega) hd, if_neg (by omega), if_neg (by omega)]) (fun g8 y8 a8 b8 => ?_)
  have hB : z_all [z_is 162 138 (zf_cst 138 (jn 0) 139), z_is 162 139 (zf_istore 139 2 140)] = true := by decide +kernel
  refine q_s hB (fun _ _ k => z_cst hB k) (fun hB => ?_)
  refine q_s hB (fun _ _ k => z_istore hB rfl rfl k) (fun hB => ?_)
  refine n_sto hl ok hn h ha gT (qT L) 0 _ g8 (by omega) (fun c hc hd => by rw [b8 c (by omega) hd, if_neg (by omega), if_neg (by omega)]) (fun g9 y9 a9 b9 => ?_)
  have hB : z_all [z_is 162 193 (zf_ret 6)] = true := by decide +kernel
  refine q_r (z_retv hB) ⟨rfl, g9, rfl, fun c hc => ?_⟩
  unfold svL
  by_cases q1 : c < 16
  · rw [if_pos q1, a9 c (by omega), a8 c (by omega), a7 c (by omega), a6 c q1]; unfold svL; rw [if_pos q1]
  · rw [if_neg q1]
    by_cases q2 : c < 20
    · rw [if_neg (by omega), if_neg (by omega), if_neg (by omega), a9 c (by omega), a8 c (by omega), a7 c (by omega), b6 c (by omega) hc]
    · by_cases q3 : c < 40
      · rw [a9 c (by omega), a8 c (by omega), b7 c (by omega) hc]
        by_cases q4 : c < 20 + qF L
        · rw [if_pos q4, if_pos ⟨by omega, q4⟩]
        · rw [if_neg q4, if_neg (by omega), if_neg (by omega), if_neg (by omega)]
      · rw [if_neg (by omega)]
        by_cases q5 : c < 50
        · rw [a9 c (by omega), b8 c (by omega) hc]
          by_cases q4 : c < 40 + qN L
          · rw [if_pos q4, if_pos ⟨by omega, q4⟩]
          · rw [if_neg q4, if_neg (by omega), if_neg (by omega)]
        · rw [if_neg (by omega), b9 c (by omega) hc]
          by_cases q4 : c < 50 + qT L
          · rw [if_pos q4, if_pos ⟨by omega, q4⟩]
          · rw [if_neg q4, if_neg (by omega)]
theorem n_ow_lp {G : z_G} (hl : G.2.2.stackTraces = false) {w : ev_W} {n : Nat} {L : LL} {U : List LL} {V : Nat → Option LL} (ok : z_Ok G w) (hn : z_fc w n) (h : cIv n L U V (w_I w)) (h1 : ∀ f, f < qF L → qf L f 1 &&& qf L f 6 = jn 0) (h2 : ∀ f, f < qF L → qf L f 8 = jn 3 → ((qf L f 3 + qf L f 4) + qf L f 5) + qf L f 6 = jn 0) : ∀ (k i : Nat), i + k = qF L → z_Q G 161 2 [some (.ref 0), some (.int (jn i))] [] w (fun v w1 => v = some (.int (jn 1)) ∧ w1 = w) := by
  have gF := h.2.2.1.1
  have k4 := kc_count ok hn h (k := 4) (by omega)
  intro k
  induction k with
  | zero =>
    intro i e
    have hB : z_all [z_is 161 2 (zf_iload 2 1 3), z_is 161 3 (zf_aload 3 0 4), z_is 161 4 (zf_cst 4 (jn 4) 5), z_is 161 5 (zf_cv 5 107 1 7 8), z_is 161 8 (zf_if2 .ge 8 80 11), z_is 161 80 (zf_cst 80 (jn 1) 81), z_is 161 81 (zf_ret 1)] = true := by decide +kernel
    refine q_s hB (fun _ _ k => z_iload hB rfl k) (fun hB => ?_)
    refine q_s hB (fun _ _ k => z_aload hB rfl k) (fun hB => ?_)
    refine q_s hB (fun _ _ k => z_cst hB k) (fun hB => ?_)
    refine q_s hB (fun _ _ k => z_callV hB (rest := [.int (jn i)]) rfl rfl rfl (z_ok0 ok).1 (z_ok0 ok).2 k4 k) (fun hB => ?_)
    refine q_s hB (fun _ _ k => z_ic_ge hB (fun _ => k) (fun h _ => absurd h ((by show ¬ jn i < jn (qF L); rw [jn_lt (by omega) (by omega)]; omega)))) (fun hB => ?_)
    refine q_s hB (fun _ _ k => z_cst hB k) (fun hB => ?_)
    exact q_r (z_retz hB (Or.inr rfl)) ⟨rfl, rfl⟩
  | succ k ih =>
    intro i e
    have hi : i < qF L := by omega
    have kf1 := kc_flag ok hn h hi (k := 1) (by omega)
    have kf3 := kc_flag ok hn h hi (k := 3) (by omega)
    have kf4 := kc_flag ok hn h hi (k := 4) (by omega)
    have kf5 := kc_flag ok hn h hi (k := 5) (by omega)
    have kf6 := kc_flag ok hn h hi (k := 6) (by omega)
    have kf8 := kc_flag ok hn h hi (k := 8) (by omega)
    by_cases h9 : qf L i 8 = jn 3
    · skip
      have hB : z_all [z_is 161 2 (zf_iload 2 1 3), z_is 161 3 (zf_aload 3 0 4), z_is 161 4 (zf_cst 4 (jn 4) 5), z_is 161 5 (zf_cv 5 107 1 7 8), z_is 161 8 (zf_if2 .ge 8 80 11), z_is 161 11 (zf_aload 11 0 12), z_is 161 12 (zf_iload 12 1 13), z_is 161 13 (zf_cst 13 (jn 1) 14), z_is 161 14 (zf_cv 14 109 2 7 17), z_is 161 17 (zf_aload 17 0 18), z_is 161 18 (zf_iload 18 1 19), z_is 161 19 (zf_cst 19 (jn 6) 21), z_is 161 21 (zf_cv 21 109 2 7 24), z_is 161 24 (zf_iand 24 25), z_is 161 25 (zf_if1 .eq 25 30 28), z_is 161 30 (zf_aload 30 0 31), z_is 161 31 (zf_iload 31 1 32), z_is 161 32 (zf_cst 32 (jn 8) 34), z_is 161 34 (zf_cv 34 109 2 7 37), z_is 161 37 (zf_cst 37 (jn 3) 38), z_is 161 38 (zf_if2 .ne 38 74 41), z_is 161 41 (zf_aload 41 0 42), z_is 161 42 (zf_iload 42 1 43), z_is 161 43 (zf_cst 43 (jn 3) 44), z_is 161 44 (zf_cv 44 109 2 7 47), z_is 161 47 (zf_aload 47 0 48), z_is 161 48 (zf_iload 48 1 49), z_is 161 49 (zf_cst 49 (jn 4) 50), z_is 161 50 (zf_cv 50 109 2 7 53), z_is 161 53 (zf_iadd 53 54), z_is 161 54 (zf_aload 54 0 55), z_is 161 55 (zf_iload 55 1 56), z_is 161 56 (zf_cst 56 (jn 5) 57), z_is 161 57 (zf_cv 57 109 2 7 60), z_is 161 60 (zf_iadd 60 61), z_is 161 61 (zf_aload 61 0 62), z_is 161 62 (zf_iload 62 1 63), z_is 161 63 (zf_cst 63 (jn 6) 65), z_is 161 65 (zf_cv 65 109 2 7 68), z_is 161 68 (zf_iadd 68 69), z_is 161 69 (zf_if1 .eq 69 74 72), z_is 161 74 (zf_iinc 74 1 (jn 1) 77), z_is 161 77 (zf_goto 77 2)] = true := by decide +kernel
      refine q_s hB (fun _ _ k => z_iload hB rfl k) (fun hB => ?_)
      refine q_s hB (fun _ _ k => z_aload hB rfl k) (fun hB => ?_)
      refine q_s hB (fun _ _ k => z_cst hB k) (fun hB => ?_)
      refine q_s hB (fun _ _ k => z_callV hB (rest := [.int (jn i)]) rfl rfl rfl (z_ok0 ok).1 (z_ok0 ok).2 k4 k) (fun hB => ?_)
      refine q_s hB (fun _ _ k => z_ic_ge hB (fun h _ => absurd ((by show jn i < jn (qF L); rw [jn_lt (by omega) (by omega)]; omega)) h) (fun _ => k)) (fun hB => ?_)
      refine q_s hB (fun _ _ k => z_aload hB rfl k) (fun hB => ?_)
      refine q_s hB (fun _ _ k => z_iload hB rfl k) (fun hB => ?_)
      refine q_s hB (fun _ _ k => z_cst hB k) (fun hB => ?_)
      refine q_s hB (fun _ _ k => z_callV hB (rest := []) rfl rfl rfl (z_ok0 ok).1 (z_ok0 ok).2 kf1 k) (fun hB => ?_)
      refine q_s hB (fun _ _ k => z_aload hB rfl k) (fun hB => ?_)
      refine q_s hB (fun _ _ k => z_iload hB rfl k) (fun hB => ?_)
      refine q_s hB (fun _ _ k => z_cst hB k) (fun hB => ?_)
      refine q_s hB (fun _ _ k => z_callV hB (rest := [.int (qf L i 1)]) rfl rfl rfl (z_ok0 ok).1 (z_ok0 ok).2 kf6 k) (fun hB => ?_)
      refine q_s hB (fun _ _ k => z_iand hB k) (fun hB => ?_)
      refine q_s hB (fun _ _ k => z_if_eq hB (fun _ => k) (fun h _ => absurd ((h1 i hi)) h)) (fun hB => ?_)
      refine q_s hB (fun _ _ k => z_aload hB rfl k) (fun hB => ?_)
      refine q_s hB (fun _ _ k => z_iload hB rfl k) (fun hB => ?_)
      refine q_s hB (fun _ _ k => z_cst hB k) (fun hB => ?_)
      refine q_s hB (fun _ _ k => z_callV hB (rest := []) rfl rfl rfl (z_ok0 ok).1 (z_ok0 ok).2 kf8 k) (fun hB => ?_)
      refine q_s hB (fun _ _ k => z_cst hB k) (fun hB => ?_)
      refine q_s hB (fun _ _ k => z_ic_ne hB (fun h _ => absurd (h9) h) (fun _ => k)) (fun hB => ?_)
      refine q_s hB (fun _ _ k => z_aload hB rfl k) (fun hB => ?_)
      refine q_s hB (fun _ _ k => z_iload hB rfl k) (fun hB => ?_)
      refine q_s hB (fun _ _ k => z_cst hB k) (fun hB => ?_)
      refine q_s hB (fun _ _ k => z_callV hB (rest := []) rfl rfl rfl (z_ok0 ok).1 (z_ok0 ok).2 kf3 k) (fun hB => ?_)
      refine q_s hB (fun _ _ k => z_aload hB rfl k) (fun hB => ?_)
      refine q_s hB (fun _ _ k => z_iload hB rfl k) (fun hB => ?_)
      refine q_s hB (fun _ _ k => z_cst hB k) (fun hB => ?_)
      refine q_s hB (fun _ _ k => z_callV hB (rest := [.int (qf L i 3)]) rfl rfl rfl (z_ok0 ok).1 (z_ok0 ok).2 kf4 k) (fun hB => ?_)
      refine q_s hB (fun _ _ k => z_iadd hB k) (fun hB => ?_)
      refine q_s hB (fun _ _ k => z_aload hB rfl k) (fun hB => ?_)
      refine q_s hB (fun _ _ k => z_iload hB rfl k) (fun hB => ?_)
      refine q_s hB (fun _ _ k => z_cst hB k) (fun hB => ?_)
      refine q_s hB (fun _ _ k => z_callV hB (rest := [.int (qf L i 3 + qf L i 4)]) rfl rfl rfl (z_ok0 ok).1 (z_ok0 ok).2 kf5 k) (fun hB => ?_)
      refine q_s hB (fun _ _ k => z_iadd hB k) (fun hB => ?_)
      refine q_s hB (fun _ _ k => z_aload hB rfl k) (fun hB => ?_)
      refine q_s hB (fun _ _ k => z_iload hB rfl k) (fun hB => ?_)
      refine q_s hB (fun _ _ k => z_cst hB k) (fun hB => ?_)
      refine q_s hB (fun _ _ k => z_callV hB (rest := [.int ((qf L i 3 + qf L i 4) + qf L i 5)]) rfl rfl rfl (z_ok0 ok).1 (z_ok0 ok).2 kf6 k) (fun hB => ?_)
      refine q_s hB (fun _ _ k => z_iadd hB k) (fun hB => ?_)
      refine q_s hB (fun _ _ k => z_if_eq hB (fun _ => k) (fun h _ => absurd ((h2 i hi h9)) h)) (fun hB => ?_)
      refine q_s hB (fun _ _ k => z_iinc hB rfl rfl k) (fun hB => ?_)
      rw [jn_add]
      refine q_s hB (fun _ _ k => z_goto hB k) (fun hB => ?_)
      exact ih (i + 1) (by omega)
    · skip
      have hB : z_all [z_is 161 2 (zf_iload 2 1 3), z_is 161 3 (zf_aload 3 0 4), z_is 161 4 (zf_cst 4 (jn 4) 5), z_is 161 5 (zf_cv 5 107 1 7 8), z_is 161 8 (zf_if2 .ge 8 80 11), z_is 161 11 (zf_aload 11 0 12), z_is 161 12 (zf_iload 12 1 13), z_is 161 13 (zf_cst 13 (jn 1) 14), z_is 161 14 (zf_cv 14 109 2 7 17), z_is 161 17 (zf_aload 17 0 18), z_is 161 18 (zf_iload 18 1 19), z_is 161 19 (zf_cst 19 (jn 6) 21), z_is 161 21 (zf_cv 21 109 2 7 24), z_is 161 24 (zf_iand 24 25), z_is 161 25 (zf_if1 .eq 25 30 28), z_is 161 30 (zf_aload 30 0 31), z_is 161 31 (zf_iload 31 1 32), z_is 161 32 (zf_cst 32 (jn 8) 34), z_is 161 34 (zf_cv 34 109 2 7 37), z_is 161 37 (zf_cst 37 (jn 3) 38), z_is 161 38 (zf_if2 .ne 38 74 41), z_is 161 74 (zf_iinc 74 1 (jn 1) 77), z_is 161 77 (zf_goto 77 2)] = true := by decide +kernel
      refine q_s hB (fun _ _ k => z_iload hB rfl k) (fun hB => ?_)
      refine q_s hB (fun _ _ k => z_aload hB rfl k) (fun hB => ?_)
      refine q_s hB (fun _ _ k => z_cst hB k) (fun hB => ?_)
      refine q_s hB (fun _ _ k => z_callV hB (rest := [.int (jn i)]) rfl rfl rfl (z_ok0 ok).1 (z_ok0 ok).2 k4 k) (fun hB => ?_)
      refine q_s hB (fun _ _ k => z_ic_ge hB (fun h _ => absurd ((by show jn i < jn (qF L); rw [jn_lt (by omega) (by omega)]; omega)) h) (fun _ => k)) (fun hB => ?_)
      refine q_s hB (fun _ _ k => z_aload hB rfl k) (fun hB => ?_)
      refine q_s hB (fun _ _ k => z_iload hB rfl k) (fun hB => ?_)
      refine q_s hB (fun _ _ k => z_cst hB k) (fun hB => ?_)
      refine q_s hB (fun _ _ k => z_callV hB (rest := []) rfl rfl rfl (z_ok0 ok).1 (z_ok0 ok).2 kf1 k) (fun hB => ?_)
      refine q_s hB (fun _ _ k => z_aload hB rfl k) (fun hB => ?_)
      refine q_s hB (fun _ _ k => z_iload hB rfl k) (fun hB => ?_)
      refine q_s hB (fun _ _ k => z_cst hB k) (fun hB => ?_)
      refine q_s hB (fun _ _ k => z_callV hB (rest := [.int (qf L i 1)]) rfl rfl rfl (z_ok0 ok).1 (z_ok0 ok).2 kf6 k) (fun hB => ?_)
      refine q_s hB (fun _ _ k => z_iand hB k) (fun hB => ?_)
      refine q_s hB (fun _ _ k => z_if_eq hB (fun _ => k) (fun h _ => absurd ((h1 i hi)) h)) (fun hB => ?_)
      refine q_s hB (fun _ _ k => z_aload hB rfl k) (fun hB => ?_)
      refine q_s hB (fun _ _ k => z_iload hB rfl k) (fun hB => ?_)
      refine q_s hB (fun _ _ k => z_cst hB k) (fun hB => ?_)
      refine q_s hB (fun _ _ k => z_callV hB (rest := []) rfl rfl rfl (z_ok0 ok).1 (z_ok0 ok).2 kf8 k) (fun hB => ?_)
      refine q_s hB (fun _ _ k => z_cst hB k) (fun hB => ?_)
      refine q_s hB (fun _ _ k => z_ic_ne hB (fun _ => k) (fun h _ => absurd h (h9))) (fun hB => ?_)
      refine q_s hB (fun _ _ k => z_iinc hB rfl rfl k) (fun hB => ?_)
      rw [jn_add]
      refine q_s hB (fun _ _ k => z_goto hB k) (fun hB => ?_)
      exact ih (i + 1) (by omega)
theorem n_own {G : z_G} {w : ev_W} (hl : G.2.2.stackTraces = false) {n : Nat} {L : LL} {U : List LL} {V : Nat → Option LL} (ok : z_Ok G w) (hn : z_fc w n) (h : cIv n L U V (w_I w)) (h1 : ∀ f, f < qF L → qf L f 1 &&& qf L f 6 = jn 0) (h2 : ∀ f, f < qF L → qf L f 8 = jn 3 → ((qf L f 3 + qf L f 4) + qf L f 5) + qf L f 6 = jn 0) : z_N G 161 [.ref 0] w (fun v w1 => v = some (.int (jn 1)) ∧ w1 = w) := by
  refine q_con hl (ml := 2) (by decide +kernel) rfl rfl ?_
  have hB : z_all [z_is 161 0 (zf_cst 0 (jn 0) 1), z_is 161 1 (zf_istore 1 1 2)] = true := by decide +kernel
  refine q_s hB (fun _ _ k => z_cst hB k) (fun hB => ?_)
  refine q_s hB (fun _ _ k => z_istore hB rfl rfl k) (fun hB => ?_)
  exact n_ow_lp hl ok hn h h1 h2 (qF L) 0 (by omega)
