/-! a step of the law's loop: by wip/gen/p64/j98zd.py -/
/-- what stays of the world through the loop -/
def WI (G : z_G) (w : ev_W) (n d a b ro na T N : Nat) : Prop := z_Ok G w ∧ z_fc w n ∧ ((d < w_n w ∧ w_K w d = 8) ∧ w_R w d 9 = some ro ∧ w_R w d 10 = some na) ∧ (ro < w_n w ∧ w_K w ro = 10 ∧ w_L w ro = T) ∧ (na < w_n w ∧ w_K w na = 20 ∧ w_L w na = N) ∧ (a < w_n w ∧ w_K w a = 14 ∧ w_L w a = 100) ∧ (b < w_n w ∧ w_K w b = 14 ∧ w_L w b = 100) ∧ w_L w ev_S ≤ 1000 ∧ w_c w ≤ 1000 ∧ w_z w ≤ 1000000
theorem WI.z {G : z_G} {w : ev_W} {n d a b ro na T N : Nat} (W : WI G w n d a b ro na T N) (J : z_H) : WI G (z_w w J) n d a b ro na T N := W
theorem WI.t {G : z_G} {w : ev_W} {n d a b ro na T N : Nat} (W : WI G w n d a b ro na T N) (c : Nat) (g : Nat → Int64) : WI G (w_tJ w c g) n d a b ro na T N := W
theorem jmodF : ∀ (k : Fin 16) (F : Fin 13), 0 < F.val → jn k.val - jn k.val / jn F.val * jn F.val = jn (k.val % F.val) := by decide +kernel
theorem sV_at {V : Nat → Option LL} {x : Nat} {L : LL} : sV V x L x = some L := if_pos rfl
theorem own2 {L : LL} (hp : PmL L) : ∀ f, f < qF L → qf L f 8 = jn 3 → ((qf L f 3 + qf L f 4) + qf L f 5) + qf L f 6 = jn 0 := fun f hf h8 => by
  obtain ⟨e3, e4, e5, e6⟩ := hp.2.1 f hf h8
  rw [e3, e4, e5, e6]
  decide
section STEP
variable {G : z_G} {P : Option Value → ev_W → Prop} {w : ev_W} {n d s a b ro na T N : Nat} {L L0 : LL} {U : List LL} {V : Nat → Option LL} {f t x m r z k0 : Nat} {u v : Int32} {x7 x16 x17 x18 : Option Value}
theorem n_s2 (hl : G.2.2.stackTraces = false) (W : WI G w n d a b ro na T N) (hab : ¬ a = b) (h : cIv n L U V (w_I w)) (hp : PmL L) (hk : k0 < 2) (hV : V k0 = some L0) (hw : ∀ c, c < 100 → w_J w a c = svL L0 c) (fin : ∀ w2 L3 U3, WI G w2 n d a b ro na T N → cIv n L3 U3 V (w_I w2) → (L3 = L ∨ L3 = L0) → z_Q G 216 962 [some (.ref ev_S), some (.ref 0), some (.ref 241), some (.ref d), some (.ref s), some (.ref a), some (.ref b), x7, some (.int v), some (.int (jn k0)), some (.int (jn f)), some (.int (jn t)), some (.int (jn x)), some (.int (jn m)), some (.int (jn r)), some (.int u), x16, x17, x18] [] w2 P) : z_Q G 216 894 [some (.ref ev_S), some (.ref 0), some (.ref 241), some (.ref d), some (.ref s), some (.ref a), some (.ref b), x7, some (.int v), some (.int (jn k0)), some (.int (jn f)), some (.int (jn t)), some (.int (jn x)), some (.int (jn m)), some (.int (jn r)), some (.int u), x16, x17, x18] [] w P := by
  have k1 := kc_gap W.1 W.2.1 h
  rw [gap0 h.2.2.1 hp] at k1
  obtain ⟨v2, w2, k2, e2, e2w⟩ := n_own hl W.1 W.2.1 h hp.1 (own2 hp)
  rw [e2, e2w] at k2
  by_cases c0 : ((v.toUInt32 >>> ((jn 25).toUInt32 &&& Int32.toUInt32 31)).toInt32 &&& jn 3) = jn 0
  · obtain ⟨J, c1, k3⟩ := kd_restore W.1 W.2.1 h hk hV
    have k4 := kc_undoable (w := z_w w J) W.1 c1
    obtain ⟨v5, w5, k5, e5, g5, e5w, e5g⟩ := n_sees (w := z_w w J) (a := b) hl W.1 W.2.1 c1 W.2.2.2.2.2.2.1
    rw [e5, e5w] at k5
    obtain ⟨v6, w6, k6, e6, e6w⟩ := n_equ (w := w_tJ (z_w w J) b g5) (a := a) (b := b) hl W.2.2.2.2.2.1 W.2.2.2.2.2.2.1 hab (fun c hc => by
      rw [tJ_at, tJ_ne hab, e5g c hc]
      exact hw c hc)
    rw [e6, e6w] at k6
    have q1 : lg_cmp (qs L0 0).toInt64 (w_J w a 5) = jn 0 := by
      rw [hw 5 (by omega), sv_c (by omega)]
      exact lcmp_self _
    have hB : z_all [z_is 216 894 (zf_aload 894 1 895), z_is 216 895 (zf_cv 895 113 0 7 898), z_is 216 898 (zf_if1 .ne 898 908 901), z_is 216 901 (zf_aload 901 1 902), z_is 216 902 (zf_cs 902 161 1 905), z_is 216 905 (zf_if1 .ne 905 910 908), z_is 216 910 (zf_iload 910 8 912), z_is 216 912 (zf_cst 912 (jn 25) 914), z_at 216 914 (zf_iushr 914 915), z_is 216 915 (zf_cst 915 (jn 3) 916), z_is 216 916 (zf_iand 916 917), z_is 216 917 (zf_if1 .ne 917 962 920), z_is 216 920 (zf_aload 920 1 921), z_is 216 921 (zf_iload 921 9 923), z_is 216 923 (zf_cv 923 138 1 7 926), z_at 216 926 (zx_ilong 926 927), z_is 216 927 (zf_aload 927 5 929), z_is 216 929 (zf_cst 929 (jn 5) 930), z_at 216 930 (zx_lald 930 931), z_at 216 931 (zx_lcmp 931 932), z_is 216 932 (zf_if1 .ne 932 942 935), z_is 216 935 (zf_aload 935 1 936), z_is 216 936 (zf_cv 936 136 0 7 939), z_is 216 939 (zf_if1 .eq 939 944 942), z_is 216 944 (zf_aload 944 1 945), z_is 216 945 (zf_aload 945 6 947), z_is 216 947 (zf_cs 947 162 2 950), z_is 216 950 (zf_aload 950 5 952), z_is 216 952 (zf_aload 952 6 954), z_is 216 954 (zf_cs 954 209 2 957), z_is 216 957 (zf_if1 .ne 957 962 960)] = true := by decide +kernel
    refine q_s hB (fun _ _ k => z_aload hB rfl k) (fun hB => ?_)
    refine q_s hB (fun _ _ k => z_callV hB (rest := []) rfl rfl rfl (z_ok0 W.1).1 (z_ok0 W.1).2 k1 k) (fun hB => ?_)
    refine q_s hB (fun _ _ k => z_if_ne hB (fun h _ => absurd (rfl) h) (fun _ => k)) (fun hB => ?_)
    refine q_s hB (fun _ _ k => z_aload hB rfl k) (fun hB => ?_)
    refine q_s hB (fun _ _ k => z_callS hB (rest := []) rfl rfl rfl k2 k) (fun hB => ?_)
    refine q_s hB (fun _ _ k => z_if_ne hB (fun _ => k) (fun h _ => absurd h ((by decide)))) (fun hB => ?_)
    refine q_s hB (fun _ _ k => z_iload hB rfl k) (fun hB => ?_)
    refine q_s hB (fun _ _ k => z_cst hB k) (fun hB => ?_)
    refine q_s hB (fun _ _ k => z_iushr hB k) (fun hB => ?_)
    refine q_s hB (fun _ _ k => z_cst hB k) (fun hB => ?_)
    refine q_s hB (fun _ _ k => z_iand hB k) (fun hB => ?_)
    refine q_s hB (fun _ _ k => z_if_ne hB (fun h _ => absurd (c0) h) (fun _ => k)) (fun hB => ?_)
    refine q_s hB (fun _ _ k => z_aload hB rfl k) (fun hB => ?_)
    refine q_s hB (fun _ _ k => z_iload hB rfl k) (fun hB => ?_)
    refine q_s hB (fun _ _ k => z_callV hB (rest := []) rfl rfl rfl (z_ok0 W.1).1 (z_ok0 W.1).2 k3 k) (fun hB => ?_)
    refine q_s hB (fun _ _ k => x_ilong hB k) (fun hB => ?_)
    refine q_s hB (fun _ _ k => z_aload hB rfl k) (fun hB => ?_)
    refine q_s hB (fun _ _ k => z_cst hB k) (fun hB => ?_)
    refine q_s hB (fun _ _ k => x_lald hB W.2.2.2.2.2.1.1 W.2.2.2.2.2.1.2.1 (by show ev_ok _ (w_L w a) = true; rw [W.2.2.2.2.2.1.2.2]; decide) k) (fun hB => ?_)
    refine q_s hB (fun _ _ k => x_lcmp hB k) (fun hB => ?_)
    refine q_s hB (fun _ _ k => z_if_ne hB (fun h _ => absurd (q1) h) (fun _ => k)) (fun hB => ?_)
    refine q_s hB (fun _ _ k => z_aload hB rfl k) (fun hB => ?_)
    refine q_s hB (fun _ _ k => z_callV hB (rest := []) rfl rfl rfl (z_ok0 W.1).1 (z_ok0 W.1).2 k4 k) (fun hB => ?_)
    refine q_s hB (fun _ _ k => z_if_eq hB (fun _ => k) (fun h _ => absurd (rfl) h)) (fun hB => ?_)
    refine q_s hB (fun _ _ k => z_aload hB rfl k) (fun hB => ?_)
    refine q_s hB (fun _ _ k => z_aload hB rfl k) (fun hB => ?_)
    refine q_s hB (fun _ _ k => z_callS hB (rest := []) rfl rfl rfl k5 k) (fun hB => ?_)
    refine q_s hB (fun _ _ k => z_aload hB rfl k) (fun hB => ?_)
    refine q_s hB (fun _ _ k => z_aload hB rfl k) (fun hB => ?_)
    refine q_s hB (fun _ _ k => z_callS hB (rest := []) rfl rfl rfl k6 k) (fun hB => ?_)
    refine q_s hB (fun _ _ k => z_if_ne hB (fun _ => k) (fun h _ => absurd h ((by decide)))) (fun hB => ?_)
    exact fin _ L0 [] ((W.z J).t b g5) c1 (Or.inr rfl)
  · have hB : z_all [z_is 216 894 (zf_aload 894 1 895), z_is 216 895 (zf_cv 895 113 0 7 898), z_is 216 898 (zf_if1 .ne 898 908 901), z_is 216 901 (zf_aload 901 1 902), z_is 216 902 (zf_cs 902 161 1 905), z_is 216 905 (zf_if1 .ne 905 910 908), z_is 216 910 (zf_iload 910 8 912), z_is 216 912 (zf_cst 912 (jn 25) 914), z_at 216 914 (zf_iushr 914 915), z_is 216 915 (zf_cst 915 (jn 3) 916), z_is 216 916 (zf_iand 916 917), z_is 216 917 (zf_if1 .ne 917 962 920)] = true := by decide +kernel
    refine q_s hB (fun _ _ k => z_aload hB rfl k) (fun hB => ?_)
    refine q_s hB (fun _ _ k => z_callV hB (rest := []) rfl rfl rfl (z_ok0 W.1).1 (z_ok0 W.1).2 k1 k) (fun hB => ?_)
    refine q_s hB (fun _ _ k => z_if_ne hB (fun h _ => absurd (rfl) h) (fun _ => k)) (fun hB => ?_)
    refine q_s hB (fun _ _ k => z_aload hB rfl k) (fun hB => ?_)
    refine q_s hB (fun _ _ k => z_callS hB (rest := []) rfl rfl rfl k2 k) (fun hB => ?_)
    refine q_s hB (fun _ _ k => z_if_ne hB (fun _ => k) (fun h _ => absurd h ((by decide)))) (fun hB => ?_)
    refine q_s hB (fun _ _ k => z_iload hB rfl k) (fun hB => ?_)
    refine q_s hB (fun _ _ k => z_cst hB k) (fun hB => ?_)
    refine q_s hB (fun _ _ k => z_iushr hB k) (fun hB => ?_)
    refine q_s hB (fun _ _ k => z_cst hB k) (fun hB => ?_)
    refine q_s hB (fun _ _ k => z_iand hB k) (fun hB => ?_)
    refine q_s hB (fun _ _ k => z_if_ne hB (fun _ => k) (fun h _ => absurd h (c0))) (fun hB => ?_)
    exact fin w L U W h (Or.inl rfl)
theorem n_s1 (hl : G.2.2.stackTraces = false) (W : WI G w n d a b ro na T N) (h : cIv n L U V (w_I w)) (hp : PmL L) (eF : 1 ≤ qF L ∧ qF L ≤ 4) (eT : 1 ≤ T ∧ T ≤ 2) (eN : 1 ≤ N ∧ N ≤ 2) {st : Nat} (hst : st < 20) {x8 x9 x10 x11 x12 x13 x14 x15 : Option Value} (fin : ∀ (J : z_H) (g : Nat → Int64) (v : Int32) (k0 f t x m r : Nat), k0 < 2 → f < qF L → t < T → x < 4 → m < N → (1 ≤ r ∧ r ≤ 4) → cIv n L U (sV V k0 L) J → (∀ c, c < 100 → g c = svL L c) → z_Q G 216 188 [some (.ref ev_S), some (.ref 0), some (.ref 241), some (.ref d), some (.ref s), some (.ref a), some (.ref b), some (.int (jn st)), some (.int v), some (.int (jn k0)), some (.int (jn f)), some (.int (jn t)), some (.int (jn x)), some (.int (jn m)), some (.int (jn r)), x15, x16, x17, x18] [] (z_w (w_tJ w a g) J) P) : z_Q G 216 69 [some (.ref ev_S), some (.ref 0), some (.ref 241), some (.ref d), some (.ref s), some (.ref a), some (.ref b), some (.int (jn st)), x8, x9, x10, x11, x12, x13, x14, x15, x16, x17, x18] [] w P := by
  have g0 := h.2.2.1
  have kc := n_cell hl W.2.2.2.2.2.2.2.1 (k := 10 + st) (by omega)
  generalize sc w (10 + st) = v at kc
  obtain ⟨k0, hk0, e0⟩ := jandr (a := 1) (by omega) v
  obtain ⟨f0, hf0, ef⟩ := jandr (a := 15) (by omega) ((v.toUInt32 >>> ((jn 5).toUInt32 &&& Int32.toUInt32 31)).toInt32)
  obtain ⟨t0, ht0, et⟩ := jandr (a := 1) (by omega) ((v.toUInt32 >>> ((jn 9).toUInt32 &&& Int32.toUInt32 31)).toInt32)
  obtain ⟨x0, hx0, ex⟩ := jandr (a := 3) (by omega) ((v.toUInt32 >>> ((jn 10).toUInt32 &&& Int32.toUInt32 31)).toInt32)
  obtain ⟨m0, hm0, em⟩ := jandr (a := 1) (by omega) ((v.toUInt32 >>> ((jn 12).toUInt32 &&& Int32.toUInt32 31)).toInt32)
  obtain ⟨r0, hr0, er⟩ := jandr (a := 3) (by omega) ((v.toUInt32 >>> ((jn 13).toUInt32 &&& Int32.toUInt32 31)).toInt32)
  have m1 : jn f0 - jn f0 / jn (qF L) * jn (qF L) = jn (f0 % qF L) := jmodF ⟨f0, by omega⟩ ⟨qF L, by omega⟩ (by show 0 < qF L; omega)
  have m2 : jn t0 - jn t0 / jn T * jn T = jn (t0 % T) := jmodF ⟨t0, by omega⟩ ⟨T, by omega⟩ (by show 0 < T; omega)
  have m3 : jn m0 - jn m0 / jn N * jn N = jn (m0 % N) := jmodF ⟨m0, by omega⟩ ⟨N, by omega⟩ (by show 0 < N; omega)
  have k1 := kc_count W.1 W.2.1 h (k := 4) (by omega)
  rw [show ycount L 4 = jn (qF L) from rfl] at k1
  obtain ⟨v5, w5, k5, e5, g, e5w, e5g⟩ := n_sees (a := a) hl W.1 W.2.1 h W.2.2.2.2.2.1
  rw [e5, e5w] at k5
  obtain ⟨J, c1, k6⟩ := kd_save (w := w_tJ w a g) W.1 W.2.1 h (k := k0) (by omega)
  have q1 : lg_cmp (qs L 0).toInt64 (w_J (z_w (w_tJ w a g) J) a 5) = jn 0 := by
    show lg_cmp (qs L 0).toInt64 (w_J (w_tJ w a g) a 5) = _
    rw [tJ_at, e5g 5 (by omega), sv_c (by omega)]
    exact lcmp_self _
  have k7 := kc_gap (w := z_w (w_tJ w a g) J) W.1 W.2.1 c1
  rw [gap0 g0 hp] at k7
  obtain ⟨v8, w8, k8, e8, e8w⟩ := n_own (w := z_w (w_tJ w a g) J) hl W.1 W.2.1 c1 hp.1 (own2 hp)
  rw [e8, e8w] at k8
  have hB : z_all [z_is 216 69 (zf_aload 69 0 70), z_is 216 70 (zf_cst 70 (jn 10) 72), z_is 216 72 (zf_iload 72 7 74), z_is 216 74 (zf_iadd 74 75), z_is 216 75 (zf_cs 75 157 2 78), z_is 216 78 (zf_istore 78 8 80), z_is 216 80 (zf_iload 80 8 82), z_is 216 82 (zf_cst 82 (jn 1) 83), z_is 216 83 (zf_iand 83 84), z_is 216 84 (zf_istore 84 9 86), z_is 216 86 (zf_iload 86 8 88), z_is 216 88 (zf_cst 88 (jn 5) 89), z_at 216 89 (zf_iushr 89 90), z_is 216 90 (zf_cst 90 (jn 15) 92), z_is 216 92 (zf_iand 92 93), z_is 216 93 (zf_aload 93 1 94), z_is 216 94 (zf_cst 94 (jn 4) 95), z_is 216 95 (zf_cv 95 107 1 7 98), z_is 216 98 (zf_irem 98 99), z_is 216 99 (zf_istore 99 10 101), z_is 216 101 (zf_iload 101 8 103), z_is 216 103 (zf_cst 103 (jn 9) 105), z_at 216 105 (zf_iushr 105 106), z_is 216 106 (zf_cst 106 (jn 1) 107), z_is 216 107 (zf_iand 107 108), z_is 216 108 (zf_aload 108 3 109), z_at 216 109 (zf_gr 109 8 9 112), z_at 216 112 (zx_alen 112 113), z_is 216 113 (zf_irem 113 114), z_is 216 114 (zf_istore 114 11 116), z_is 216 116 (zf_iload 116 8 118), z_is 216 118 (zf_cst 118 (jn 10) 120), z_at 216 120 (zf_iushr 120 121), z_is 216 121 (zf_cst 121 (jn 3) 122), z_is 216 122 (zf_iand 122 123), z_is 216 123 (zf_istore 123 12 125), z_is 216 125 (zf_iload 125 8 127), z_is 216 127 (zf_cst 127 (jn 12) 129), z_at 216 129 (zf_iushr 129 130), z_is 216 130 (zf_cst 130 (jn 1) 131), z_is 216 131 (zf_iand 131 132), z_is 216 132 (zf_aload 132 3 133), z_at 216 133 (zf_gr 133 8 10 136), z_at 216 136 (zx_alen2 136 137), z_is 216 137 (zf_irem 137 138), z_is 216 138 (zf_istore 138 13 140), z_is 216 140 (zf_cst 140 (jn 1) 141), z_is 216 141 (zf_iload 141 8 143), z_is 216 143 (zf_cst 143 (jn 13) 145), z_at 216 145 (zf_iushr 145 146), z_is 216 146 (zf_cst 146 (jn 3) 147), z_is 216 147 (zf_iand 147 148), z_is 216 148 (zf_iadd 148 149), z_is 216 149 (zf_istore 149 14 151), z_is 216 151 (zf_aload 151 1 152), z_is 216 152 (zf_aload 152 5 154), z_is 216 154 (zf_cs 154 162 2 157), z_is 216 157 (zf_aload 157 1 158), z_is 216 158 (zf_iload 158 9 160), z_is 216 160 (zf_cv 160 137 1 7 163), z_at 216 163 (zx_ilong 163 164), z_is 216 164 (zf_aload 164 5 166), z_is 216 166 (zf_cst 166 (jn 5) 167), z_at 216 167 (zx_lald 167 168), z_at 216 168 (zx_lcmp 168 169), z_is 216 169 (zf_if1 .ne 169 186 172), z_is 216 172 (zf_aload 172 1 173), z_is 216 173 (zf_cv 173 113 0 7 176), z_is 216 176 (zf_if1 .ne 176 186 179), z_is 216 179 (zf_aload 179 1 180), z_is 216 180 (zf_cs 180 161 1 183), z_is 216 183 (zf_if1 .ne 183 188 186)] = true := by decide +kernel
  refine q_s hB (fun _ _ k => z_aload hB rfl k) (fun hB => ?_)
  refine q_s hB (fun _ _ k => z_cst hB k) (fun hB => ?_)
  refine q_s hB (fun _ _ k => z_iload hB rfl k) (fun hB => ?_)
  refine q_s hB (fun _ _ k => z_iadd hB k) (fun hB => ?_)
  rw [jn_add]
  refine q_s hB (fun _ _ k => z_callS hB (rest := []) rfl rfl rfl kc k) (fun hB => ?_)
  refine q_s hB (fun _ _ k => z_istore hB rfl rfl k) (fun hB => ?_)
  refine q_s hB (fun _ _ k => z_iload hB rfl k) (fun hB => ?_)
  refine q_s hB (fun _ _ k => z_cst hB k) (fun hB => ?_)
  refine q_s hB (fun _ _ k => z_iand hB k) (fun hB => ?_)
  rw [e0]
  refine q_s hB (fun _ _ k => z_istore hB rfl rfl k) (fun hB => ?_)
  refine q_s hB (fun _ _ k => z_iload hB rfl k) (fun hB => ?_)
  refine q_s hB (fun _ _ k => z_cst hB k) (fun hB => ?_)
  refine q_s hB (fun _ _ k => z_iushr hB k) (fun hB => ?_)
  refine q_s hB (fun _ _ k => z_cst hB k) (fun hB => ?_)
  refine q_s hB (fun _ _ k => z_iand hB k) (fun hB => ?_)
  rw [ef]
  refine q_s hB (fun _ _ k => z_aload hB rfl k) (fun hB => ?_)
  refine q_s hB (fun _ _ k => z_cst hB k) (fun hB => ?_)
  refine q_s hB (fun _ _ k => z_callV hB (rest := [.int (jn f0)]) rfl rfl rfl (z_ok0 W.1).1 (z_ok0 W.1).2 k1 k) (fun hB => ?_)
  refine q_s hB (fun _ _ k => z_irem hB (by show ¬ jn (qF L) = jn 0; rw [jn_eq (by omega) (by omega)]; omega) k) (fun hB => ?_)
  rw [m1]
  refine q_s hB (fun _ _ k => z_istore hB rfl rfl k) (fun hB => ?_)
  refine q_s hB (fun _ _ k => z_iload hB rfl k) (fun hB => ?_)
  refine q_s hB (fun _ _ k => z_cst hB k) (fun hB => ?_)
  refine q_s hB (fun _ _ k => z_iushr hB k) (fun hB => ?_)
  refine q_s hB (fun _ _ k => z_cst hB k) (fun hB => ?_)
  refine q_s hB (fun _ _ k => z_iand hB k) (fun hB => ?_)
  rw [et]
  refine q_s hB (fun _ _ k => z_aload hB rfl k) (fun hB => ?_)
  refine q_s hB (fun _ _ k => x_getr hB W.2.2.1.1.1 W.2.2.1.1.2 W.2.2.1.2.1 k) (fun hB => ?_)
  refine q_s hB (fun _ _ k => x_alen hB W.2.2.2.1.1 (by rw [W.2.2.2.1.2.1]; omega) (by rw [W.2.2.2.1.2.1]; omega) k) (fun hB => ?_)
  rw [W.2.2.2.1.2.2, show Int32.ofNat T = jn T from rfl]
  refine q_s hB (fun _ _ k => z_irem hB (by show ¬ jn (T) = jn 0; rw [jn_eq (by omega) (by omega)]; omega) k) (fun hB => ?_)
  rw [m2]
  refine q_s hB (fun _ _ k => z_istore hB rfl rfl k) (fun hB => ?_)
  refine q_s hB (fun _ _ k => z_iload hB rfl k) (fun hB => ?_)
  refine q_s hB (fun _ _ k => z_cst hB k) (fun hB => ?_)
  refine q_s hB (fun _ _ k => z_iushr hB k) (fun hB => ?_)
  refine q_s hB (fun _ _ k => z_cst hB k) (fun hB => ?_)
  refine q_s hB (fun _ _ k => z_iand hB k) (fun hB => ?_)
  rw [ex]
  refine q_s hB (fun _ _ k => z_istore hB rfl rfl k) (fun hB => ?_)
  refine q_s hB (fun _ _ k => z_iload hB rfl k) (fun hB => ?_)
  refine q_s hB (fun _ _ k => z_cst hB k) (fun hB => ?_)
  refine q_s hB (fun _ _ k => z_iushr hB k) (fun hB => ?_)
  refine q_s hB (fun _ _ k => z_cst hB k) (fun hB => ?_)
  refine q_s hB (fun _ _ k => z_iand hB k) (fun hB => ?_)
  rw [em]
  refine q_s hB (fun _ _ k => z_aload hB rfl k) (fun hB => ?_)
  refine q_s hB (fun _ _ k => x_getr hB W.2.2.1.1.1 W.2.2.1.1.2 W.2.2.1.2.2 k) (fun hB => ?_)
  refine q_s hB (fun _ _ k => x_alen2 hB W.2.2.2.2.1.1 W.2.2.2.2.1.2.1 k) (fun hB => ?_)
  rw [W.2.2.2.2.1.2.2, show Int32.ofNat N = jn N from rfl]
  refine q_s hB (fun _ _ k => z_irem hB (by show ¬ jn (N) = jn 0; rw [jn_eq (by omega) (by omega)]; omega) k) (fun hB => ?_)
  rw [m3]
  refine q_s hB (fun _ _ k => z_istore hB rfl rfl k) (fun hB => ?_)
  refine q_s hB (fun _ _ k => z_cst hB k) (fun hB => ?_)
  refine q_s hB (fun _ _ k => z_iload hB rfl k) (fun hB => ?_)
  refine q_s hB (fun _ _ k => z_cst hB k) (fun hB => ?_)
  refine q_s hB (fun _ _ k => z_iushr hB k) (fun hB => ?_)
  refine q_s hB (fun _ _ k => z_cst hB k) (fun hB => ?_)
  refine q_s hB (fun _ _ k => z_iand hB k) (fun hB => ?_)
  rw [er]
  refine q_s hB (fun _ _ k => z_iadd hB k) (fun hB => ?_)
  rw [jn_add]
  refine q_s hB (fun _ _ k => z_istore hB rfl rfl k) (fun hB => ?_)
  refine q_s hB (fun _ _ k => z_aload hB rfl k) (fun hB => ?_)
  refine q_s hB (fun _ _ k => z_aload hB rfl k) (fun hB => ?_)
  refine q_s hB (fun _ _ k => z_callS hB (rest := []) rfl rfl rfl k5 k) (fun hB => ?_)
  refine q_s hB (fun _ _ k => z_aload hB rfl k) (fun hB => ?_)
  refine q_s hB (fun _ _ k => z_iload hB rfl k) (fun hB => ?_)
  refine q_s hB (fun _ _ k => z_callV hB (rest := []) rfl rfl rfl (z_ok0 W.1).1 (z_ok0 W.1).2 k6 k) (fun hB => ?_)
  refine q_s hB (fun _ _ k => x_ilong hB k) (fun hB => ?_)
  refine q_s hB (fun _ _ k => z_aload hB rfl k) (fun hB => ?_)
  refine q_s hB (fun _ _ k => z_cst hB k) (fun hB => ?_)
  refine q_s hB (fun _ _ k => x_lald hB W.2.2.2.2.2.1.1 W.2.2.2.2.2.1.2.1 (by show ev_ok _ (w_L w a) = true; rw [W.2.2.2.2.2.1.2.2]; decide) k) (fun hB => ?_)
  refine q_s hB (fun _ _ k => x_lcmp hB k) (fun hB => ?_)
  refine q_s hB (fun _ _ k => z_if_ne hB (fun h _ => absurd (q1) h) (fun _ => k)) (fun hB => ?_)
  refine q_s hB (fun _ _ k => z_aload hB rfl k) (fun hB => ?_)
  refine q_s hB (fun _ _ k => z_callV hB (rest := []) rfl rfl rfl (z_ok0 W.1).1 (z_ok0 W.1).2 k7 k) (fun hB => ?_)
  refine q_s hB (fun _ _ k => z_if_ne hB (fun h _ => absurd (rfl) h) (fun _ => k)) (fun hB => ?_)
  refine q_s hB (fun _ _ k => z_aload hB rfl k) (fun hB => ?_)
  refine q_s hB (fun _ _ k => z_callS hB (rest := []) rfl rfl rfl k8 k) (fun hB => ?_)
  refine q_s hB (fun _ _ k => z_if_ne hB (fun _ => k) (fun h _ => absurd h ((by decide)))) (fun hB => ?_)
  exact fin J g v k0 (f0 % qF L) (t0 % T) x0 (m0 % N) (1 + r0) (by omega) (Nat.mod_lt _ (by omega)) (Nat.mod_lt _ (by omega)) (by omega) (Nat.mod_lt _ (by omega)) (by omega) c1 e5g
theorem n_s3 (W : WI G w n d a b ro na T N) (h : cIv n L U V (w_I w)) (hp : PmL L) (hE : Exz z L) (hz : z < 150) (hf : f < qF L) (ht : t < qT L) (hx : x < 4) (hm : m < qN L) (hr : 1 ≤ r ∧ r ≤ 4) (hw : ∀ c, c < 100 → w_J w a c = svL L c) {x15 : Option Value} (fin : ∀ u, LFin z G P w n L V (fun y16 y17 y18 => [some (.ref ev_S), some (.ref 0), some (.ref 241), some (.ref d), some (.ref s), some (.ref a), some (.ref b), x7, some (.int v), some (.int (jn k0)), some (.int (jn f)), some (.int (jn t)), some (.int (jn x)), some (.int (jn m)), some (.int (jn r)), some (.int u), y16, y17, y18])) : z_Q G 216 188 [some (.ref ev_S), some (.ref 0), some (.ref 241), some (.ref d), some (.ref s), some (.ref a), some (.ref b), x7, some (.int v), some (.int (jn k0)), some (.int (jn f)), some (.int (jn t)), some (.int (jn x)), some (.int (jn m)), some (.int (jn r)), x15, x16, x17, x18] [] w P := by
  obtain ⟨u0, hu0, eu⟩ := jandr (a := 15) (by omega) ((v.toUInt32 >>> ((jn 1).toUInt32 &&& Int32.toUInt32 31)).toInt32)
  by_cases c0 : u0 < 3
  · have hB : z_all [z_is 216 188 (zf_iload 188 8 190), z_is 216 190 (zf_cst 190 (jn 1) 191), z_at 216 191 (zf_iushr 191 192), z_is 216 192 (zf_cst 192 (jn 15) 194), z_is 216 194 (zf_iand 194 195), z_is 216 195 (zf_istore 195 15 197), z_is 216 197 (zf_iload 197 15 199), z_is 216 199 (zf_cst 199 (jn 3) 200), z_is 216 200 (zf_if2 .ge 200 266 203)] = true := by decide +kernel
    refine q_s hB (fun _ _ k => z_iload hB rfl k) (fun hB => ?_)
    refine q_s hB (fun _ _ k => z_cst hB k) (fun hB => ?_)
    refine q_s hB (fun _ _ k => z_iushr hB k) (fun hB => ?_)
    refine q_s hB (fun _ _ k => z_cst hB k) (fun hB => ?_)
    refine q_s hB (fun _ _ k => z_iand hB k) (fun hB => ?_)
    rw [eu]
    refine q_s hB (fun _ _ k => z_istore hB rfl rfl k) (fun hB => ?_)
    refine q_s hB (fun _ _ k => z_iload hB rfl k) (fun hB => ?_)
    refine q_s hB (fun _ _ k => z_cst hB k) (fun hB => ?_)
    refine q_s hB (fun _ _ k => z_ic_ge hB (fun h _ => absurd ((by rw [jn_lt (by omega) (by omega)]; omega)) h) (fun _ => k)) (fun hB => ?_)
    exact lc_put W.1 W.2.1 h hp hE hf ht (fin (jn u0))
  · have d0 : ¬ u0 < 3 := c0
    by_cases c1 : u0 < 6
    · have hB : z_all [z_is 216 188 (zf_iload 188 8 190), z_is 216 190 (zf_cst 190 (jn 1) 191), z_at 216 191 (zf_iushr 191 192), z_is 216 192 (zf_cst 192 (jn 15) 194), z_is 216 194 (zf_iand 194 195), z_is 216 195 (zf_istore 195 15 197), z_is 216 197 (zf_iload 197 15 199), z_is 216 199 (zf_cst 199 (jn 3) 200), z_is 216 200 (zf_if2 .ge 200 266 203), z_is 216 266 (zf_iload 266 15 268), z_is 216 268 (zf_cst 268 (jn 6) 270), z_is 216 270 (zf_if2 .ge 270 373 273)] = true := by decide +kernel
      refine q_s hB (fun _ _ k => z_iload hB rfl k) (fun hB => ?_)
      refine q_s hB (fun _ _ k => z_cst hB k) (fun hB => ?_)
      refine q_s hB (fun _ _ k => z_iushr hB k) (fun hB => ?_)
      refine q_s hB (fun _ _ k => z_cst hB k) (fun hB => ?_)
      refine q_s hB (fun _ _ k => z_iand hB k) (fun hB => ?_)
      rw [eu]
      refine q_s hB (fun _ _ k => z_istore hB rfl rfl k) (fun hB => ?_)
      refine q_s hB (fun _ _ k => z_iload hB rfl k) (fun hB => ?_)
      refine q_s hB (fun _ _ k => z_cst hB k) (fun hB => ?_)
      refine q_s hB (fun _ _ k => z_ic_ge hB (fun _ => k) (fun h _ => absurd h ((by rw [jn_lt (by omega) (by omega)]; omega)))) (fun hB => ?_)
      refine q_s hB (fun _ _ k => z_iload hB rfl k) (fun hB => ?_)
      refine q_s hB (fun _ _ k => z_cst hB k) (fun hB => ?_)
      refine q_s hB (fun _ _ k => z_ic_ge hB (fun h _ => absurd ((by rw [jn_lt (by omega) (by omega)]; omega)) h) (fun _ => k)) (fun hB => ?_)
      exact lc_wash W.1 W.2.1 h hp hE W.2.2.2.2.2.1 hw ht (fin (jn u0))
    · have d1 : ¬ u0 < 6 := c1
      by_cases c2 : u0 = 6
      · have hB : z_all [z_is 216 188 (zf_iload 188 8 190), z_is 216 190 (zf_cst 190 (jn 1) 191), z_at 216 191 (zf_iushr 191 192), z_is 216 192 (zf_cst 192 (jn 15) 194), z_is 216 194 (zf_iand 194 195), z_is 216 195 (zf_istore 195 15 197), z_is 216 197 (zf_iload 197 15 199), z_is 216 199 (zf_cst 199 (jn 3) 200), z_is 216 200 (zf_if2 .ge 200 266 203), z_is 216 266 (zf_iload 266 15 268), z_is 216 268 (zf_cst 268 (jn 6) 270), z_is 216 270 (zf_if2 .ge 270 373 273), z_is 216 373 (zf_iload 373 15 375), z_is 216 375 (zf_cst 375 (jn 6) 377), z_is 216 377 (zf_if2 .ne 377 434 380)] = true := by decide +kernel
        refine q_s hB (fun _ _ k => z_iload hB rfl k) (fun hB => ?_)
        refine q_s hB (fun _ _ k => z_cst hB k) (fun hB => ?_)
        refine q_s hB (fun _ _ k => z_iushr hB k) (fun hB => ?_)
        refine q_s hB (fun _ _ k => z_cst hB k) (fun hB => ?_)
        refine q_s hB (fun _ _ k => z_iand hB k) (fun hB => ?_)
        rw [eu]
        refine q_s hB (fun _ _ k => z_istore hB rfl rfl k) (fun hB => ?_)
        refine q_s hB (fun _ _ k => z_iload hB rfl k) (fun hB => ?_)
        refine q_s hB (fun _ _ k => z_cst hB k) (fun hB => ?_)
        refine q_s hB (fun _ _ k => z_ic_ge hB (fun _ => k) (fun h _ => absurd h ((by rw [jn_lt (by omega) (by omega)]; omega)))) (fun hB => ?_)
        refine q_s hB (fun _ _ k => z_iload hB rfl k) (fun hB => ?_)
        refine q_s hB (fun _ _ k => z_cst hB k) (fun hB => ?_)
        refine q_s hB (fun _ _ k => z_ic_ge hB (fun _ => k) (fun h _ => absurd h ((by rw [jn_lt (by omega) (by omega)]; omega)))) (fun hB => ?_)
        refine q_s hB (fun _ _ k => z_iload hB rfl k) (fun hB => ?_)
        refine q_s hB (fun _ _ k => z_cst hB k) (fun hB => ?_)
        refine q_s hB (fun _ _ k => z_ic_ne hB (fun h _ => absurd ((by rw [jn_eq (by omega) (by omega)]; omega)) h) (fun _ => k)) (fun hB => ?_)
        exact lc_safe W.1 W.2.1 h hp hE ht hx (fin (jn u0))
      · have d2 : ¬ u0 = 6 := c2
        by_cases c3 : u0 = 7
        · have hB : z_all [z_is 216 188 (zf_iload 188 8 190), z_is 216 190 (zf_cst 190 (jn 1) 191), z_at 216 191 (zf_iushr 191 192), z_is 216 192 (zf_cst 192 (jn 15) 194), z_is 216 194 (zf_iand 194 195), z_is 216 195 (zf_istore 195 15 197), z_is 216 197 (zf_iload 197 15 199), z_is 216 199 (zf_cst 199 (jn 3) 200), z_is 216 200 (zf_if2 .ge 200 266 203), z_is 216 266 (zf_iload 266 15 268), z_is 216 268 (zf_cst 268 (jn 6) 270), z_is 216 270 (zf_if2 .ge 270 373 273), z_is 216 373 (zf_iload 373 15 375), z_is 216 375 (zf_cst 375 (jn 6) 377), z_is 216 377 (zf_if2 .ne 377 434 380), z_is 216 434 (zf_iload 434 15 436), z_is 216 436 (zf_cst 436 (jn 7) 438), z_is 216 438 (zf_if2 .ne 438 497 441)] = true := by decide +kernel
          refine q_s hB (fun _ _ k => z_iload hB rfl k) (fun hB => ?_)
          refine q_s hB (fun _ _ k => z_cst hB k) (fun hB => ?_)
          refine q_s hB (fun _ _ k => z_iushr hB k) (fun hB => ?_)
          refine q_s hB (fun _ _ k => z_cst hB k) (fun hB => ?_)
          refine q_s hB (fun _ _ k => z_iand hB k) (fun hB => ?_)
          rw [eu]
          refine q_s hB (fun _ _ k => z_istore hB rfl rfl k) (fun hB => ?_)
          refine q_s hB (fun _ _ k => z_iload hB rfl k) (fun hB => ?_)
          refine q_s hB (fun _ _ k => z_cst hB k) (fun hB => ?_)
          refine q_s hB (fun _ _ k => z_ic_ge hB (fun _ => k) (fun h _ => absurd h ((by rw [jn_lt (by omega) (by omega)]; omega)))) (fun hB => ?_)
          refine q_s hB (fun _ _ k => z_iload hB rfl k) (fun hB => ?_)
          refine q_s hB (fun _ _ k => z_cst hB k) (fun hB => ?_)
          refine q_s hB (fun _ _ k => z_ic_ge hB (fun _ => k) (fun h _ => absurd h ((by rw [jn_lt (by omega) (by omega)]; omega)))) (fun hB => ?_)
          refine q_s hB (fun _ _ k => z_iload hB rfl k) (fun hB => ?_)
          refine q_s hB (fun _ _ k => z_cst hB k) (fun hB => ?_)
          refine q_s hB (fun _ _ k => z_ic_ne hB (fun _ => k) (fun h _ => absurd h ((by rw [jn_eq (by omega) (by omega)]; omega)))) (fun hB => ?_)
          refine q_s hB (fun _ _ k => z_iload hB rfl k) (fun hB => ?_)
          refine q_s hB (fun _ _ k => z_cst hB k) (fun hB => ?_)
          refine q_s hB (fun _ _ k => z_ic_ne hB (fun h _ => absurd ((by rw [jn_eq (by omega) (by omega)]; omega)) h) (fun _ => k)) (fun hB => ?_)
          exact lc_hang W.1 W.2.1 h hp hE W.2.2.2.2.2.1 hw (fin (jn u0))
        · have d3 : ¬ u0 = 7 := c3
          by_cases c4 : u0 < 10
          · have hB : z_all [z_is 216 188 (zf_iload 188 8 190), z_is 216 190 (zf_cst 190 (jn 1) 191), z_at 216 191 (zf_iushr 191 192), z_is 216 192 (zf_cst 192 (jn 15) 194), z_is 216 194 (zf_iand 194 195), z_is 216 195 (zf_istore 195 15 197), z_is 216 197 (zf_iload 197 15 199), z_is 216 199 (zf_cst 199 (jn 3) 200), z_is 216 200 (zf_if2 .ge 200 266 203), z_is 216 266 (zf_iload 266 15 268), z_is 216 268 (zf_cst 268 (jn 6) 270), z_is 216 270 (zf_if2 .ge 270 373 273), z_is 216 373 (zf_iload 373 15 375), z_is 216 375 (zf_cst 375 (jn 6) 377), z_is 216 377 (zf_if2 .ne 377 434 380), z_is 216 434 (zf_iload 434 15 436), z_is 216 436 (zf_cst 436 (jn 7) 438), z_is 216 438 (zf_if2 .ne 438 497 441), z_is 216 497 (zf_iload 497 15 499), z_is 216 499 (zf_cst 499 (jn 10) 501), z_is 216 501 (zf_if2 .ge 501 578 504)] = true := by decide +kernel
            refine q_s hB (fun _ _ k => z_iload hB rfl k) (fun hB => ?_)
            refine q_s hB (fun _ _ k => z_cst hB k) (fun hB => ?_)
            refine q_s hB (fun _ _ k => z_iushr hB k) (fun hB => ?_)
            refine q_s hB (fun _ _ k => z_cst hB k) (fun hB => ?_)
            refine q_s hB (fun _ _ k => z_iand hB k) (fun hB => ?_)
            rw [eu]
            refine q_s hB (fun _ _ k => z_istore hB rfl rfl k) (fun hB => ?_)
            refine q_s hB (fun _ _ k => z_iload hB rfl k) (fun hB => ?_)
            refine q_s hB (fun _ _ k => z_cst hB k) (fun hB => ?_)
            refine q_s hB (fun _ _ k => z_ic_ge hB (fun _ => k) (fun h _ => absurd h ((by rw [jn_lt (by omega) (by omega)]; omega)))) (fun hB => ?_)
            refine q_s hB (fun _ _ k => z_iload hB rfl k) (fun hB => ?_)
            refine q_s hB (fun _ _ k => z_cst hB k) (fun hB => ?_)
            refine q_s hB (fun _ _ k => z_ic_ge hB (fun _ => k) (fun h _ => absurd h ((by rw [jn_lt (by omega) (by omega)]; omega)))) (fun hB => ?_)
            refine q_s hB (fun _ _ k => z_iload hB rfl k) (fun hB => ?_)
            refine q_s hB (fun _ _ k => z_cst hB k) (fun hB => ?_)
            refine q_s hB (fun _ _ k => z_ic_ne hB (fun _ => k) (fun h _ => absurd h ((by rw [jn_eq (by omega) (by omega)]; omega)))) (fun hB => ?_)
            refine q_s hB (fun _ _ k => z_iload hB rfl k) (fun hB => ?_)
            refine q_s hB (fun _ _ k => z_cst hB k) (fun hB => ?_)
            refine q_s hB (fun _ _ k => z_ic_ne hB (fun _ => k) (fun h _ => absurd h ((by rw [jn_eq (by omega) (by omega)]; omega)))) (fun hB => ?_)
            refine q_s hB (fun _ _ k => z_iload hB rfl k) (fun hB => ?_)
            refine q_s hB (fun _ _ k => z_cst hB k) (fun hB => ?_)
            refine q_s hB (fun _ _ k => z_ic_ge hB (fun h _ => absurd ((by rw [jn_lt (by omega) (by omega)]; omega)) h) (fun _ => k)) (fun hB => ?_)
            exact lc_pass W.1 W.2.1 h hp hE W.2.2.2.2.2.1 hw hf hr hz (fin (jn u0))
          · have d4 : ¬ u0 < 10 := c4
            by_cases c5 : u0 < 12
            · have hB : z_all [z_is 216 188 (zf_iload 188 8 190), z_is 216 190 (zf_cst 190 (jn 1) 191), z_at 216 191 (zf_iushr 191 192), z_is 216 192 (zf_cst 192 (jn 15) 194), z_is 216 194 (zf_iand 194 195), z_is 216 195 (zf_istore 195 15 197), z_is 216 197 (zf_iload 197 15 199), z_is 216 199 (zf_cst 199 (jn 3) 200), z_is 216 200 (zf_if2 .ge 200 266 203), z_is 216 266 (zf_iload 266 15 268), z_is 216 268 (zf_cst 268 (jn 6) 270), z_is 216 270 (zf_if2 .ge 270 373 273), z_is 216 373 (zf_iload 373 15 375), z_is 216 375 (zf_cst 375 (jn 6) 377), z_is 216 377 (zf_if2 .ne 377 434 380), z_is 216 434 (zf_iload 434 15 436), z_is 216 436 (zf_cst 436 (jn 7) 438), z_is 216 438 (zf_if2 .ne 438 497 441), z_is 216 497 (zf_iload 497 15 499), z_is 216 499 (zf_cst 499 (jn 10) 501), z_is 216 501 (zf_if2 .ge 501 578 504), z_is 216 578 (zf_iload 578 15 580), z_is 216 580 (zf_cst 580 (jn 12) 582), z_is 216 582 (zf_if2 .ge 582 686 585)] = true := by decide +kernel
              refine q_s hB (fun _ _ k => z_iload hB rfl k) (fun hB => ?_)
              refine q_s hB (fun _ _ k => z_cst hB k) (fun hB => ?_)
              refine q_s hB (fun _ _ k => z_iushr hB k) (fun hB => ?_)
              refine q_s hB (fun _ _ k => z_cst hB k) (fun hB => ?_)
              refine q_s hB (fun _ _ k => z_iand hB k) (fun hB => ?_)
              rw [eu]
              refine q_s hB (fun _ _ k => z_istore hB rfl rfl k) (fun hB => ?_)
              refine q_s hB (fun _ _ k => z_iload hB rfl k) (fun hB => ?_)
              refine q_s hB (fun _ _ k => z_cst hB k) (fun hB => ?_)
              refine q_s hB (fun _ _ k => z_ic_ge hB (fun _ => k) (fun h _ => absurd h ((by rw [jn_lt (by omega) (by omega)]; omega)))) (fun hB => ?_)
              refine q_s hB (fun _ _ k => z_iload hB rfl k) (fun hB => ?_)
              refine q_s hB (fun _ _ k => z_cst hB k) (fun hB => ?_)
              refine q_s hB (fun _ _ k => z_ic_ge hB (fun _ => k) (fun h _ => absurd h ((by rw [jn_lt (by omega) (by omega)]; omega)))) (fun hB => ?_)
              refine q_s hB (fun _ _ k => z_iload hB rfl k) (fun hB => ?_)
              refine q_s hB (fun _ _ k => z_cst hB k) (fun hB => ?_)
              refine q_s hB (fun _ _ k => z_ic_ne hB (fun _ => k) (fun h _ => absurd h ((by rw [jn_eq (by omega) (by omega)]; omega)))) (fun hB => ?_)
              refine q_s hB (fun _ _ k => z_iload hB rfl k) (fun hB => ?_)
              refine q_s hB (fun _ _ k => z_cst hB k) (fun hB => ?_)
              refine q_s hB (fun _ _ k => z_ic_ne hB (fun _ => k) (fun h _ => absurd h ((by rw [jn_eq (by omega) (by omega)]; omega)))) (fun hB => ?_)
              refine q_s hB (fun _ _ k => z_iload hB rfl k) (fun hB => ?_)
              refine q_s hB (fun _ _ k => z_cst hB k) (fun hB => ?_)
              refine q_s hB (fun _ _ k => z_ic_ge hB (fun _ => k) (fun h _ => absurd h ((by rw [jn_lt (by omega) (by omega)]; omega)))) (fun hB => ?_)
              refine q_s hB (fun _ _ k => z_iload hB rfl k) (fun hB => ?_)
              refine q_s hB (fun _ _ k => z_cst hB k) (fun hB => ?_)
              refine q_s hB (fun _ _ k => z_ic_ge hB (fun h _ => absurd ((by rw [jn_lt (by omega) (by omega)]; omega)) h) (fun _ => k)) (fun hB => ?_)
              exact lc_iron W.1 W.2.1 h hp hE hf hx (fin (jn u0))
            · have d5 : ¬ u0 < 12 := c5
              by_cases c6 : u0 = 12
              · have hB : z_all [z_is 216 188 (zf_iload 188 8 190), z_is 216 190 (zf_cst 190 (jn 1) 191), z_at 216 191 (zf_iushr 191 192), z_is 216 192 (zf_cst 192 (jn 15) 194), z_is 216 194 (zf_iand 194 195), z_is 216 195 (zf_istore 195 15 197), z_is 216 197 (zf_iload 197 15 199), z_is 216 199 (zf_cst 199 (jn 3) 200), z_is 216 200 (zf_if2 .ge 200 266 203), z_is 216 266 (zf_iload 266 15 268), z_is 216 268 (zf_cst 268 (jn 6) 270), z_is 216 270 (zf_if2 .ge 270 373 273), z_is 216 373 (zf_iload 373 15 375), z_is 216 375 (zf_cst 375 (jn 6) 377), z_is 216 377 (zf_if2 .ne 377 434 380), z_is 216 434 (zf_iload 434 15 436), z_is 216 436 (zf_cst 436 (jn 7) 438), z_is 216 438 (zf_if2 .ne 438 497 441), z_is 216 497 (zf_iload 497 15 499), z_is 216 499 (zf_cst 499 (jn 10) 501), z_is 216 501 (zf_if2 .ge 501 578 504), z_is 216 578 (zf_iload 578 15 580), z_is 216 580 (zf_cst 580 (jn 12) 582), z_is 216 582 (zf_if2 .ge 582 686 585), z_is 216 686 (zf_iload 686 15 688), z_is 216 688 (zf_cst 688 (jn 12) 690), z_is 216 690 (zf_if2 .ne 690 725 693)] = true := by decide +kernel
                refine q_s hB (fun _ _ k => z_iload hB rfl k) (fun hB => ?_)
                refine q_s hB (fun _ _ k => z_cst hB k) (fun hB => ?_)
                refine q_s hB (fun _ _ k => z_iushr hB k) (fun hB => ?_)
                refine q_s hB (fun _ _ k => z_cst hB k) (fun hB => ?_)
                refine q_s hB (fun _ _ k => z_iand hB k) (fun hB => ?_)
                rw [eu]
                refine q_s hB (fun _ _ k => z_istore hB rfl rfl k) (fun hB => ?_)
                refine q_s hB (fun _ _ k => z_iload hB rfl k) (fun hB => ?_)
                refine q_s hB (fun _ _ k => z_cst hB k) (fun hB => ?_)
                refine q_s hB (fun _ _ k => z_ic_ge hB (fun _ => k) (fun h _ => absurd h ((by rw [jn_lt (by omega) (by omega)]; omega)))) (fun hB => ?_)
                refine q_s hB (fun _ _ k => z_iload hB rfl k) (fun hB => ?_)
                refine q_s hB (fun _ _ k => z_cst hB k) (fun hB => ?_)
                refine q_s hB (fun _ _ k => z_ic_ge hB (fun _ => k) (fun h _ => absurd h ((by rw [jn_lt (by omega) (by omega)]; omega)))) (fun hB => ?_)
                refine q_s hB (fun _ _ k => z_iload hB rfl k) (fun hB => ?_)
                refine q_s hB (fun _ _ k => z_cst hB k) (fun hB => ?_)
                refine q_s hB (fun _ _ k => z_ic_ne hB (fun _ => k) (fun h _ => absurd h ((by rw [jn_eq (by omega) (by omega)]; omega)))) (fun hB => ?_)
                refine q_s hB (fun _ _ k => z_iload hB rfl k) (fun hB => ?_)
                refine q_s hB (fun _ _ k => z_cst hB k) (fun hB => ?_)
                refine q_s hB (fun _ _ k => z_ic_ne hB (fun _ => k) (fun h _ => absurd h ((by rw [jn_eq (by omega) (by omega)]; omega)))) (fun hB => ?_)
                refine q_s hB (fun _ _ k => z_iload hB rfl k) (fun hB => ?_)
                refine q_s hB (fun _ _ k => z_cst hB k) (fun hB => ?_)
                refine q_s hB (fun _ _ k => z_ic_ge hB (fun _ => k) (fun h _ => absurd h ((by rw [jn_lt (by omega) (by omega)]; omega)))) (fun hB => ?_)
                refine q_s hB (fun _ _ k => z_iload hB rfl k) (fun hB => ?_)
                refine q_s hB (fun _ _ k => z_cst hB k) (fun hB => ?_)
                refine q_s hB (fun _ _ k => z_ic_ge hB (fun _ => k) (fun h _ => absurd h ((by rw [jn_lt (by omega) (by omega)]; omega)))) (fun hB => ?_)
                refine q_s hB (fun _ _ k => z_iload hB rfl k) (fun hB => ?_)
                refine q_s hB (fun _ _ k => z_cst hB k) (fun hB => ?_)
                refine q_s hB (fun _ _ k => z_ic_ne hB (fun h _ => absurd ((by rw [jn_eq (by omega) (by omega)]; omega)) h) (fun _ => k)) (fun hB => ?_)
                exact lc_ble W.1 W.2.1 h hp hE hf (fin (jn u0))
              · have d6 : ¬ u0 = 12 := c6
                by_cases c7 : u0 < 15
                · have hB : z_all [z_is 216 188 (zf_iload 188 8 190), z_is 216 190 (zf_cst 190 (jn 1) 191), z_at 216 191 (zf_iushr 191 192), z_is 216 192 (zf_cst 192 (jn 15) 194), z_is 216 194 (zf_iand 194 195), z_is 216 195 (zf_istore 195 15 197), z_is 216 197 (zf_iload 197 15 199), z_is 216 199 (zf_cst 199 (jn 3) 200), z_is 216 200 (zf_if2 .ge 200 266 203), z_is 216 266 (zf_iload 266 15 268), z_is 216 268 (zf_cst 268 (jn 6) 270), z_is 216 270 (zf_if2 .ge 270 373 273), z_is 216 373 (zf_iload 373 15 375), z_is 216 375 (zf_cst 375 (jn 6) 377), z_is 216 377 (zf_if2 .ne 377 434 380), z_is 216 434 (zf_iload 434 15 436), z_is 216 436 (zf_cst 436 (jn 7) 438), z_is 216 438 (zf_if2 .ne 438 497 441), z_is 216 497 (zf_iload 497 15 499), z_is 216 499 (zf_cst 499 (jn 10) 501), z_is 216 501 (zf_if2 .ge 501 578 504), z_is 216 578 (zf_iload 578 15 580), z_is 216 580 (zf_cst 580 (jn 12) 582), z_is 216 582 (zf_if2 .ge 582 686 585), z_is 216 686 (zf_iload 686 15 688), z_is 216 688 (zf_cst 688 (jn 12) 690), z_is 216 690 (zf_if2 .ne 690 725 693), z_is 216 725 (zf_iload 725 15 727), z_is 216 727 (zf_cst 727 (jn 15) 729), z_is 216 729 (zf_if2 .ge 729 847 732)] = true := by decide +kernel
                  refine q_s hB (fun _ _ k => z_iload hB rfl k) (fun hB => ?_)
                  refine q_s hB (fun _ _ k => z_cst hB k) (fun hB => ?_)
                  refine q_s hB (fun _ _ k => z_iushr hB k) (fun hB => ?_)
                  refine q_s hB (fun _ _ k => z_cst hB k) (fun hB => ?_)
                  refine q_s hB (fun _ _ k => z_iand hB k) (fun hB => ?_)
                  rw [eu]
                  refine q_s hB (fun _ _ k => z_istore hB rfl rfl k) (fun hB => ?_)
                  refine q_s hB (fun _ _ k => z_iload hB rfl k) (fun hB => ?_)
                  refine q_s hB (fun _ _ k => z_cst hB k) (fun hB => ?_)
                  refine q_s hB (fun _ _ k => z_ic_ge hB (fun _ => k) (fun h _ => absurd h ((by rw [jn_lt (by omega) (by omega)]; omega)))) (fun hB => ?_)
                  refine q_s hB (fun _ _ k => z_iload hB rfl k) (fun hB => ?_)
                  refine q_s hB (fun _ _ k => z_cst hB k) (fun hB => ?_)
                  refine q_s hB (fun _ _ k => z_ic_ge hB (fun _ => k) (fun h _ => absurd h ((by rw [jn_lt (by omega) (by omega)]; omega)))) (fun hB => ?_)
                  refine q_s hB (fun _ _ k => z_iload hB rfl k) (fun hB => ?_)
                  refine q_s hB (fun _ _ k => z_cst hB k) (fun hB => ?_)
                  refine q_s hB (fun _ _ k => z_ic_ne hB (fun _ => k) (fun h _ => absurd h ((by rw [jn_eq (by omega) (by omega)]; omega)))) (fun hB => ?_)
                  refine q_s hB (fun _ _ k => z_iload hB rfl k) (fun hB => ?_)
                  refine q_s hB (fun _ _ k => z_cst hB k) (fun hB => ?_)
                  refine q_s hB (fun _ _ k => z_ic_ne hB (fun _ => k) (fun h _ => absurd h ((by rw [jn_eq (by omega) (by omega)]; omega)))) (fun hB => ?_)
                  refine q_s hB (fun _ _ k => z_iload hB rfl k) (fun hB => ?_)
                  refine q_s hB (fun _ _ k => z_cst hB k) (fun hB => ?_)
                  refine q_s hB (fun _ _ k => z_ic_ge hB (fun _ => k) (fun h _ => absurd h ((by rw [jn_lt (by omega) (by omega)]; omega)))) (fun hB => ?_)
                  refine q_s hB (fun _ _ k => z_iload hB rfl k) (fun hB => ?_)
                  refine q_s hB (fun _ _ k => z_cst hB k) (fun hB => ?_)
                  refine q_s hB (fun _ _ k => z_ic_ge hB (fun _ => k) (fun h _ => absurd h ((by rw [jn_lt (by omega) (by omega)]; omega)))) (fun hB => ?_)
                  refine q_s hB (fun _ _ k => z_iload hB rfl k) (fun hB => ?_)
                  refine q_s hB (fun _ _ k => z_cst hB k) (fun hB => ?_)
                  refine q_s hB (fun _ _ k => z_ic_ne hB (fun _ => k) (fun h _ => absurd h ((by rw [jn_eq (by omega) (by omega)]; omega)))) (fun hB => ?_)
                  refine q_s hB (fun _ _ k => z_iload hB rfl k) (fun hB => ?_)
                  refine q_s hB (fun _ _ k => z_cst hB k) (fun hB => ?_)
                  refine q_s hB (fun _ _ k => z_ic_ge hB (fun h _ => absurd ((by rw [jn_lt (by omega) (by omega)]; omega)) h) (fun _ => k)) (fun hB => ?_)
                  exact lc_hand W.1 W.2.1 h hp hE W.2.2.2.2.2.1 hw hm hz (fin (jn u0))
                · have d7 : ¬ u0 < 15 := c7
                  have hB : z_all [z_is 216 188 (zf_iload 188 8 190), z_is 216 190 (zf_cst 190 (jn 1) 191), z_at 216 191 (zf_iushr 191 192), z_is 216 192 (zf_cst 192 (jn 15) 194), z_is 216 194 (zf_iand 194 195), z_is 216 195 (zf_istore 195 15 197), z_is 216 197 (zf_iload 197 15 199), z_is 216 199 (zf_cst 199 (jn 3) 200), z_is 216 200 (zf_if2 .ge 200 266 203), z_is 216 266 (zf_iload 266 15 268), z_is 216 268 (zf_cst 268 (jn 6) 270), z_is 216 270 (zf_if2 .ge 270 373 273), z_is 216 373 (zf_iload 373 15 375), z_is 216 375 (zf_cst 375 (jn 6) 377), z_is 216 377 (zf_if2 .ne 377 434 380), z_is 216 434 (zf_iload 434 15 436), z_is 216 436 (zf_cst 436 (jn 7) 438), z_is 216 438 (zf_if2 .ne 438 497 441), z_is 216 497 (zf_iload 497 15 499), z_is 216 499 (zf_cst 499 (jn 10) 501), z_is 216 501 (zf_if2 .ge 501 578 504), z_is 216 578 (zf_iload 578 15 580), z_is 216 580 (zf_cst 580 (jn 12) 582), z_is 216 582 (zf_if2 .ge 582 686 585), z_is 216 686 (zf_iload 686 15 688), z_is 216 688 (zf_cst 688 (jn 12) 690), z_is 216 690 (zf_if2 .ne 690 725 693), z_is 216 725 (zf_iload 725 15 727), z_is 216 727 (zf_cst 727 (jn 15) 729), z_is 216 729 (zf_if2 .ge 729 847 732)] = true := by decide +kernel
                  refine q_s hB (fun _ _ k => z_iload hB rfl k) (fun hB => ?_)
                  refine q_s hB (fun _ _ k => z_cst hB k) (fun hB => ?_)
                  refine q_s hB (fun _ _ k => z_iushr hB k) (fun hB => ?_)
                  refine q_s hB (fun _ _ k => z_cst hB k) (fun hB => ?_)
                  refine q_s hB (fun _ _ k => z_iand hB k) (fun hB => ?_)
                  rw [eu]
                  refine q_s hB (fun _ _ k => z_istore hB rfl rfl k) (fun hB => ?_)
                  refine q_s hB (fun _ _ k => z_iload hB rfl k) (fun hB => ?_)
                  refine q_s hB (fun _ _ k => z_cst hB k) (fun hB => ?_)
                  refine q_s hB (fun _ _ k => z_ic_ge hB (fun _ => k) (fun h _ => absurd h ((by rw [jn_lt (by omega) (by omega)]; omega)))) (fun hB => ?_)
                  refine q_s hB (fun _ _ k => z_iload hB rfl k) (fun hB => ?_)
                  refine q_s hB (fun _ _ k => z_cst hB k) (fun hB => ?_)
                  refine q_s hB (fun _ _ k => z_ic_ge hB (fun _ => k) (fun h _ => absurd h ((by rw [jn_lt (by omega) (by omega)]; omega)))) (fun hB => ?_)
                  refine q_s hB (fun _ _ k => z_iload hB rfl k) (fun hB => ?_)
                  refine q_s hB (fun _ _ k => z_cst hB k) (fun hB => ?_)
                  refine q_s hB (fun _ _ k => z_ic_ne hB (fun _ => k) (fun h _ => absurd h ((by rw [jn_eq (by omega) (by omega)]; omega)))) (fun hB => ?_)
                  refine q_s hB (fun _ _ k => z_iload hB rfl k) (fun hB => ?_)
                  refine q_s hB (fun _ _ k => z_cst hB k) (fun hB => ?_)
                  refine q_s hB (fun _ _ k => z_ic_ne hB (fun _ => k) (fun h _ => absurd h ((by rw [jn_eq (by omega) (by omega)]; omega)))) (fun hB => ?_)
                  refine q_s hB (fun _ _ k => z_iload hB rfl k) (fun hB => ?_)
                  refine q_s hB (fun _ _ k => z_cst hB k) (fun hB => ?_)
                  refine q_s hB (fun _ _ k => z_ic_ge hB (fun _ => k) (fun h _ => absurd h ((by rw [jn_lt (by omega) (by omega)]; omega)))) (fun hB => ?_)
                  refine q_s hB (fun _ _ k => z_iload hB rfl k) (fun hB => ?_)
                  refine q_s hB (fun _ _ k => z_cst hB k) (fun hB => ?_)
                  refine q_s hB (fun _ _ k => z_ic_ge hB (fun _ => k) (fun h _ => absurd h ((by rw [jn_lt (by omega) (by omega)]; omega)))) (fun hB => ?_)
                  refine q_s hB (fun _ _ k => z_iload hB rfl k) (fun hB => ?_)
                  refine q_s hB (fun _ _ k => z_cst hB k) (fun hB => ?_)
                  refine q_s hB (fun _ _ k => z_ic_ne hB (fun _ => k) (fun h _ => absurd h ((by rw [jn_eq (by omega) (by omega)]; omega)))) (fun hB => ?_)
                  refine q_s hB (fun _ _ k => z_iload hB rfl k) (fun hB => ?_)
                  refine q_s hB (fun _ _ k => z_cst hB k) (fun hB => ?_)
                  refine q_s hB (fun _ _ k => z_ic_ge hB (fun _ => k) (fun h _ => absurd h ((by rw [jn_lt (by omega) (by omega)]; omega)))) (fun hB => ?_)
                  exact lc_wind W.1 W.2.1 h hp hE W.2.2.2.2.2.1 hw hf hr (fin (jn u0))
theorem n_loop (hl : G.2.2.stackTraces = false) (hab : ¬ a = b) (eT : 1 ≤ T ∧ T ≤ 2) (eN : 1 ≤ N ∧ N ≤ 2) : ∀ (k st : Nat) (w : ev_W) (L : LL) (U : List LL) (V : Nat → Option LL) (x8 x9 x10 x11 x12 x13 x14 x15 x16 x17 x18 : Option Value), st + k = 20 → WI G w n d a b ro na T N → cIv n L U V (w_I w) → PmL L → Exz (4 * st) L → (1 ≤ qF L ∧ qF L ≤ 4) → qT L = T → qN L = N → z_Q G 216 62 [some (.ref ev_S), some (.ref 0), some (.ref 241), some (.ref d), some (.ref s), some (.ref a), some (.ref b), some (.int (jn st)), x8, x9, x10, x11, x12, x13, x14, x15, x16, x17, x18] [] w (fun q w1 => q = some (.int (jn 1)) ∧ w_c w1 ≤ 1000 ∧ w_z w1 ≤ 1000000) := by
  intro k
  induction k with
  | zero =>
    intro st w L U V x8 x9 x10 x11 x12 x13 x14 x15 x16 x17 x18 e W h hp hE eF qT9 qN9
    have k1 := kc_gap W.1 W.2.1 h
    rw [gap0 h.2.2.1 hp] at k1
    have hB : z_all [z_is 216 62 (zf_iload 62 7 64), z_is 216 64 (zf_cst 64 (jn 20) 66), z_is 216 66 (zf_if2 .ge 66 968 69), z_is 216 968 (zf_aload 968 1 969), z_is 216 969 (zf_cv 969 113 0 7 972), z_is 216 972 (zf_if1 .ne 972 979 975), z_is 216 975 (zf_cst 975 (jn 1) 976), z_is 216 976 (zf_goto 976 980), z_is 216 980 (zf_ret 1)] = true := by decide +kernel
    refine q_s hB (fun _ _ k => z_iload hB rfl k) (fun hB => ?_)
    refine q_s hB (fun _ _ k => z_cst hB k) (fun hB => ?_)
    refine q_s hB (fun _ _ k => z_ic_ge hB (fun _ => k) (fun h _ => absurd h ((by rw [jn_lt (by omega) (by omega)]; omega)))) (fun hB => ?_)
    refine q_s hB (fun _ _ k => z_aload hB rfl k) (fun hB => ?_)
    refine q_s hB (fun _ _ k => z_callV hB (rest := []) rfl rfl rfl (z_ok0 W.1).1 (z_ok0 W.1).2 k1 k) (fun hB => ?_)
    refine q_s hB (fun _ _ k => z_if_ne hB (fun h _ => absurd (rfl) h) (fun _ => k)) (fun hB => ?_)
    refine q_s hB (fun _ _ k => z_cst hB k) (fun hB => ?_)
    refine q_s hB (fun _ _ k => z_goto hB k) (fun hB => ?_)
    exact q_r (z_retz hB (Or.inr rfl)) ⟨rfl, W.2.2.2.2.2.2.2.2.1, W.2.2.2.2.2.2.2.2.2⟩
  | succ k ih =>
    intro st w L U V x8 x9 x10 x11 x12 x13 x14 x15 x16 x17 x18 e W h hp hE eF qT9 qN9
    have hB : z_all [z_is 216 62 (zf_iload 62 7 64), z_is 216 64 (zf_cst 64 (jn 20) 66), z_is 216 66 (zf_if2 .ge 66 968 69)] = true := by decide +kernel
    refine q_s hB (fun _ _ k => z_iload hB rfl k) (fun hB => ?_)
    refine q_s hB (fun _ _ k => z_cst hB k) (fun hB => ?_)
    refine q_s hB (fun _ _ k => z_ic_ge hB (fun h _ => absurd ((by rw [jn_lt (by omega) (by omega)]; omega)) h) (fun _ => k)) (fun hB => ?_)
    refine n_s1 hl W h hp eF eT eN (st := st) (by omega) (fun J g v k0 f t x m r hk0 hf ht hx hm hr c1 hg => ?_)
    have hw : ∀ c, c < 100 → w_J (w_tJ w a g) a c = svL L c := fun c hc => by rw [tJ_at]; exact hg c hc
    refine n_s3 (w := z_w (w_tJ w a g) J) ((W.t a g).z J) c1 hp hE (by omega) hf (by rw [qT9]; exact ht) hx (by rw [qN9]; exact hm) hr hw (fun u => ?_)
    intro J2 L2 U2 y16 y17 y18 d1 d2 d3 d4
    refine n_s2 (w := z_w (z_w (w_tJ w a g) J) J2) hl (((W.t a g).z J).z J2) hab d1 d2 hk0 (sV_at (V := V)) hw (fun w2 L3 U3 W3 h3 h4 => ?_)
    have dm : L3.1 = L.1 ∧ PmL L3 ∧ Exz (4 * st + 4) L3 := by
      rcases h4 with e4 | e4
      · rw [e4]; exact ⟨d3, d2, d4⟩
      · rw [e4]; exact ⟨rfl, hp, hE.of rfl rfl rfl rfl⟩
    have q1 : qF L3 = qF L := congrArg (fun q => q.1) dm.1
    have q2 : qT L3 = qT L := congrArg (fun q => q.2.2.2.1) dm.1
    have q3 : qN L3 = qN L := congrArg (fun q => q.2.2.1) dm.1
    have hB : z_all [z_is 216 962 (zf_iinc 962 7 (jn 1) 965), z_is 216 965 (zf_goto 965 62)] = true := by decide +kernel
    refine q_s hB (fun _ _ k => z_iinc hB rfl rfl k) (fun hB => ?_)
    refine q_s hB (fun _ _ k => z_goto hB k) (fun hB => ?_)
    rw [jn_add]
    exact ih (st + 1) w2 L3 U3 _ _ _ _ _ _ _ _ _ _ _ _ (by omega) W3 h3 dm.2.1 dm.2.2 (by rw [q1]; exact eF) (q2.trans qT9) (q3.trans qN9)
end STEP
