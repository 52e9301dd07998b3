/-! a step of the law's loop: by wip/gen/p64/j98zd.py -/
/-- what stays of the world through the loop -/
def WI (G : z_G) (w : ev_W) (n d a b ro na T N : Nat) : Prop := z_Ok G w ∧ z_fc w n ∧ ((d < w_n w ∧ w_K w d = 8) ∧ w_R w d 9 = some ro ∧ w_R w d 10 = some na) ∧ (ro < w_n w ∧ w_K w ro = 10 ∧ w_L w ro = T) ∧ (na < w_n w ∧ w_K w na = 20 ∧ w_L w na = N) ∧ (a < w_n w ∧ w_K w a = 14 ∧ w_L w a = 100) ∧ (b < w_n w ∧ w_K w b = 14 ∧ w_L w b = 100) ∧ w_L w ev_S ≤ 1000
theorem WI.z {G : z_G} {w : ev_W} {n d a b ro na T N : Nat} (W : WI G w n d a b ro na T N) (J : z_H) : WI G (z_w w J) n d a b ro na T N := W
theorem WI.t {G : z_G} {w : ev_W} {n d a b ro na T N : Nat} (W : WI G w n d a b ro na T N) (c : Nat) (g : Nat → Int64) : WI G (w_tJ w c g) n d a b ro na T N := W
theorem jmodF : ∀ (k : Fin 16) (F : Fin 13), 0 < F.val → jn k.val - jn k.val / jn F.val * jn F.val = jn (k.val % F.val) := by decide +kernel
theorem sV_at {V : Nat → Option LL} {x : Nat} {L : LL} : sV V x L x = some L := if_pos rfl
theorem own2 {L : LL} (hp : PmL L) : ∀ f, f < qF L → qf L f 8 = jn 3 → ((qf L f 3 + qf L f 4) + qf L f 5) + qf L f 6 = jn 0 := fun f hf h8 => by
  obtain ⟨e3, e4, e5, e6⟩ := hp.2.1 f hf h8
  rw [e3, e4, e5, e6]
  decide
section STEP
variable {G : z_G} {P : Option Value → ev_W → Prop} {w : ev_W} {n d s a b ro na T N : Nat} {L L0 : LL} {U : List LL} {V : Nat → Option LL} {f t x m r z k0 : Nat} {u v : Int32} {x7 x16 x17 x18 : Option Value}
theorem n_s2 (hl : G.2.2.stackTraces = false) (W : WI G w n d a b ro na T N) (hab : ¬ a = b) (h : cIv n L U V (w_I w)) (hp : PmL L) (hk : k0 < 2) (hV : V k0 = some L0) (hw : ∀ c, c < 100 → w_J w a c = svL L0 c) (fin : ∀ w2 L3 U3, WI G w2 n d a b ro na T N → cIv n L3 U3 V (w_I w2) → (L3 = L ∨ L3 = L0) → z_Q G 216 962 [some (.ref ev_S), some (.ref 0), some (.ref 241), some (.ref d), some (.ref s), some (.ref a), some (.ref b), x7, some (.int v), some (.int (jn k0)), some (.int (jn f)), some (.int (jn t)), some (.int (jn x)), some (.int (jn m)), some (.int (jn r)), some (.int u), x16, x17, x18] [] w2 P) : z_Q G 216 894 [some (.ref ev_S), some (.ref 0), some (.ref 241), some (.ref d), some (.ref s), some (.ref a), some (.ref b), x7, some (.int v), some (.int (jn k0)), some (.int (jn f)), some (.int (jn t)), some (.int (jn x)), some (.int (jn m)), some (.int (jn r)), some (.int u), x16, x17, x18] [] w P := by
  have k1 := kc_gap W.1 W.2.1 h
  rw [gap0 h.2.2.1 hp] at k1
  obtain ⟨v2, w2, k2, e2, e2w⟩ := n_own hl W.1 W.2.1 h hp.1 (own2 hp)
  rw [e2, e2w] at k2
  by_cases c0 : ((v.toUInt32 >>> ((jn 25).toUInt32 &&& Int32.toUInt32 31)).toInt32 &&& jn 3) = jn 0
  · obtain ⟨J, c1, k3⟩ := kd_restore W.1 W.2.1 h hk hV
    have k4 := kc_undoable (w := z_w w J) W.1 c1
    obtain ⟨v5, w5, k5, e5, g5, e5w, e5g⟩ := n_sees (w := z_w w J) (a := b) hl W.1 W.2.1 c1 W.2.2.2.2.2.2.1
    rw [e5, e5w] at k5
    obtain ⟨v6, w6, k6, e6, e6w⟩ := n_equ (w := w_tJ (z_w w J) b g5) (a := a) (b := b) hl W.2.2.2.2.2.1 W.2.2.2.2.2.2.1 hab (fun c hc => by
      rw [tJ_at, tJ_ne hab, e5g c hc]
      exact hw c hc)
    rw [e6, e6w] at k6
    have q1 : lg_cmp (qs L0 0).toInt64 (w_J w a 5) = jn 0 := by
      rw [hw 5 (by omega), sv_c (by omega)]
      exact lcmp_self _
    have hB : z_all [z_is 216 894 (zf_aload 894 1 895), z_is 216 895 (zf_cv 895 113 0 7 898), z_is 216 898 (zf_if1 .ne 898 908 901), z_is 216 901 (zf_aload 901 1 902), z_is 216 902 (zf_cs 902 161 1 905), z_is 216 905 (zf_if1 .ne 905 910 908), z_is 216 910 (zf_iload 910 8 912), z_is 216 912 (zf_cst 912 (jn 25) 914), z_at 216 914 (zf_iushr 914 915), z_is 216 915 (zf_cst 915 (jn 3) 916), z_is 216 916 (zf_iand 916 917), z_is 216 917 (zf_if1 .ne 917 962 920), z_is 216 920 (zf_aload 920 1 921), z_is 216 921 (zf_iload 921 9 923), z_is 216 923 (zf_cv 923 138 1 7 926), z_at 216 926 (zx_ilong 926 927), z_is 216 927 (zf_aload 927 5 929), z_is 216 929 (zf_cst 929 (jn 5) 930), z_at 216 930 (zx_lald 930 931), z_at 216 931 (zx_lcmp 931 932), z_is 216 932 (zf_if1 .ne 932 942 935), z_is 216 935 (zf_aload 935 1 936), z_is 216 936 (zf_cv 936 136 0 7 939), z_is 216 939 (zf_if1 .eq 939 944 942), z_is 216 944 (zf_aload 944 1 945), z_is 216 945 (zf_aload 945 6 947), z_is 216 947 (zf_cs 947 162 2 950), z_is 216 950 (zf_aload 950 5 952), z_is 216 952 (zf_aload 952 6 954), z_is 216 954 (zf_cs 954 209 2 957), z_is 216 957 (zf_if1 .ne 957 962 960)] = true := by decide +kernel
    refine q_s hB (fun _ _ k => z_aload hB rfl k) (fun hB => ?_)
    refine q_s hB (fun _ _ k => z_callV hB (rest := []) rfl rfl rfl (z_ok0 W.1).1 (z_ok0 W.1).2 k1 k) (fun hB => ?_)
    refine q_s hB (fun _ _ k => z_if_ne hB (fun h _ => absurd (rfl) h) (fun _ => k)) (fun hB => ?_)
    refine q_s hB (fun _ _ k => z_aload hB rfl k) (fun hB => ?_)
    refine q_s hB (fun _ _ k => z_callS hB (rest := []) rfl rfl rfl k2 k) (fun hB => ?_)
    refine q_s hB (fun _ _ k => z_if_ne hB (fun _ => k) (fun h _ => absurd h ((by decide)))) (fun hB => ?_)
    refine q_s hB (fun _ _ k => z_iload hB rfl k) (fun hB => ?_)
    refine q_s hB (fun _ _ k => z_cst hB k) (fun hB => ?_)
    refine q_s hB (fun _ _ k => z_iushr hB k) (fun hB => ?_)
    refine q_s hB (fun _ _ k => z_cst hB k) (fun hB => ?_)
    refine q_s hB (fun _ _ k => z_iand hB k) (fun hB => ?_)
    refine q_s hB (fun _ _ k => z_if_ne hB (fun h _ => absurd (c0) h) (fun _ => k)) (fun hB => ?_)
    refine q_s hB (fun _ _ k => z_aload hB rfl k) (fun hB => ?_)
    refine q_s hB (fun _ _ k => z_iload hB rfl k) (fun hB => ?_)
    refine q_s hB (fun _ _ k => z_callV hB (rest := []) rfl rfl rfl (z_ok0 W.1).1 (z_ok0 W.1).2 k3 k) (fun hB => ?_)
    refine q_s hB (fun _ _ k => x_ilong hB k) (fun hB => ?_)
    refine q_s hB (fun _ _ k => z_aload hB rfl k) (fun hB => ?_)
    refine q_s hB (fun _ _ k => z_cst hB k) (fun hB => ?_)
    refine q_s hB (fun _ _ k => x_lald hB W.2.2.2.2.2.1.1 W.2.2.2.2.2.1.2.1 (by show ev_ok _ (w_L w a) = true; rw [W.2.2.2.2.2.1.2.2]; decide) k) (fun hB => ?_)
    refine q_s hB (fun _ _ k => x_lcmp hB k) (fun hB => ?_)
    refine q_s hB (fun _ _ k => z_if_ne hB (fun h _ => absurd (q1) h) (fun _ => k)) (fun hB => ?_)
    refine q_s hB (fun _ _ k => z_aload hB rfl k) (fun hB => ?_)
    refine q_s hB (fun _ _ k => z_callV hB (rest := []) rfl rfl rfl (z_ok0 W.1).1 (z_ok0 W.1).2 k4 k) (fun hB => ?_)
    refine q_s hB (fun _ _ k => z_if_eq hB (fun _ => k) (fun h _ => absurd (rfl) h)) (fun hB => ?_)
    refine q_s hB (fun _ _ k => z_aload hB rfl k) (fun hB => ?_)
    refine q_s hB (fun _ _ k => z_aload hB rfl k) (fun hB => ?_)
    refine q_s hB (fun _ _ k => z_callS hB (rest := []) rfl rfl rfl k5 k) (fun hB => ?_)
    refine q_s hB (fun _ _ k => z_aload hB rfl k) (fun hB => ?_)
    refine q_s hB (fun _ _ k => z_aload hB rfl k) (fun hB => ?_)
    refine q_s hB (fun _ _ k => z_callS hB (rest := []) rfl rfl rfl k6 k) (fun hB => ?_)
    refine q_s hB (fun _ _ k => z_if_ne hB (fun _ => k) (fun h _ => absurd h ((by decide)))) (fun hB => ?_)
    exact fin _ L0 [] ((W.z J).t b g5) c1 (Or.inr rfl)
  · have hB : z_all [z_is 216 894 (zf_aload 894 1 895), z_is 216 895 (zf_cv 895 113 0 7 898), z_is 216 898 (zf_if1 .ne 898 908 901), z_is 216 901 (zf_aload 901 1 902), z_is 216 902 (zf_cs 902 161 1 905), z_is 216 905 (zf_if1 .ne 905 910 908), z_is 216 910 (zf_iload 910 8 912), z_is 216 912 (zf_cst 912 (jn 25) 914), z_at 216 914 (zf_iushr 914 915), z_is 216 915 (zf_cst 915 (jn 3) 916), z_is 216 916 (zf_iand 916 917), z_is 216 917 (zf_if1 .ne 917 962 920)] = true := by decide +kernel
    refine q_s hB (fun _ _ k => z_aload hB rfl k) (fun hB => ?_)
    refine q_s hB (fun _ _ k => z_callV hB (rest := []) rfl rfl rfl (z_ok0 W.1).1 (z_ok0 W.1).2 k1 k) (fun hB => ?_)
    refine q_s hB (fun _ _ k => z_if_ne hB (fun h _ => absurd (rfl) h) (fun _ => k)) (fun hB => ?_)
    refine q_s hB (fun _ _ k => z_aload hB rfl k) (fun hB => ?_)
    refine q_s hB (fun _ _ k => z_callS hB (rest := []) rfl rfl rfl k2 k) (fun hB => ?_)
    refine q_s hB (fun _ _ k => z_if_ne hB (fun _ => k) (fun h _ => absurd h ((by decide)))) (fun hB => ?_)
    refine q_s hB (fun _ _ k => z_iload hB rfl k) (fun hB => ?_)
    refine q_s hB (fun _ _ k => z_cst hB k) (fun hB => ?_)
    refine q_s hB (fun _ _ k => z_iushr hB k) (fun hB => ?_)
    refine q_s hB (fun _ _ k => z_cst hB k) (fun hB => ?_)
    refine q_s hB (fun _ _ k => z_iand hB k) (fun hB => ?_)
    refine q_s hB (fun _ _ k => z_if_ne hB (fun _ => k) (fun h _ => absurd h (c0))) (fun hB => ?_)
    exact fin w L U W h (Or.inl rfl)
end STEP
