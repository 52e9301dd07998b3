/-! a flag more, on both sides -/
def Wadd (L : LL) (x y w v : Int32) : Nat → Nat → Int32 := fun g k => if g = qF L then (if k = 0 then x else if k = 1 then y else if k = 2 then w else if k = 3 then v else if k = 9 then jg 1 else jn 0) else qf L g k
def Ladd (L : LL) (x y w v : Int32) : LL := ((qF L + 1, L.1.2), Wadd L x y w v, L.2.2)
section ADD
variable {L : LL} {pg : Nat → Int32} {B : Nat} {I J : z_H} {s u : Nat} {x y w v : Int32}
theorem add_at {k : Nat} : qf (Ladd L x y w v) (qF L) k = if k = 0 then x else if k = 1 then y else if k = 2 then w else if k = 3 then v else if k = 9 then jg 1 else jn 0 := if_pos rfl
theorem add_ne {a k : Nat} (h : ¬ a = qF L) : qf (Ladd L x y w v) a k = qf L a k := if_neg h
theorem qG_add (g : qG L) (hF : qF L < 12) (hx : jlt x (qN L)) (hy : jlt y (2 ^ qC L)) (hw : jlt w 4) (hv : jlt v 10) : qG (Ladd L x y w v) := by
  have n01_ : ¬ jn 0 = jn 1 := by decide
  have n02_ : ¬ jn 0 = jn 2 := by decide
  obtain ⟨g1_, g2_, g3_, g4_, g5_, g6_, g7_, g8_, g9_, ga_⟩ := g
  refine ⟨hF, g2_, g3_, g4_, g5_, fun a ha => ?_, g7_, fun t ht => ?_, g9_, fun a c ha hc => ?_⟩
  · have ha2_ : a < qF L + 1 := ha
    by_cases e_ : a = qF L
    · unfold qgf
      rw [e_]
      simp only [add_at]
      exact ⟨hx, hy, hw, hv, ⟨0, by omega, rfl⟩, ⟨0, by omega, rfl⟩, ⟨0, Nat.two_pow_pos _, rfl⟩, ⟨0, by omega, rfl⟩, Or.inl ⟨rfl, rfl⟩⟩
    · unfold qgf
      simp only [add_ne e_]
      exact g6_ a (by omega)
  · obtain ⟨q0_, q1_, q2_⟩ := g8_ t ht
    refine ⟨q0_, q1_, fun a => ?_⟩
    show a ∈ qt L t ↔ (a < qF L + 1 ∧ qf (Ladd L x y w v) a 8 = jn 1 ∧ qf (Ladd L x y w v) a 9 = jn t)
    rw [q2_ a]
    by_cases e_ : a = qF L
    · rw [e_, add_at (k := 8)]
      exact ⟨fun k_ => absurd k_.1 (Nat.lt_irrefl _), fun k_ => absurd k_.2.1 n01_⟩
    · rw [add_ne e_, add_ne e_]
      exact ⟨fun k_ => ⟨by omega, k_.2⟩, fun k_ => ⟨by omega, k_.2⟩⟩
  · have ha2_ : a < qF L + 1 := ha
    have hc2_ : c < qF L + 1 := hc
    by_cases e_ : a = qF L
    · rw [e_, add_at (k := 8)]
      exact fun q_ => absurd q_ n02_
    · by_cases e2_ : c = qF L
      · rw [e2_, add_at (k := 8)]
        exact fun _ q_ => absurd q_ n02_
      · rw [add_ne e_, add_ne e2_, add_ne e_, add_ne e2_]
        exact ga_ a c (by omega) (by omega)
theorem qpg_add (g : qG L) (g2 : qG (Ladd L x y w v)) (p : Nat) : qpg (Ladd L x y w v) p = qpg L p := by
  have n02_ : ¬ jn 0 = jn 2 := by decide
  have h1_ := g.1
  rcases qpg_at g (p := p) with k_ | ⟨f_, hf_, e_, k8_, k9_⟩
  · rcases qpg_at g2 (p := p) with q_ | ⟨f_, hf_, e_, k8_, k9_⟩
    · rw [k_, q_]
    · have hf2_ : f_ < qF L + 1 := hf_
      by_cases e2_ : f_ = qF L
      · rw [e2_, add_at (k := 8)] at k8_
        exact absurd k8_ n02_
      · rw [add_ne e2_] at k8_ k9_
        exact absurd k9_ (qpg_no g k_ (by omega) k8_)
  · have e3_ : ¬ f_ = qF L := by omega
    rw [e_]
    exact qpg_of g2 (show f_ < qF L + 1 by omega) (by rw [add_ne e3_]; exact k8_) (by rw [add_ne e3_]; exact k9_)
theorem rS_add (h : rS L pg I s u) (b : qB L) (d : u + 6 ≤ s) (hF : qF L < 12) (e1 : ∀ a, ¬ a = s → ¬ a = s + 2 + qF L → J a = I a) (e2 : ∀ k, ¬ k = 6 → J s k = I s k) (e3 : J s 6 = jn (qF L + 1)) (e4 : ∀ k, k < 10 → J (s + 2 + qF L) k = Wadd L x y w v (qF L) k) : rS (Ladd L x y w v) pg J s u := by
  obtain ⟨b1_, b2_, b3_, b4_, b5_⟩ := b
  obtain ⟨h1_, h2_, h3_, h4_, h5_, h6_, h7_, h8_, h9_, ha_, hb_, hc_, hd_⟩ := h
  refine ⟨fun j hj => ?_, ?_, ?_, ?_, ?_, ?_, fun c hc => ?_, fun m hm => ?_, fun v hv => ?_, fun g j hg hj => ?_, fun q hq => ?_, fun m hm hm2 => ?_, fun v hv hv2 => ?_⟩
  · rw [e2 j (by omega)]; exact h1_ j hj
  · exact e3
  · rw [e1 u (by omega) (by omega)]; exact h3_
  · rw [e1 u (by omega) (by omega)]; exact h4_
  · rw [e1 u (by omega) (by omega)]; exact h5_
  · rw [e1 u (by omega) (by omega)]; exact h6_
  · rw [e1 (u + 1) (by omega) (by omega)]; exact h7_ c hc
  · obtain ⟨q1_, q2_, q3_, q4_⟩ := h8_ m hm
    exact ⟨by rw [e1 (u + 2) (by omega) (by omega)]; exact q1_, by rw [e1 (u + 3) (by omega) (by omega)]; exact q2_, by rw [e1 (u + 4) (by omega) (by omega)]; exact q3_, by rw [e1 (s + 17) (by omega) (by omega)]; exact q4_⟩
  · obtain ⟨q1_, q2_, q3_⟩ := h9_ v hv
    exact ⟨by rw [e1 (u + 5) (by omega) (by omega)]; exact q1_, by rw [e1 (s + 14) (by omega) (by omega)]; exact q2_, fun i f hi => by rw [e1 (s + 15) (by omega) (by omega)]; exact q3_ i f hi⟩
  · have hg2_ : g < qF L + 1 := hg
    by_cases e_ : g = qF L
    · rw [e_]; exact e4 j hj
    · rw [e1 (s + 2 + g) (by omega) (by omega), add_ne e_]
      exact ha_ g j (by omega) hj
  · rw [e1 (s + 16) (by omega) (by omega)]; exact hb_ q hq
  · rw [e1 (s + 17) (by omega) (by omega)]; exact hc_ m hm hm2
  · rw [e1 (s + 14) (by omega) (by omega)]; exact hd_ v hv hv2
theorem rM_add {A A2 : Nat → Int32} (h : rM L A) (b : qB L) (hF : qF L < 12) (e1 : ∀ j, ¬ j = 10 → (j < 41 + 11 * qF L) → A2 j = A j) (e3 : A2 10 = jn (qF L + 1)) (e4 : ∀ k, k < 10 → A2 (41 + 11 * qF L + k) = Wadd L x y w v (qF L) k) : rM (Ladd L x y w v) A2 := by
  obtain ⟨b1_, b2_, b3_, b4_, b5_⟩ := b
  obtain ⟨h1_, h2_, h3_, h4_, h5_, h6_, h7_, h8_, h9_, ha_, hb_⟩ := h
  refine ⟨fun j hj => ?_, ?_, ?_, ?_, ?_, e3, fun c hc => ?_, fun n j hn hj => ?_, fun t ht => ?_, fun g j hg hj => ?_, fun n hn hn2 => ?_⟩
  · rw [e1 j (by omega) (by omega)]; exact h1_ j hj
  · rw [e1 6 (by omega) (by omega)]; exact h2_
  · rw [e1 7 (by omega) (by omega)]; exact h3_
  · rw [e1 8 (by omega) (by omega)]; exact h4_
  · rw [e1 9 (by omega) (by omega)]; exact h5_
  · have c_ : c < qC L := hc
    rw [e1 _ (by omega) (by omega)]; exact h7_ c hc
  · have c_ : n < qN L := hn
    rw [e1 _ (by omega) (by omega)]; exact h8_ n j hn hj
  · have c_ : t < qT L := ht
    rw [e1 _ (by omega) (by omega)]; exact h9_ t ht
  · have hg2_ : g < qF L + 1 := hg
    by_cases e_ : g = qF L
    · rw [e_]; exact e4 j hj
    · rw [e1 _ (by omega) (by omega), add_ne e_]
      exact ha_ g j (by omega) hj
  · rw [e1 _ (by omega) (by omega)]; exact hb_ n hn hn2
theorem g_begin (a : Nat) (x y w v : Int32) (I : z_H) : ∃ J, d_G_begin a x y w v I = some J ∧ (∀ b, ¬ b = a → J b = I b) ∧ ∀ k, k < 10 → J a k = if k = 0 then x else if k = 1 then y else if k = 2 then w else if k = 3 then v else if k = 9 then jg 1 else jn 0 := by
  unfold d_G_begin d_G_moveTo
  refine ⟨_, rfl, fun b hb => by rw [ju_na hb, ju_na hb, ju_na hb, ju_na hb, ju_na hb, ju_na hb, ju_na hb, ju_na hb, ju_na hb, ju_na hb], fun k hk => ?_⟩
  have k_ : k = 0 ∨ k = 1 ∨ k = 2 ∨ k = 3 ∨ k = 4 ∨ k = 5 ∨ k = 6 ∨ k = 7 ∨ k = 8 ∨ k = 9 := by omega
  rcases k_ with e_ | e_ | e_ | e_ | e_ | e_ | e_ | e_ | e_ | e_ <;> (rw [e_]; simp [ev_u2])
theorem sq_bring (h : qS L I s u) (g : qG L) (d : u + 6 ≤ s) (hF : qF L < 12) (hx : jlt x (qN L)) (hy : jlt y (2 ^ qC L)) (hw : jlt w 4) (hv : jlt v 10) : ∃ J, d_S_bringFlag s x y w v I = some (jn (qF L), J) ∧ WS (Ladd L x y w v) I J s u := by
  have b_ := qG_B g
  have g2_ := qG_add g hF hx hy hw hv
  have F_ : I s 6 = jn (qF L) := h.2.1
  obtain ⟨J1_, k1_, k2_, k3_⟩ := g_begin (s + 2 + qF L) x y w v I
  have F2_ : J1_ s 6 = jn (qF L) := by rw [k2_ s (by omega)]; exact F_
  refine ⟨ev_u2 J1_ s 6 (jn (qF L + 1)), ?_, rS_cg (rS_add (qS_r.mp h) b_ d hF (fun a h1 h2 => by rw [ju_na h1, k2_ a h2]) (fun k hk => by rw [ju_ne (fun q_ => hk q_.2), k2_ s (by omega)]) (ju_at ..) (fun k hk => ?_)) (fun p _ => (qpg_add g g2_ p).symm), fun a ha => by rw [ju_na (by omega), k2_ a (by omega)]⟩
  · unfold d_S_bringFlag
    rw [F_, if_pos (by rw [jn_in (by omega)]; omega), jn_n (by omega), k1_, ob_s, F2_, jn_add]
  · rw [ju_na (by omega), k3_ k hk]
    unfold Wadd
    rw [if_pos rfl]
theorem mq_adds (h : qM L B (I 242)) (g : qG L) (hF : qF L < 12) : ∃ J, d_M_addsFlag x y w v I = some (jn (qF L), J) ∧ WM (Ladd L x y w v) B I J := by
  have b_ := qG_B g
  have m_ := qM_r.mp h
  have F_ : I 242 (z_n (jn 10)) = jn (qF L) := mq_F h
  have F1_ : I 242 10 = jn (qF L) := h.2.2.2.2.2.1
  have in_ : z_in (jn 10) 173 := mq_in10
  have z9_ : ∃ r, z_it (d_M_addsFlag_3 I) z_F (jn 0, I) = some r ∧ ((∀ a, ¬ a = 242 → r.2 a = I a) ∧ (∀ j, j < 41 + 11 * qF L ∨ 41 + 11 * qF L + 11 ≤ j → r.2 242 j = I 242 j) ∧ ∀ k, k < 11 → r.2 242 (41 + 11 * qF L + k) = jn 0) := by
    refine z_inv (fun (i : Nat) (p : Int32 × z_H) => p.1 = jn i ∧ (∀ a, ¬ a = 242 → p.2 a = I a) ∧ (∀ j, j < 41 + 11 * qF L ∨ 41 + 11 * qF L + 11 ≤ j → p.2 242 j = I 242 j) ∧ ∀ k, k < i → p.2 242 (41 + 11 * qF L + k) = jn 0) (fun (r : Int32 × z_H) => (∀ a, ¬ a = 242 → r.2 a = I a) ∧ (∀ j, j < 41 + 11 * qF L ∨ 41 + 11 * qF L + 11 ≤ j → r.2 242 j = I 242 j) ∧ ∀ k, k < 11 → r.2 242 (41 + 11 * qF L + k) = jn 0) (n := 11) (by omega) ⟨rfl, fun _ _ => rfl, fun _ _ => rfl, fun k hk => absurd hk (Nat.not_lt_zero _)⟩ (fun i p hi hp => ?_) (fun p hp => ?_)
    · obtain ⟨e1_, e2_, e3_, e4_⟩ := hp
      unfold d_M_addsFlag_3
      rw [e1_, if_pos (by rw [jn_lt (by omega) (by omega)]; exact hi), F_, rm_put hF hi, ob_s, jn_add]
      refine ⟨_, rfl, rfl, fun a ha => ?_, fun j hj => ?_, fun k hk => ?_⟩
      · show ev_u2 p.2 242 _ _ a = I a
        rw [ju_na ha]; exact e2_ a ha
      · show ev_u2 p.2 242 (41 + 11 * qF L + i) (jn 0) 242 j = I 242 j
        rw [ju_ne (by omega)]; exact e3_ j hj
      · show ev_u2 p.2 242 (41 + 11 * qF L + i) (jn 0) 242 (41 + 11 * qF L + k) = jn 0
        by_cases e_ : k = i
        · rw [e_, ju_at]
        · rw [ju_ne (by omega)]; exact e4_ k (by omega)
    · obtain ⟨e1_, e2_, e3_, e4_⟩ := hp
      unfold d_M_addsFlag_3
      rw [e1_, if_neg (by rw [jn_lt (by omega) (by omega)]; omega)]
      exact ⟨_, rfl, e2_, e3_, e4_⟩
  obtain ⟨r_, e_, e1_, e2_, e3_⟩ := z9_
  refine ⟨ev_u2 (ev_u2 (ev_u2 (ev_u2 (ev_u2 (ev_u2 (ev_u2 r_.2 242 (41 + 11 * qF L + 0) x) 242 (41 + 11 * qF L + 1) y) 242 (41 + 11 * qF L + 2) w) 242 (41 + 11 * qF L + 3) v) 242 (41 + 11 * qF L + 8) (jn 0)) 242 (41 + 11 * qF L + 9) (jg 1)) 242 10 (jn (qF L + 1)), ?_, ?_, fun a ha => by rw [ju_na ha, ju_na ha, ju_na ha, ju_na ha, ju_na ha, ju_na ha, ju_na ha, e1_ a ha]⟩
  · unfold d_M_addsFlag
    rw [if_pos in_, e_, ob_s, F_, rm_put hF (by omega), ob_s, rm_put hF (by omega), ob_s, rm_put hF (by omega), ob_s, rm_put hF (by omega), ob_s, rm_goes hF, ob_s, if_pos in_, if_pos in_, jn_n (a := 10) (by omega), ju_ne (by omega), ju_ne (by omega), ju_ne (by omega), ju_ne (by omega), ju_ne (by omega), ju_ne (by omega), e2_ 10 (by omega), F1_, jn_add]
  · have c_ : ∀ j, ¬ j = 10 → (j < 41 + 11 * qF L) → ev_u2 (ev_u2 (ev_u2 (ev_u2 (ev_u2 (ev_u2 (ev_u2 r_.2 242 (41 + 11 * qF L + 0) x) 242 (41 + 11 * qF L + 1) y) 242 (41 + 11 * qF L + 2) w) 242 (41 + 11 * qF L + 3) v) 242 (41 + 11 * qF L + 8) (jn 0)) 242 (41 + 11 * qF L + 9) (jg 1)) 242 10 (jn (qF L + 1)) 242 j = I 242 j := fun j h1 h2 => by
      rw [ju_ne (by omega), ju_ne (by omega), ju_ne (by omega), ju_ne (by omega), ju_ne (by omega), ju_ne (by omega), ju_ne (by omega), e2_ j (by omega)]
    refine qM_r.mpr ⟨rM_add m_.1 b_ hF c_ (ju_at ..) (fun k hk => ?_), ?_⟩
    · rw [ju_ne (by omega)]
      unfold Wadd
      rw [if_pos rfl]
      have k_ : k = 0 ∨ k = 1 ∨ k = 2 ∨ k = 3 ∨ k = 8 ∨ k = 9 ∨ (4 ≤ k ∧ k ≤ 7) := by omega
      rcases k_ with q_ | q_ | q_ | q_ | q_ | q_ | q_
      · rw [q_, ju_ne (by omega), ju_ne (by omega), ju_ne (by omega), ju_ne (by omega), ju_ne (by omega), ju_at]; rfl
      · rw [q_, ju_ne (by omega), ju_ne (by omega), ju_ne (by omega), ju_ne (by omega), ju_at]; rfl
      · rw [q_, ju_ne (by omega), ju_ne (by omega), ju_ne (by omega), ju_at]; rfl
      · rw [q_, ju_ne (by omega), ju_ne (by omega), ju_at]; rfl
      · rw [q_, ju_ne (by omega), ju_at]; rfl
      · rw [q_, ju_at]; rfl
      · rw [ju_ne (by omega), ju_ne (by omega), ju_ne (by omega), ju_ne (by omega), ju_ne (by omega), ju_ne (by omega), e3_ k (by omega), if_neg (by omega), if_neg (by omega), if_neg (by omega), if_neg (by omega), if_neg (by omega)]
    · obtain ⟨p_, h1_, h2_, h3_⟩ := m_.2
      refine ⟨p_, (c_ 11 (by omega) (by omega)).trans h1_, h2_, fun t ht => ?_⟩
      have mt_ := (g.2.2.2.2.2.2.2.1 t ht).2.2
      have h4_ := h3_ t ht
      have c2_ : ∀ a, a ∈ qt L t → ev_u2 (ev_u2 (ev_u2 (ev_u2 (ev_u2 (ev_u2 (ev_u2 r_.2 242 (41 + 11 * qF L + 0) x) 242 (41 + 11 * qF L + 1) y) 242 (41 + 11 * qF L + 2) w) 242 (41 + 11 * qF L + 3) v) 242 (41 + 11 * qF L + 8) (jn 0)) 242 (41 + 11 * qF L + 9) (jg 1)) 242 10 (jn (qF L + 1)) 242 (41 + 11 * a + 10) = I 242 (41 + 11 * a + 10) := fun a ha => by
        have k_ := ((mt_ a).mp ha).1
        exact c_ _ (by omega) (by omega)
      refine ⟨fun a ha => ?_, ?_⟩
      · rw [c2_ a ha]; exact h4_.1 a ha
      · exact List.Pairwise.imp_of_mem (fun {a c} ha hc q_ => by rw [c2_ a ha, c2_ c hc]; exact q_) h4_.2
end ADD
