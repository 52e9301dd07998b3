/-! undo, save, restore, forget: both sides -/
def sV (V : Nat → Option LL) (x : Nat) (L : LL) : Nat → Option LL := fun k => if k = x then some L else V k
theorem gV_s {V : Nat → Option LL} {L : LL} {x : Nat} (h : gV V) (g : qG L) : gV (sV V x L) := fun k M hM => by
  unfold sV at hM
  by_cases e_ : k = x
  · rw [if_pos e_] at hM
    rw [← Option.some.inj hM]
    exact g
  · rw [if_neg e_] at hM
    exact h k M hM
theorem gU_t {U : List LL} {m : Nat} (h : gU U) : gU (U.take m) := by
  refine ⟨by rw [List.length_take]; have k_ := h.1; omega, fun i M hi => ?_⟩
  have k_ := (List.getElem?_eq_some_iff.mp hi).1
  rw [List.length_take] at k_
  rw [List.getElem?_take_of_lt (by omega)] at hi
  exact h.2 i M hi
theorem jbool0 : vp_nar .boolean (jn 0) = jn 0 := by decide
theorem jbool1 : vp_nar .boolean (jn 1) = jn 1 := by decide
section BCK
variable {L M : LL} {B : Nat} {I J : z_H} {u n m : Nat} {U : List LL} {V : Nat → Option LL}
theorem hU_t (h : hU U I u) (gu : gU U) (hm : m ≤ U.length) (e0 : J 55 0 = jn m) (e2 : J 55 2 = I 55 2) (e1 : ∀ b, 57 ≤ b → b < 202 → J b = I b) (e3 : ∀ b, u ≤ b → b < u + 6 → J b = I b) : hU (U.take m) J u := by
  obtain ⟨h1_, o_, ho_, h2_, h3_⟩ := h
  refine ⟨?_, o_, ho_, e2.trans h2_, fun i N hi => ?_⟩
  · rw [List.length_take, Nat.min_eq_left hm]; exact e0
  · have g_ := (gU_t (m := m) gu).2 i N hi
    have k_ := (List.getElem?_eq_some_iff.mp hi).1
    rw [List.length_take] at k_
    rw [List.getElem?_take_of_lt (by omega)] at hi
    exact qS_out (h3_ i N hi) (fun b b1 b2 => e1 b (by omega) (by omega)) e3 g_
theorem sq_undo (hn : n = 2 ∨ n = 28) (hu : hU U I (n + 1)) (gu : gU U) (hm : U.length = m + 1) (hM : U[m]? = some M) : ∃ J, d_H_takeBack (n + 7) I = some J ∧ qS M J (n + 7) (n + 1) ∧ hU (U.take m) J (n + 1) ∧ J 55 0 = jn m ∧ ∀ b, ¬ b = 55 → b < n + 7 ∨ n + 7 + 18 ≤ b → J b = I b := by
  have hu_ := hu
  obtain ⟨h1_, o_, ho_, h2_, h3_⟩ := hu
  have l_ := gu.1
  have m_ : (o_ + m) % 8 < 8 := Nat.mod_lt _ (by omega)
  have s_ := h3_ m M hM
  have g_ := gu.2 m M hM
  have s2_ : qS M (ev_u2 I 55 0 (jn m)) (57 + 18 * ((o_ + m) % 8)) (n + 1) := qS_out s_ (fun b b1 b2 => ju_na (by omega)) (fun b b1 b2 => ju_na (by omega)) g_
  obtain ⟨J1_, e1_, w1_, f1_⟩ := sq_become (s := n + 7) s2_ g_ (by omega) (by omega)
  have k0_ : J1_ 55 0 = jn m := by rw [f1_ 55 (by omega), ju_at]
  refine ⟨J1_, ?_, w1_, hU_t hu_ gu (by omega) k0_ (by rw [f1_ 55 (by omega), ju_ne (by omega)]) (fun b b1 b2 => by rw [f1_ b (by omega), ju_na (by omega)]) (fun b b1 b2 => by rw [f1_ b (by omega), ju_na (by omega)]), k0_, fun b b1 b2 => by rw [f1_ b b2, ju_na b1]⟩
  have e0_ : ev_u2 I 55 0 (jn m) 55 2 + ev_u2 I 55 0 (jn m) 55 0 = jn (o_ + m) := by rw [ju_at, ju_ne (by omega), h2_, jn_add]
  unfold d_H_takeBack
  rw [h1_, hm, if_pos (by rw [jn_lt (by omega) (by omega)]; omega), jn_sub (by omega), show m + 1 - 1 = m from by omega, e0_, jmod8 ⟨o_ + m, by omega⟩, if_pos (show z_in (jn ((o_ + m) % 8)) 8 by rw [jn_in (by omega)]; exact m_), jn_n (by omega), e1_, ob_s, ob_s]
theorem mq_undo (hu : mU U B I) (gu : gU U) (hm : U.length = m + 1) (hM : U[m]? = some M) : ∃ J, d_M_lays 244 (jn m * jn 173) 242 (jn 0) I = some J ∧ qM M B (J 242) ∧ ∀ b, ¬ b = 242 → J b = I b := by
  obtain ⟨h1_, h2_⟩ := hu
  have l_ := gu.1
  obtain ⟨J_, e2_, f3_, q1_, q2_⟩ := mq_lays (I := I) (a := 244) (b := 242) (i := m * 173) (j := 0) (by omega) (by rw [zl_244]; omega) (by rw [zl_242]; omega) (by omega) (by omega)
  refine ⟨J_, by rw [jn_mul]; exact e2_, qM_cg (h2_ m M hM) (gu.2 m M hM) (fun k hk => ?_), f3_⟩
  have k_ := q1_ k hk
  rw [Nat.zero_add] at k_
  rw [k_]
  show I 244 (m * 173 + k) = I 244 (173 * m + k)
  rw [Nat.mul_comm]
theorem mU_t (h : mU U B I) (hm : m ≤ U.length) (e0 : J 241 7 = jn m) (e1 : J 244 = I 244) : mU (U.take m) B J := by
  obtain ⟨h1_, h2_⟩ := h
  refine ⟨?_, fun i N hi => ?_⟩
  · rw [List.length_take, Nat.min_eq_left hm]; exact e0
  · have k_ := (List.getElem?_eq_some_iff.mp hi).1
    rw [List.length_take] at k_
    rw [List.getElem?_take_of_lt (by omega)] at hi
    rw [e1]
    exact h2_ i N hi
/-- saved -/
theorem sq_save (h : qS L I (n + 7) (n + 1)) (g : qG L) (hn : n = 2 ∨ n = 28) (hv : hV V I (n + 1)) (gv : gV V) {x : Nat} (hx : x < 2) : ∃ J, d_H_saveIn (jn x) (n + 7) I = some J ∧ hV (sV V x L) J (n + 1) ∧ ∀ b, b < 202 ∨ 239 ≤ b → J b = I b := by
  obtain ⟨J1_, e1_, w1_, f1_⟩ := sq_become (s := 202 + 18 * x) h g (by omega) (by omega)
  have in_ : z_in (jn x) 2 := by rw [jn_in (by omega)]; exact hx
  refine ⟨ev_u2 J1_ 238 x (jn 1), ?_, fun k hk => ?_, fun b hb => by rw [ju_na (by omega), f1_ b (by omega)]⟩
  · unfold d_H_saveIn
    rw [if_pos in_, jn_n (by omega), e1_, ob_s, if_pos in_, jbool1]
  · obtain ⟨h1_, h2_⟩ := hv k hk
    have out_ : ∀ N s, qG N → 202 ≤ s → s < 221 → qS N J1_ s (n + 1) → qS N (ev_u2 J1_ 238 x (jn 1)) s (n + 1) := fun N s gn hs hs2 k_ => qS_out k_ (fun b b1 b2 => ju_na (by omega)) (fun b b1 b2 => ju_na (by omega)) gn
    by_cases e_ : k = x
    · unfold sV
      rw [if_pos e_, e_]
      refine ⟨by rw [ju_at]; rfl, fun N hN => ?_⟩
      rw [← Option.some.inj hN]
      exact out_ L _ g (by omega) (by omega) w1_
    · unfold sV
      rw [if_neg e_]
      refine ⟨by rw [ju_ne (fun q_ => e_ q_.2), f1_ 238 (by omega)]; exact h1_, fun N hN => ?_⟩
      exact out_ N _ (gv k N hN) (by omega) (by omega) (qS_out (h2_ N hN) (fun b b1 b2 => f1_ b (by omega)) (fun b b1 b2 => f1_ b (by omega)) (gv k N hN))
theorem mq_save (h : qM L B (I 242)) (g : qG L) (hv : mV V B I) (gv : gV V) {x : Nat} (hx : x < 2) : ∃ J, d_M_lays 242 (jn 0) 245 (jn x * jn 173) I = some J ∧ mV (sV V x L) B (ev_u2 J 246 x (jn 1)) ∧ ∀ b, ¬ b = 245 → J b = I b := by
  obtain ⟨J_, e2_, f3_, q1_, q2_⟩ := mq_lays (I := I) (a := 242) (b := 245) (i := 0) (j := x * 173) (by omega) (by rw [zl_242]; omega) (by rw [zl_245]; omega) (by omega) (by omega)
  refine ⟨J_, by rw [jn_mul]; exact e2_, fun k hk => ?_, f3_⟩
  obtain ⟨h1_, h2_⟩ := hv k hk
  by_cases e_ : k = x
  · unfold sV
    rw [if_pos e_, e_]
    refine ⟨by rw [ju_at]; rfl, fun N hN => ?_⟩
    rw [← Option.some.inj hN]
    refine qM_cg h g (fun j hj => ?_)
    show ev_u2 J_ 246 x (jn 1) 245 (173 * x + j) = _
    rw [ju_na (by omega), show 173 * x + j = x * 173 + j from by omega, q1_ j hj, Nat.zero_add]
  · unfold sV
    rw [if_neg e_]
    refine ⟨by rw [ju_ne (fun q_ => e_ q_.2), f3_ 246 (by omega)]; exact h1_, fun N hN => ?_⟩
    refine qM_cg (h2_ N hN) (gv k N hN) (fun j hj => ?_)
    show ev_u2 J_ 246 x (jn 1) 245 (173 * k + j) = _
    rw [ju_na (by omega), q2_ _ (by omega)]
/-- fetched -/
theorem sq_fetch (hn : n = 2 ∨ n = 28) (hv : hV V I (n + 1)) (gv : gV V) {x : Nat} (hx : x < 2) (hM : V x = some M) : ∃ J, d_H_fetchFrom (jn x) (n + 7) I = some J ∧ qS M J (n + 7) (n + 1) ∧ hU [] J (n + 1) ∧ ∀ b, ¬ b = 55 → b < n + 7 ∨ n + 7 + 18 ≤ b → J b = I b := by
  obtain ⟨h1_, h2_⟩ := hv x hx
  have g_ := gv x M hM
  have in_ : z_in (jn x) 2 := by rw [jn_in (by omega)]; exact hx
  obtain ⟨J1_, e1_, w1_, f1_⟩ := sq_become (s := n + 7) (h2_ M hM) g_ (by omega) (by omega)
  refine ⟨ev_u2 (ev_u2 J1_ 55 0 (jn 0)) 55 2 (jn 0), ?_, qS_out w1_ (fun b b1 b2 => by rw [ju_na (by omega), ju_na (by omega)]) (fun b b1 b2 => by rw [ju_na (by omega), ju_na (by omega)]) g_, ⟨?_, 0, by omega, ju_at .., fun i N hN => by cases hN⟩, fun b b1 b2 => by rw [ju_na b1, ju_na b1, f1_ b b2]⟩
  · unfold d_H_fetchFrom d_H_forgetChanges
    rw [if_pos in_, jn_n (by omega), e1_, ob_s, ob_s]
  · rw [ju_ne (by omega), ju_at]; rfl
theorem mq_fetch (hv : mV V B I) (gv : gV V) {x : Nat} (hx : x < 2) (hM : V x = some M) : ∃ J, d_M_lays 245 (jn x * jn 173) 242 (jn 0) I = some J ∧ qM M B (J 242) ∧ ∀ b, ¬ b = 242 → J b = I b := by
  obtain ⟨h1_, h2_⟩ := hv x hx
  obtain ⟨J_, e2_, f3_, q1_, q2_⟩ := mq_lays (I := I) (a := 245) (b := 242) (i := x * 173) (j := 0) (by omega) (by rw [zl_245]; omega) (by rw [zl_242]; omega) (by omega) (by omega)
  refine ⟨J_, by rw [jn_mul]; exact e2_, qM_cg (h2_ M hM) (gv x M hM) (fun k hk => ?_), f3_⟩
  have k_ := q1_ k hk
  rw [Nat.zero_add] at k_
  rw [k_]
  show I 245 (x * 173 + k) = I 245 (173 * x + k)
  rw [Nat.mul_comm]
/-- all forgotten -/
theorem sq_forget : ∃ J, d_H_forgetAll I = some J ∧ hU [] J u ∧ hV (fun _ => none) J u ∧ ∀ b, ¬ b = 55 → ¬ b = 238 → J b = I b := by
  have z9_ : ∃ r, z_it (d_H_forgetAll_4) z_F (jn 0, ev_u2 (ev_u2 I 55 0 (jn 0)) 55 2 (jn 0)) = some r ∧ ((∀ b, ¬ b = 238 → r.2 b = ev_u2 (ev_u2 I 55 0 (jn 0)) 55 2 (jn 0) b) ∧ ∀ k, k < 2 → r.2 238 k = jn 0) := by
    refine z_inv (fun (q : Nat) (p : Int32 × z_H) => p.1 = jn q ∧ (∀ b, ¬ b = 238 → p.2 b = ev_u2 (ev_u2 I 55 0 (jn 0)) 55 2 (jn 0) b) ∧ ∀ k, k < q → p.2 238 k = jn 0) (fun (r : Int32 × z_H) => (∀ b, ¬ b = 238 → r.2 b = ev_u2 (ev_u2 I 55 0 (jn 0)) 55 2 (jn 0) b) ∧ ∀ k, k < 2 → r.2 238 k = jn 0) (n := 2) (by omega) ⟨rfl, fun _ _ => rfl, fun k hk => absurd hk (Nat.not_lt_zero _)⟩ (fun q p hq hp => ?_) (fun p hp => ?_)
    · obtain ⟨e1_, e2_, e3_⟩ := hp
      unfold d_H_forgetAll_4
      rw [e1_, if_pos (by rw [jn_lt (by omega) (by omega)]; exact hq), if_pos (by rw [jn_in (by omega)]; exact hq), jn_n (by omega), jbool0]
      refine ⟨_, rfl, jn_add q 1, fun b hb => ?_, fun k hk => ?_⟩
      · show ev_u2 p.2 238 _ _ b = _
        rw [ju_na hb]; exact e2_ b hb
      · show ev_u2 p.2 238 q (jn 0) 238 k = _
        by_cases e_ : k = q
        · rw [e_, ju_at]
        · rw [ju_ne (by omega)]; exact e3_ k (by omega)
    · obtain ⟨e1_, e2_, e3_⟩ := hp
      unfold d_H_forgetAll_4
      rw [e1_, if_neg (by rw [jn_lt (by omega) (by omega)]; omega)]
      exact ⟨_, rfl, e2_, e3_⟩
  obtain ⟨r_, e_, f_, c_⟩ := z9_
  refine ⟨r_.2, ?_, ⟨?_, 0, by omega, ?_, fun i N hN => by cases hN⟩, fun k hk => ⟨c_ k hk, fun N hN => by cases hN⟩, fun b b1 b2 => by rw [f_ b b2, ju_na b1, ju_na b1]⟩
  · unfold d_H_forgetAll d_H_forgetChanges
    rw [ob_s, e_, ob_s]
  · rw [f_ 55 (by omega), ju_ne (by omega), ju_at]; rfl
  · rw [f_ 55 (by omega), ju_at]
end BCK
