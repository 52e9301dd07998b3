/-! what can be undone, what was saved: both sides -/
def hU (U : List LL) (I : z_H) (u : Nat) : Prop := I 55 0 = jn U.length ∧ ∃ o, o < 8 ∧ I 55 2 = jn o ∧ ∀ (i : Nat) (L : LL), U[i]? = some L → qS L I (57 + 18 * ((o + i) % 8)) u
def mU (U : List LL) (B : Nat) (I : z_H) : Prop := I 241 7 = jn U.length ∧ ∀ (i : Nat) (L : LL), U[i]? = some L → qM L B (fun k => I 244 (173 * i + k))
def gU (U : List LL) : Prop := U.length ≤ 8 ∧ ∀ (i : Nat) (L : LL), U[i]? = some L → qG L
def hV (V : Nat → Option LL) (I : z_H) (u : Nat) : Prop := ∀ k, k < 2 → I 238 k = (if (V k).isSome = true then jn 1 else jn 0) ∧ ∀ L, V k = some L → qS L I (202 + 18 * k) u
def mV (V : Nat → Option LL) (B : Nat) (I : z_H) : Prop := ∀ k, k < 2 → I 246 k = (if (V k).isSome = true then jn 1 else jn 0) ∧ ∀ L, V k = some L → qM L B (fun j => I 245 (173 * k + j))
def gV (V : Nat → Option LL) : Prop := ∀ k L, V k = some L → qG L
def kU (U : List LL) (L : LL) : List LL := (if U.length < 8 then U else U.drop 1) ++ [L]
theorem kU_len {U : List LL} {L : LL} (h : U.length ≤ 8) : (kU U L).length = if U.length < 8 then U.length + 1 else 8 := by
  unfold kU
  by_cases e_ : U.length < 8
  · rw [if_pos e_, if_pos e_, List.length_append]; rfl
  · rw [if_neg e_, if_neg e_, List.length_append, List.length_drop]
    show U.length - 1 + 1 = 8
    omega
theorem kU_at {U : List LL} {L M : LL} {i : Nat} (h : (kU U L)[i]? = some M) (hu : U.length ≤ 8) : (U.length < 8 ∧ U[i]? = some M) ∨ (U.length = 8 ∧ U[i + 1]? = some M) ∨ (i + 1 = (kU U L).length ∧ M = L) := by
  have l_ := kU_len (U := U) (L := L) hu
  unfold kU at h
  by_cases e_ : U.length < 8
  · rw [if_pos e_] at h l_
    rcases Nat.lt_or_ge i U.length with k_ | k_
    · rw [List.getElem?_append_left k_] at h
      exact Or.inl ⟨e_, h⟩
    · rw [List.getElem?_append_right k_] at h
      have k3_ := (List.getElem?_eq_some_iff.mp h).1
      have k4_ : ([L] : List LL).length = 1 := rfl
      have k2_ : i - U.length = 0 := by omega
      rw [k2_] at h
      exact Or.inr (Or.inr ⟨by omega, (Option.some.inj h).symm⟩)
  · rw [if_neg e_] at h l_
    have ld_ : (U.drop 1).length = 7 := by rw [List.length_drop]; omega
    rcases Nat.lt_or_ge i 7 with k_ | k_
    · rw [List.getElem?_append_left (by omega), List.getElem?_drop] at h
      exact Or.inr (Or.inl ⟨by omega, by rw [Nat.add_comm]; exact h⟩)
    · rw [List.getElem?_append_right (by omega)] at h
      have k3_ := (List.getElem?_eq_some_iff.mp h).1
      have k4_ : ([L] : List LL).length = 1 := rfl
      have k2_ : i - (U.drop 1).length = 0 := by omega
      rw [k2_] at h
      exact Or.inr (Or.inr ⟨by omega, (Option.some.inj h).symm⟩)
theorem gU_k {U : List LL} {L : LL} (h : gU U) (g : qG L) : gU (kU U L) := by
  refine ⟨?_, fun i M hi => ?_⟩
  · rw [kU_len h.1]
    by_cases e_ : U.length < 8
    · rw [if_pos e_]; omega
    · rw [if_neg e_]; omega
  · rcases kU_at hi h.1 with k_ | k_ | k_
    · exact h.2 _ _ k_.2
    · exact h.2 _ _ k_.2
    · rw [k_.2]; exact g
theorem jmod8 : ∀ a : Fin 16, jn a.val - jn a.val / jn 8 * jn 8 = jn (a.val % 8) := by decide +kernel
theorem qM_B {L : LL} {B B2 : Nat} {A : Nat → Int32} (h : qM L B A) (hB : B ≤ B2) : qM L B2 A := by
  obtain ⟨m_, p_, p1_, p2_, p3_⟩ := qM_r.mp h
  exact qM_r.mpr ⟨m_, p_, p1_, by omega, p3_⟩
section HIS
variable {L : LL} {B : Nat} {I J : z_H} {u n : Nat} {U : List LL} {V : Nat → Option LL}
/-- nothing of the history touched -/
theorem hU_out (h : hU U I u) (g : gU U) (e1 : ∀ b, 55 ≤ b → b < 202 → J b = I b) (e2 : ∀ b, u ≤ b → b < u + 6 → J b = I b) : hU U J u := by
  obtain ⟨h1_, o_, ho_, h2_, h3_⟩ := h
  refine ⟨by rw [e1 55 (by omega) (by omega)]; exact h1_, o_, ho_, by rw [e1 55 (by omega) (by omega)]; exact h2_, fun i M hi => ?_⟩
  exact qS_out (h3_ i M hi) (fun b b1 b2 => e1 b (by omega) (by omega)) e2 (g.2 i M hi)
theorem hV_out (h : hV V I u) (g : gV V) (e1 : ∀ b, 202 ≤ b → b < 239 → J b = I b) (e2 : ∀ b, u ≤ b → b < u + 6 → J b = I b) : hV V J u := fun k hk => by
  obtain ⟨h1_, h2_⟩ := h k hk
  exact ⟨by rw [e1 238 (by omega) (by omega)]; exact h1_, fun M hM => qS_out (h2_ M hM) (fun b b1 b2 => e1 b (by omega) (by omega)) e2 (g k M hM)⟩
theorem mU_out (h : mU U B I) (e1 : J 241 7 = I 241 7) (e2 : J 244 = I 244) : mU U B J := by
  obtain ⟨h1_, h2_⟩ := h
  exact ⟨e1.trans h1_, fun i M hi => by rw [e2]; exact h2_ i M hi⟩
theorem mV_out (h : mV V B I) (e1 : J 245 = I 245) (e2 : J 246 = I 246) : mV V B J := fun k hk => by
  obtain ⟨h1_, h2_⟩ := h k hk
  exact ⟨by rw [e2]; exact h1_, fun M hM => by rw [e1]; exact h2_ M hM⟩
theorem mU_B {B2 : Nat} (h : mU U B I) (hB : B ≤ B2) : mU U B2 I := ⟨h.1, fun i M hi => qM_B (h.2 i M hi) hB⟩
theorem mV_B {B2 : Nat} (h : mV V B I) (hB : B ≤ B2) : mV V B2 I := fun k hk => ⟨(h k hk).1, fun M hM => qM_B ((h k hk).2 M hM) hB⟩
/-- a change kept -/
theorem sq_keep (h : qS L I (n + 7) (n + 1)) (g : qG L) (hn : n = 2 ∨ n = 28) (hu : hU U I (n + 1)) (gu : gU U) : ∃ J, d_H_keep (n + 7) I = some J ∧ hU (kU U L) J (n + 1) ∧ ∀ b, b < 55 ∨ 201 ≤ b → J b = I b := by
  obtain ⟨h1_, o_, ho_, h2_, h3_⟩ := hu
  have l_ := gu.1
  have kl_ := kU_len (U := U) (L := L) l_
  have e0_ : jn o_ + jn U.length = jn (o_ + U.length) := jn_add _ _
  have m_ : (o_ + U.length) % 8 < 8 := Nat.mod_lt _ (by omega)
  obtain ⟨J1_, e1_, w1_, f1_⟩ := sq_become (s := 57 + 18 * ((o_ + U.length) % 8)) h g (by omega) (by omega)
  have k0_ : J1_ 55 0 = jn U.length := by rw [f1_ 55 (by omega)]; exact h1_
  have k2_ : J1_ 55 2 = jn o_ := by rw [f1_ 55 (by omega)]; exact h2_
  have start_ : ∀ {r : Option z_H}, (Option.bind (α := z_H) (if (J1_ 55 0) < (jn 8) then some ((ev_u2 J1_ 55 0 ((J1_ 55 0) + (jn 1)))) else some ((ev_u2 J1_ 55 2 (((J1_ 55 2) + (jn 1)) - ((J1_ 55 2) + (jn 1)) / (jn 8) * (jn 8))))) fun q4 => some (q4)) = r → d_H_keep (n + 7) I = r := fun {r} hr => by
    unfold d_H_keep
    rw [h1_, h2_, e0_, jmod8 ⟨o_ + U.length, by omega⟩, if_pos (show z_in (jn ((o_ + U.length) % 8)) 8 by rw [jn_in (by omega)]; exact m_), jn_n (by omega), e1_, ob_s]
    exact hr
  by_cases l8_ : U.length < 8
  · rw [if_pos l8_] at kl_
    refine ⟨ev_u2 J1_ 55 0 (jn (U.length + 1)), start_ ?_, ⟨?_, o_, ho_, ?_, fun i M hi => ?_⟩, fun b hb => by rw [ju_na (by omega), f1_ b (by omega)]⟩
    · rw [k0_, if_pos (by rw [jn_lt (by omega) (by omega)]; exact l8_), ob_s, jn_add]
    · rw [ju_at, kl_]
    · rw [ju_ne (by omega)]; exact k2_
    · have out_ : ∀ N s, qG N → 57 ≤ s → qS N J1_ s (n + 1) → qS N (ev_u2 J1_ 55 0 (jn (U.length + 1))) s (n + 1) := fun N s gn hs k_ => qS_out k_ (fun b b1 b2 => ju_na (by omega)) (fun b b1 b2 => ju_na (by omega)) gn
      rcases kU_at hi l_ with k_ | k_ | k_
      · have i_ := (List.getElem?_eq_some_iff.mp k_.2).1
        refine out_ M _ (gu.2 i M k_.2) (by omega) (qS_out (h3_ i M k_.2) (fun b b1 b2 => f1_ b (by omega)) (fun b b1 b2 => f1_ b (by omega)) (gu.2 i M k_.2))
      · omega
      · rw [k_.2, show i = U.length from by omega]
        exact out_ L _ g (by omega) w1_
  · rw [if_neg l8_] at kl_
    have l9_ : U.length = 8 := by omega
    have m8_ : (o_ + U.length) % 8 = o_ := by omega
    refine ⟨ev_u2 J1_ 55 2 (jn ((o_ + 1) % 8)), start_ ?_, ⟨?_, (o_ + 1) % 8, Nat.mod_lt _ (by omega), ju_at .., fun i M hi => ?_⟩, fun b hb => by rw [ju_na (by omega), f1_ b (by omega)]⟩
    · rw [if_neg (show ¬ J1_ 55 0 < jn 8 by rw [k0_, jn_lt (by omega) (by omega)]; exact l8_), k2_, jn_add, jmod8 ⟨o_ + 1, by omega⟩, ob_s]
    · rw [ju_ne (by omega), k0_, kl_, l9_]
    · have out_ : ∀ N s, qG N → 57 ≤ s → qS N J1_ s (n + 1) → qS N (ev_u2 J1_ 55 2 (jn ((o_ + 1) % 8))) s (n + 1) := fun N s gn hs k_ => qS_out k_ (fun b b1 b2 => ju_na (by omega)) (fun b b1 b2 => ju_na (by omega)) gn
      rcases kU_at hi l_ with k_ | k_ | k_
      · omega
      · have i_ := (List.getElem?_eq_some_iff.mp k_.2).1
        have a_ : ((o_ + 1) % 8 + i) % 8 = (o_ + (i + 1)) % 8 := by omega
        rw [a_]
        exact out_ M _ (gu.2 _ M k_.2) (by omega) (qS_out (h3_ _ M k_.2) (fun b b1 b2 => f1_ b (by omega)) (fun b b1 b2 => f1_ b (by omega)) (gu.2 _ M k_.2))
      · have a_ : ((o_ + 1) % 8 + i) % 8 = (o_ + U.length) % 8 := by omega
        rw [k_.2, a_]
        exact out_ L _ g (by omega) w1_
theorem mq_keep (h : qM L B (I 242)) (g : qG L) (hu : mU U B I) (gu : gU U) : ∃ J, d_M_remembers I = some J ∧ mU (kU U L) B J ∧ (∀ b, ¬ b = 241 → ¬ b = 244 → J b = I b) ∧ ∀ k, ¬ k = 7 → J 241 k = I 241 k := by
  obtain ⟨h1_, h2_⟩ := hu
  have l_ := gu.1
  have kl_ := kU_len (U := U) (L := L) l_
  have ob_ : ∃ (K : z_H) (c : Nat), (if (I 241 7) = (jn 8) then ((z_it (d_M_remembers_7) z_F ((jn 0), I)).bind fun q8 => some ((ev_u2 q8.2 241 7 ((q8.2 241 7) - (jn 1))))) else some (I)) = some K ∧ c < 8 ∧ c + 1 = (kU U L).length ∧ K 241 7 = jn c ∧ (∀ b, ¬ b = 241 → ¬ b = 244 → K b = I b) ∧ (∀ k, ¬ k = 7 → K 241 k = I 241 k) ∧ ∀ i M, i < c → (kU U L)[i]? = some M → qM M B (fun k => K 244 (173 * i + k)) := by
    by_cases l8_ : U.length < 8
    · rw [if_pos l8_] at kl_
      refine ⟨I, U.length, ?_, l8_, kl_.symm, h1_, fun _ _ _ => rfl, fun _ _ => rfl, fun i M hi hM => ?_⟩
      · rw [h1_, if_neg (by rw [jn_eq (by omega) (by omega)]; omega)]
      · rcases kU_at hM l_ with k_ | k_ | k_
        · exact h2_ i M k_.2
        · omega
        · omega
    · rw [if_neg l8_] at kl_
      have z9_ : ∃ r, z_it (d_M_remembers_7) z_F (jn 0, I) = some r ∧ ((∀ b, ¬ b = 244 → r.2 b = I b) ∧ ∀ k, k < 1211 → r.2 244 k = I 244 (k + 173)) := by
        refine z_inv (fun (q : Nat) (p : Int32 × z_H) => p.1 = jn q ∧ (∀ b, ¬ b = 244 → p.2 b = I b) ∧ (∀ k, k < q → p.2 244 k = I 244 (k + 173)) ∧ ∀ k, q ≤ k → p.2 244 k = I 244 k) (fun (r : Int32 × z_H) => (∀ b, ¬ b = 244 → r.2 b = I b) ∧ ∀ k, k < 1211 → r.2 244 k = I 244 (k + 173)) (n := 1211) (by omega) ⟨rfl, fun _ _ => rfl, fun k hk => absurd hk (Nat.not_lt_zero _), fun _ _ => rfl⟩ (fun q p hq hp => ?_) (fun p hp => ?_)
        · obtain ⟨e1_, e2_, e3_, e4_⟩ := hp
          unfold d_M_remembers_7
          rw [e1_, if_pos (by rw [jn_lt (by omega) (by omega)]; exact hq), jn_add, if_pos (show z_in (jn (q + 173)) 1384 by rw [jn_in (by omega)]; omega), if_pos (show z_in (jn q) 1384 by rw [jn_in (by omega)]; omega), jn_n (by omega), jn_n (by omega)]
          refine ⟨_, rfl, jn_add q 1, fun b hb => ?_, fun k hk => ?_, fun k hk => ?_⟩
          · show ev_u2 p.2 244 _ _ b = I b
            rw [ju_na hb]; exact e2_ b hb
          · show ev_u2 p.2 244 q (p.2 244 (q + 173)) 244 k = _
            by_cases e_ : k = q
            · rw [e_, ju_at, e4_ _ (by omega)]
            · rw [ju_ne (by omega)]; exact e3_ k (by omega)
          · show ev_u2 p.2 244 q (p.2 244 (q + 173)) 244 k = _
            rw [ju_ne (by omega)]; exact e4_ k (by omega)
        · obtain ⟨e1_, e2_, e3_, e4_⟩ := hp
          unfold d_M_remembers_7
          rw [e1_, if_neg (by rw [jn_lt (by omega) (by omega)]; omega)]
          exact ⟨_, rfl, e2_, e3_⟩
      obtain ⟨r_, e_, f_, c_⟩ := z9_
      have l9_ : U.length = 8 := by omega
      refine ⟨ev_u2 r_.2 241 7 (jn 7), 7, ?_, by omega, by omega, ju_at .., fun b h1 h2 => by rw [ju_na h1, f_ b h2], fun k hk => by rw [ju_ne (fun q_ => hk q_.2), f_ 241 (by omega)], fun i M hi hM => ?_⟩
      · rw [if_pos (by rw [h1_, l9_]), e_, ob_s, f_ 241 (by omega), h1_, l9_, jn_sub (by omega)]
      · rcases kU_at hM l_ with k_ | k_ | k_
        · omega
        · refine qM_cg (h2_ _ M k_.2) (gu.2 _ M k_.2) (fun k hk => ?_)
          show ev_u2 r_.2 241 7 (jn 7) 244 (173 * i + k) = I 244 (173 * (i + 1) + k)
          rw [ju_na (by omega), c_ _ (by omega), show 173 * i + k + 173 = 173 * (i + 1) + k from by omega]
        · omega
  obtain ⟨K_, c_, e_, hc_, hc2_, k7_, f1_, f2_, m_⟩ := ob_
  have m242_ : K_ 242 = I 242 := f1_ 242 (by omega) (by omega)
  obtain ⟨J_, e2_, f3_, q1_, q2_⟩ := mq_lays (I := K_) (a := 242) (b := 244) (i := 0) (j := c_ * 173) (by omega) (by rw [zl_242]; omega) (by rw [zl_244]; omega) (by omega) (by omega)
  refine ⟨ev_u2 J_ 241 7 (jn (c_ + 1)), ?_, ⟨?_, fun i M hi => ?_⟩, fun b h1 h2 => by rw [ju_na h1, f3_ b h2, f1_ b h1 h2], fun k hk => by rw [ju_ne (fun q_ => hk q_.2), f3_ 241 (by omega), f2_ k hk]⟩
  · unfold d_M_remembers
    rw [e_, ob_s, k7_, jn_mul, e2_, ob_s, f3_ 241 (by omega), k7_, jn_add]
  · rw [ju_at, hc2_]
  · rcases Nat.lt_or_ge i c_ with w_ | w_
    · refine qM_cg (m_ i M w_ hi) (gU_k gu g |>.2 i M hi) (fun k hk => ?_)
      show ev_u2 J_ 241 7 (jn (c_ + 1)) 244 (173 * i + k) = K_ 244 (173 * i + k)
      rw [ju_na (by omega), q2_ _ (by omega)]
    · have i_ := (List.getElem?_eq_some_iff.mp hi).1
      have i2_ : i = c_ := by omega
      have M_ : M = L := by
        rcases kU_at hi l_ with k_ | k_ | k_
        · have k2_ := (List.getElem?_eq_some_iff.mp k_.2).1
          rw [if_pos k_.1] at kl_
          omega
        · have k2_ := (List.getElem?_eq_some_iff.mp k_.2).1
          rw [if_neg (by omega)] at kl_
          omega
        · exact k_.2
      rw [M_]
      refine qM_cg h g (fun k hk => ?_)
      show ev_u2 J_ 241 7 (jn (c_ + 1)) 244 (173 * i + k) = I 242 k
      rw [ju_na (by omega), i2_, show 173 * c_ + k = c_ * 173 + k from by omega, q1_ k hk, m242_, Nat.zero_add]
end HIS
