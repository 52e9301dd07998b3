/-! what a text comes to -/
def eb {α β : Type} (x : PE ⊕ α) (f : α → PE ⊕ β) : PE ⊕ β := match x with
  | .inl e => .inl e
  | .inr a => f a
theorem eb_l {α β : Type} {e : PE} {f : α → PE ⊕ β} : eb (.inl e) f = .inl e := rfl
theorem eb_r {α β : Type} {a : α} {f : α → PE ⊕ β} : eb (.inr a) f = f a := rfl
theorem eb_ok {α β : Type} {x : PE ⊕ α} {f : α → PE ⊕ β} {b : β} (h : eb x f = .inr b) : ∃ a, x = .inr a ∧ f a = .inr b := by
  cases x with
  | inl e => cases h
  | inr a => exact ⟨a, rfl, h⟩
theorem eb_no {α β : Type} {x : PE ⊕ α} {f : α → PE ⊕ β} {e : PE} (h : eb x f = .inl e) : x = .inl e ∨ ∃ a, x = .inr a ∧ f a = .inl e := by
  cases x with
  | inl e2 => exact Or.inl (congrArg Sum.inl (Sum.inl.inj h))
  | inr a => exact Or.inr ⟨a, rfl, h⟩
def Lcol (L : LL) (v : Int32) : LL := ((qF L, qC L + 1, qN L, qT L, qP L), qf L, qn L, (fun c => if c = qC L then v else qr L c), qo L, qs L, qt L)
def Lnat (L : LL) (x y w : Int32) : LL := ((qF L, qC L, qN L + 1, qT L, qP L), qf L, (fun m j => if m = qN L then (if j = 0 then x else if j = 1 then y else if j = 2 then w else jn 0) else qn L m j), qr L, qo L, qs L, qt L)
def Ltub (L : LL) (v : Int32) : LL := ((qF L, qC L, qN L, qT L + 1, qP L), qf L, qn L, qr L, (fun t => if t = qT L then v else qo L t), qs L, (fun t => if t = qT L then [] else qt L t))
def L00 (P : Nat) : LL := ((0, 0, 0, 0, P), (fun _ _ => jn 0), (fun _ _ => jn 0), (fun _ => jn 0), (fun _ => jn 0), (fun _ => jn 0), (fun _ => []))
theorem qG_00 {P : Nat} (h : P ≤ 8) : qG (L00 P) := ⟨Nat.zero_le _, Nat.zero_le _, Nat.zero_le _, Nat.zero_le _, h, fun f hf => absurd hf (Nat.not_lt_zero _), fun n hn => absurd hn (Nat.not_lt_zero _), fun t ht => absurd ht (Nat.not_lt_zero _), ⟨0, by omega, rfl⟩, fun f _ hf => absurd hf (Nat.not_lt_zero _)⟩
theorem qG_col {L : LL} (g : qG L) (h : qC L < 6) (v : Int32) : qG (Lcol L v) := by
  obtain ⟨g1_, g2_, g3_, g4_, g5_, g6_, g7_, g8_, g9_, ga_⟩ := g
  have m_ : 2 ^ qC L ≤ 2 ^ (qC L + 1) := Nat.pow_le_pow_right (by omega) (by omega)
  refine ⟨g1_, h, g3_, g4_, g5_, fun a ha => ?_, g7_, g8_, g9_, ga_⟩
  obtain ⟨q0_, q1_, q2_, q3_, q4_, q5_, q6_, q7_, q8_⟩ := g6_ a ha
  exact ⟨q0_, jlt_mono m_ q1_, q2_, q3_, q4_, q5_, jlt_mono m_ q6_, q7_, q8_⟩
theorem qG_nat {L : LL} (g : qG L) (h : qN L < 4) {x y w : Int32} (hx : jlt x 100) (hy : jlt y 100) (hw : jlt w 10) : qG (Lnat L x y w) := by
  obtain ⟨g1_, g2_, g3_, g4_, g5_, g6_, g7_, g8_, g9_, ga_⟩ := g
  refine ⟨g1_, g2_, h, g4_, g5_, fun a ha => ?_, fun n hn => ?_, g8_, g9_, ga_⟩
  · obtain ⟨q0_, q1_, q2_, q3_, q4_, q5_, q6_, q7_, q8_⟩ := g6_ a ha
    exact ⟨jlt_mono (Nat.le_succ _) q0_, q1_, q2_, q3_, q4_, q5_, q6_, q7_, q8_⟩
  · have hn2_ : n < qN L + 1 := hn
    by_cases e_ : n = qN L
    · have v_ : ∀ j, qn (Lnat L x y w) n j = if j = 0 then x else if j = 1 then y else if j = 2 then w else jn 0 := fun j => if_pos e_
      unfold qgn
      simp only [v_]
      exact ⟨hx, hy, hw, Or.inl rfl⟩
    · have v_ : ∀ j, qn (Lnat L x y w) n j = qn L n j := fun j => if_neg e_
      unfold qgn
      simp only [v_]
      exact g7_ n (by omega)
theorem qG_tub {L : LL} (g : qG L) (h : qT L < 3) {m : Nat} (hm : m < 7) : qG (Ltub L (jn m)) := by
  obtain ⟨g1_, g2_, g3_, g4_, g5_, g6_, g7_, g8_, g9_, ga_⟩ := g
  refine ⟨g1_, g2_, g3_, h, g5_, fun a ha => ?_, g7_, fun t ht => ?_, g9_, ga_⟩
  · obtain ⟨q0_, q1_, q2_, q3_, q4_, q5_, q6_, q7_, q8_⟩ := g6_ a ha
    refine ⟨q0_, q1_, q2_, q3_, q4_, q5_, q6_, q7_, ?_⟩
    rcases q8_ with k_ | k_ | k_ | k_
    · exact Or.inl k_
    · exact Or.inr (Or.inl ⟨k_.1, jlt_mono (Nat.le_succ _) k_.2⟩)
    · exact Or.inr (Or.inr (Or.inl k_))
    · exact Or.inr (Or.inr (Or.inr k_))
  · have ht2_ : t < qT L + 1 := ht
    by_cases e_ : t = qT L
    · have o_ : qo (Ltub L (jn m)) t = jn m := if_pos e_
      have l_ : qt (Ltub L (jn m)) t = [] := if_pos e_
      unfold qgt
      rw [o_, l_]
      refine ⟨⟨m, hm, rfl, Nat.zero_le _⟩, List.nodup_nil, fun a => ⟨fun q_ => absurd q_ List.not_mem_nil, fun q_ => ?_⟩⟩
      obtain ⟨k1_, k2_, k3_⟩ := q_
      have k2b_ : qf L a 8 = jn 1 := k2_
      have k3b_ : qf L a 9 = jn t := k3_
      have w_ := (g6_ a k1_).2.2.2.2.2.2.2.2
      rcases w_ with k_ | k_ | k_ | k_
      · exact absurd (k_.1.symm.trans k2b_) (by decide)
      · obtain ⟨c_, hc_, ec_⟩ := k_.2
        rw [ec_, e_, jn_eq (by omega) (by omega)] at k3b_
        omega
      · exact absurd (k_.1.symm.trans k2b_) (by decide)
      · exact absurd (k_.1.symm.trans k2b_) (by decide)
    · have o_ : qo (Ltub L (jn m)) t = qo L t := if_neg e_
      have l_ : qt (Ltub L (jn m)) t = qt L t := if_neg e_
      unfold qgt
      rw [o_, l_]
      exact g8_ t (by omega)
/-! colours of a flag -/
def nv (k : Nat) : Nat := qcn (fun c => k / 2 ^ c % 2 = 0) 6
theorem jcolb : ∀ (k : Fin 64) (c : Fin 6), (jn k.val >>> (jn c.val &&& 31)) &&& jn 1 = jn 0 → jn k.val ||| (jn 1 <<< (jn c.val &&& 31)) = jn (k.val ||| 2 ^ c.val) ∧ nv (k.val ||| 2 ^ c.val) + 1 = nv k.val := by decide +kernel
section ABS
variable (N : Nat) (A : Nat → Int32)
def aCol (hi set : Int32) (q : Nat) : PE ⊕ (Int32 × Nat) := eb (aNum N A (jn 0) hi q) fun r => if (set >>> (r.1 &&& 31)) &&& jn 1 = jn 0 then .inr (set ||| (jn 1 <<< (r.1 &&& 31)), r.2) else .inl (3, q)
def aCols (hi : Int32) : Nat → Int32 → Nat → PE ⊕ (Int32 × Nat)
  | 0, set, q => .inr (set, q)
  | f + 1, set, q => if q < N ∧ pD A q = true then (eb (aCol N A hi set q) fun r => aCols hi f r.1 r.2) else .inr (set, q)
def aColour (q0 q : Nat) (L : LL) : PE ⊕ (Nat × LL) := if qC L = 6 then .inl (4, q0) else eb (aNum N A (jn 0) (jn 4) q) fun v => .inr (v.2, Lcol L v.1)
def aNation (q0 q : Nat) (L : LL) : PE ⊕ (Nat × LL) := if qN L = 4 then .inl (4, q0) else eb (aNum N A (jn 0) (jn 99) q) fun x => eb (aNum N A (jn 1) (jn 99) x.2) fun y => eb (aNum N A (jn 0) (jn 9) y.2) fun w => .inr (w.2, Lnat L x.1 y.1 w.1)
def aTub (q0 q : Nat) (L : LL) : PE ⊕ (Nat × LL) := if qT L = 3 then .inl (4, q0) else eb (aNum N A (jn 1) (jn 6) q) fun v => .inr (v.2, Ltub L v.1)
def aFlag (q0 q : Nat) (L : LL) : PE ⊕ (Nat × LL) := if qF L = 12 then .inl (4, q0) else eb (aNum N A (jn 0) (jn (qN L) - jn 1) q) fun n => eb (aNum N A (jn 0) (jn 3) n.2) fun c => eb (aNum N A (jn 0) (jn 9) c.2) fun d => eb (aCol N A (jn (qC L) - jn 1) (jn 0) d.2) fun s => eb (aCols N A (jn (qC L) - jn 1) 6 s.1 s.2) fun w => .inr (w.2, Ladd L n.1 w.1 c.1 d.1)
def aPut (q : Nat) (L : LL) : PE ⊕ (Nat × LL) := eb (aNum N A (jn 0) (jn (qF L) - jn 1) q) fun f => eb (aNum N A (jn 0) (jn (qT L) - jn 1) f.2) fun t => if yput L (z_n f.1) (z_n t.1) = jn 0 then .inr (t.2, Lput L (z_n f.1) (z_n t.1)) else .inl (3, f.2)
def aWash (q : Nat) (L : LL) : PE ⊕ (Nat × LL) := eb (aNum N A (jn 0) (jn (qT L) - jn 1) q) fun t => eb (aNum N A (jn 0) (jn 3) t.2) fun h => if ywash L (z_n t.1) h.1 = jn 0 then .inr (h.2, Lwsh L (z_n t.1) h.1) else .inl (3, t.2)
def aHang (q : Nat) (L : LL) : PE ⊕ (Nat × LL) := eb (aNum N A (jn 0) (jn (qF L) - jn 1) q) fun f => if qf L (z_n f.1) 8 = jn 0 ∧ ¬ yfree L = jg 1 then .inr (f.2, Lmv L (z_n f.1) (jn 2) (yfree L)) else .inl (3, q)
def aWind (q : Nat) (L : LL) : PE ⊕ (Nat × LL) := eb (aNum N A (jn 0) (jn 9) q) fun w => .inr (w.2, ls L 1 w.1)
def aPass (q : Nat) (L : LL) : PE ⊕ (Nat × LL) := eb (aNum N A (jn 1) (jn 50) q) fun n => .inr (n.2, Lpss L (z_n n.1))
def aLine (q : Nat) (L : LL) : PE ⊕ (Nat × LL) := if tK N A q = 2 then (if tWd N A q 2 = true then aColour N A q (nx N A q) L else if tWd N A q 3 = true then aNation N A q (nx N A q) L else if tWd N A q 4 = true then aTub N A q (nx N A q) L else if tWd N A q 5 = true then aFlag N A q (nx N A q) L else if tWd N A q 6 = true then aPut N A (nx N A q) L else if tWd N A q 7 = true then aWash N A (nx N A q) L else if tWd N A q 8 = true then aHang N A (nx N A q) L else if tWd N A q 9 = true then aWind N A (nx N A q) L else if tWd N A q 10 = true then aPass N A (nx N A q) L else .inl (1, q)) else .inl (1, q)
def aLines : Nat → Nat → LL → PE ⊕ LL
  | 0, q, _ => .inl (1, q)
  | f + 1, q, L => if tK N A q = 4 then (eb (aLine N A (nx N A q) L) fun r => aLines f r.1 r.2) else if tK N A q = 1 then (if qC L = 0 ∨ qN L = 0 ∨ qT L = 0 then .inl (4, q) else .inr L) else .inl (1, q)
def aText : PE ⊕ LL := if tK N A (tS N A 0) = 2 ∧ tWd N A (tS N A 0) 1 = true then (eb (aNum N A (jn 1) (jn 8) (nx N A (tS N A 0))) fun p => aLines N A (N + 1) p.2 (L00 (z_n p.1))) else .inl (1, tS N A 0)
end ABS
section ABF
variable {N q q0 : Nat} {A : Nat → Int32} {L : LL} {e : PE} {r : Nat × LL}
theorem fE_c {c q : Nat} (h0 : ¬ c = 0) (h5 : c < 5) (hq : q ≤ N) : fE N (c, q) := ⟨h0, h5, hq⟩
theorem aCol_ok {m k : Nat} {s : Int32 × Nat} (hm : m ≤ 6) (hk : k < 2 ^ m) (h : aCol N A (jn m - jn 1) (jn k) q = .inr s) : q < s.2 ∧ s.2 ≤ N ∧ ∃ k2, k2 < 2 ^ m ∧ s.1 = jn k2 ∧ nv k2 + 1 = nv k := by
  have h64_ : 2 ^ m ≤ 64 := Nat.pow_le_pow_right (n := 2) (by omega) hm
  obtain ⟨v_, e1_, e2_⟩ := eb_ok h
  have q_ := aNum_q (v := v_.1) (r := v_.2) e1_
  obtain ⟨b1_, b2_, _⟩ := aNum_V (v := v_.1) (r := v_.2) e1_
  obtain ⟨c_, hc_, ec_⟩ := jrg1 (by omega) b1_ b2_
  by_cases w_ : (jn k >>> (v_.1 &&& 31)) &&& jn 1 = jn 0
  · rw [if_pos w_] at e2_
    have e3_ := Sum.inr.inj e2_
    have p1_ : jn k ||| (jn 1 <<< (v_.1 &&& 31)) = s.1 := congrArg (fun x : Int32 × Nat => x.1) e3_
    have p2_ : v_.2 = s.2 := by
      have k_ := congrArg (fun x : Int32 × Nat => x.2) e3_
      exact k_
    rw [ec_] at w_ p1_
    obtain ⟨j1_, j2_⟩ := jcolb ⟨k, by omega⟩ ⟨c_, by omega⟩ w_
    rw [← p2_]
    exact ⟨q_.1, q_.2, k ||| 2 ^ c_, Nat.or_lt_two_pow hk (Nat.pow_lt_pow_right (by omega) hc_), p1_.symm.trans j1_, j2_⟩
  · rw [if_neg w_] at e2_
    cases e2_
theorem aCol_E {hi set : Int32} (hq : q ≤ N) (h : aCol N A hi set q = .inl e) : fE N e := by
  rcases eb_no h with k_ | ⟨v_, e1_, e2_⟩
  · exact aNum_E hq k_
  · by_cases w_ : (set >>> (v_.1 &&& 31)) &&& jn 1 = jn 0
    · rw [if_pos w_] at e2_
      cases e2_
    · rw [if_neg w_] at e2_
      rw [← Sum.inl.inj e2_]
      exact fE_c (by omega) (by omega) hq
theorem aCols_ok {m : Nat} (hm : m ≤ 6) : ∀ (f k q : Nat) (s : Int32 × Nat), k < 2 ^ m → q ≤ N → aCols N A (jn m - jn 1) f (jn k) q = .inr s → q ≤ s.2 ∧ s.2 ≤ N ∧ jlt s.1 (2 ^ m) := by
  intro f
  induction f with
  | zero =>
    intro k q s hk hq h
    have e_ := Sum.inr.inj h
    rw [← e_]
    exact ⟨Nat.le_refl _, hq, k, hk, rfl⟩
  | succ f ih_ =>
    intro k q s hk hq h
    unfold aCols at h
    by_cases t_ : q < N ∧ pD A q = true
    · rw [if_pos t_] at h
      obtain ⟨v_, e1_, e2_⟩ := eb_ok h
      obtain ⟨o1_, o2_, k2_, hk2_, ek2_, _⟩ := aCol_ok hm hk e1_
      rw [ek2_] at e2_
      obtain ⟨p1_, p2_, p3_⟩ := ih_ k2_ v_.2 s hk2_ o2_ e2_
      exact ⟨by omega, p2_, p3_⟩
    · rw [if_neg t_] at h
      have e_ := Sum.inr.inj h
      rw [← e_]
      exact ⟨Nat.le_refl _, hq, k, hk, rfl⟩
theorem aCols_E {hi : Int32} : ∀ (f : Nat) (set : Int32) (q : Nat), q ≤ N → aCols N A hi f set q = .inl e → fE N e := by
  intro f
  induction f with
  | zero => intro set q _ h; cases h
  | succ f ih_ =>
    intro set q hq h
    unfold aCols at h
    by_cases t_ : q < N ∧ pD A q = true
    · rw [if_pos t_] at h
      rcases eb_no h with k_ | ⟨v_, e1_, e2_⟩
      · exact aCol_E hq k_
      · obtain ⟨x_, f1_, f2_⟩ := eb_ok e1_
        have q_ := aNum_q (v := x_.1) (r := x_.2) f1_
        have e3_ : v_.2 = x_.2 := by
          by_cases w_ : (set >>> (x_.1 &&& 31)) &&& jn 1 = jn 0
          · rw [if_pos w_] at f2_
            exact (congrArg (fun x : Int32 × Nat => x.2) (Sum.inr.inj f2_)).symm
          · rw [if_neg w_] at f2_
            cases f2_
        exact ih_ v_.1 v_.2 (by rw [e3_]; exact q_.2) e2_
    · rw [if_neg t_] at h
      cases h
/-- a line that is read, and one that is not -/
def aG (N q : Nat) (x : PE ⊕ (Nat × LL)) : Prop := (∀ e, x = .inl e → fE N e) ∧ ∀ r, x = .inr r → qG r.2 ∧ q ≤ r.1 ∧ r.1 ≤ N
theorem aG_l (h : fE N e) : aG N q (.inl e) := ⟨fun e2 h2 => by rw [← Sum.inl.inj h2]; exact h, fun r h2 => by cases h2⟩
theorem aG_r {p : Nat} {K : LL} (h : qG K) (h1 : q ≤ p) (h2 : p ≤ N) : aG N q (.inr (p, K)) := ⟨(fun e h3 => by cases h3), (fun r h3 => by rw [← Sum.inr.inj h3]; exact ⟨h, h1, h2⟩)⟩
theorem aG_b {lo hi : Int32} {f : Int32 × Nat → PE ⊕ (Nat × LL)} (hq : q ≤ N) (h : ∀ v p, aNum N A lo hi q = .inr (v, p) → q < p → p ≤ N → ¬ v < lo → ¬ hi < v → aG N q (f (v, p))) : aG N q (eb (aNum N A lo hi q) f) := by
  cases x_ : aNum N A lo hi q with
  | inl e => exact aG_l (aNum_E hq x_)
  | inr p =>
    have k_ := aNum_q (v := p.1) (r := p.2) x_
    have k2_ := aNum_V (v := p.1) (r := p.2) x_
    exact h p.1 p.2 x_ k_.1 k_.2 k2_.1 k2_.2.1
theorem aG_w {q2 : Nat} {x : PE ⊕ (Nat × LL)} (h : aG N q2 x) (hq : q ≤ q2) : aG N q x := ⟨h.1, fun r hr => by
  have k_ := h.2 r hr
  exact ⟨k_.1, by omega, k_.2.2⟩⟩
theorem aG_colour (g : qG L) (h0 : q0 ≤ N) (hq : q ≤ N) : aG N q (aColour N A q0 q L) := by
  have g2_ := g.2.1
  unfold aColour
  by_cases c_ : qC L = 6
  · rw [if_pos c_]; exact aG_l (fE_c (by omega) (by omega) h0)
  · rw [if_neg c_]
    exact aG_b hq (fun v p _ h1 h2 _ _ => aG_r (qG_col g (by omega) v) (by omega) h2)
theorem aG_nation (g : qG L) (h0 : q0 ≤ N) (hq : q ≤ N) : aG N q (aNation N A q0 q L) := by
  have g2_ := g.2.2.1
  unfold aNation
  by_cases c_ : qN L = 4
  · rw [if_pos c_]; exact aG_l (fE_c (by omega) (by omega) h0)
  · rw [if_neg c_]
    refine aG_b hq (fun v p _ h1 h2 b1 b2 => aG_w (aG_b h2 (fun v2 p2 _ h3 h4 b3 b4 => aG_w (aG_b h4 (fun v3 p3 _ h5 h6 b5 b6 => ?_)) (by omega))) (by omega))
    obtain ⟨k1_, _, l1_, e1_⟩ := jrg (by omega) (by omega) b1 b2
    obtain ⟨k2_, _, l2_, e2_⟩ := jrg (by omega) (by omega) b3 b4
    obtain ⟨k3_, _, l3_, e3_⟩ := jrg (by omega) (by omega) b5 b6
    exact aG_r (qG_nat g (by omega) ⟨k1_, by omega, e1_⟩ ⟨k2_, by omega, e2_⟩ ⟨k3_, by omega, e3_⟩) (by omega) h6
theorem aG_tub (g : qG L) (h0 : q0 ≤ N) (hq : q ≤ N) : aG N q (aTub N A q0 q L) := by
  have g2_ := g.2.2.2.1
  unfold aTub
  by_cases c_ : qT L = 3
  · rw [if_pos c_]; exact aG_l (fE_c (by omega) (by omega) h0)
  · rw [if_neg c_]
    refine aG_b hq (fun v p _ h1 h2 b1 b2 => ?_)
    obtain ⟨k1_, _, l1_, e1_⟩ := jrg (by omega) (by omega) b1 b2
    show aG N q (.inr (p, Ltub L v))
    rw [e1_]
    exact aG_r (qG_tub g (by omega) (by omega)) (by omega) h2
theorem aG_flag (g : qG L) (h0 : q0 ≤ N) (hq : q ≤ N) : aG N q (aFlag N A q0 q L) := by
  have g1_ := g.1
  have g2_ := g.2.1
  have g3_ := g.2.2.1
  unfold aFlag
  by_cases c_ : qF L = 12
  · rw [if_pos c_]; exact aG_l (fE_c (by omega) (by omega) h0)
  · rw [if_neg c_]
    refine aG_b hq (fun v p _ h1 h2 b1 b2 => aG_w (aG_b h2 (fun v2 p2 _ h3 h4 b3 b4 => aG_w (aG_b h4 (fun v3 p3 _ h5 h6 b5 b6 => ?_)) (by omega))) (by omega))
    obtain ⟨k1_, l1_, e1_⟩ := jrg1 (by omega) b1 b2
    obtain ⟨k2_, _, l2_, e2_⟩ := jrg (by omega) (by omega) b3 b4
    obtain ⟨k3_, _, l3_, e3_⟩ := jrg (by omega) (by omega) b5 b6
    dsimp only
    cases x_ : aCol N A (jn (qC L) - jn 1) (jn 0) p3 with
    | inl e => exact aG_l (aCol_E h6 x_)
    | inr s =>
      obtain ⟨o1_, o2_, m_, hm_, em_, _⟩ := aCol_ok g2_ (Nat.two_pow_pos _) x_
      rw [eb_r, em_]
      cases y_ : aCols N A (jn (qC L) - jn 1) 6 (jn m_) s.2 with
      | inl e => exact aG_l (aCols_E 6 _ _ o2_ y_)
      | inr w =>
        obtain ⟨p1_, p2_, p3_⟩ := aCols_ok g2_ 6 m_ s.2 w hm_ o2_ y_
        exact aG_r (qG_add g (by omega) ⟨k1_, l1_, e1_⟩ p3_ ⟨k2_, by omega, e2_⟩ ⟨k3_, by omega, e3_⟩) (by omega) p2_
theorem aG_put (g : qG L) (hq : q ≤ N) : aG N q (aPut N A q L) := by
  have g1_ := g.1
  have g4_ := g.2.2.2.1
  unfold aPut
  refine aG_b hq (fun v p _ h1 h2 b1 b2 => aG_w (aG_b h2 (fun v2 p2 _ h3 h4 b3 b4 => ?_)) (by omega))
  obtain ⟨k1_, l1_, e1_⟩ := jrg1 (by omega) b1 b2
  obtain ⟨k2_, l2_, e2_⟩ := jrg1 (by omega) b3 b4
  dsimp only
  rw [e1_, e2_, jn_n (a := k1_) (by omega), jn_n (a := k2_) (by omega)]
  by_cases y_ : yput L k1_ k2_ = jn 0
  · rw [if_pos y_]
    unfold yput at y_
    by_cases q8_ : qf L k1_ 8 = jn 0
    · rw [if_pos q8_] at y_
      by_cases r_ : jn (qt L k2_).length < qo L k2_
      · exact aG_r (qG_put g l1_ l2_ q8_ r_) (by omega) h4
      · rw [if_neg r_] at y_
        exact absurd y_ (by decide)
    · rw [if_neg q8_] at y_
      exact absurd y_ (by decide)
  · rw [if_neg y_]
    exact aG_l (fE_c (by omega) (by omega) h2)
theorem aG_wash (g : qG L) (hq : q ≤ N) : aG N q (aWash N A q L) := by
  have g4_ := g.2.2.2.1
  unfold aWash
  refine aG_b hq (fun v p _ h1 h2 b1 b2 => aG_w (aG_b h2 (fun v2 p2 _ h3 h4 b3 b4 => ?_)) (by omega))
  obtain ⟨k1_, l1_, e1_⟩ := jrg1 (by omega) b1 b2
  obtain ⟨k2_, _, l2_, e2_⟩ := jrg (by omega) (by omega) b3 b4
  dsimp only
  rw [e1_, jn_n (a := k1_) (by omega)]
  by_cases y_ : ywash L k1_ v2 = jn 0
  · rw [if_pos y_]
    exact aG_r (qG_wsh g l1_ ⟨k2_, by omega, e2_⟩) (by omega) h4
  · rw [if_neg y_]
    exact aG_l (fE_c (by omega) (by omega) h2)
theorem aG_hang (g : qG L) (hq : q ≤ N) : aG N q (aHang N A q L) := by
  have g1_ := g.1
  have n01_ : ¬ jn 0 = jn 1 := by decide
  unfold aHang
  refine aG_b hq (fun v p _ h1 h2 b1 b2 => ?_)
  obtain ⟨k1_, l1_, e1_⟩ := jrg1 (by omega) b1 b2
  dsimp only
  rw [e1_, jn_n (a := k1_) (by omega)]
  by_cases y_ : qf L k1_ 8 = jn 0 ∧ ¬ yfree L = jg 1
  · rw [if_pos y_]
    obtain ⟨p_, hp_, ep_, ep2_⟩ := yfree_at g y_.2
    exact aG_r (qG_mv g l1_ (by rw [y_.1]; exact n01_) (Or.inr (Or.inl ⟨rfl, p_, hp_, ep_, ep2_⟩))) (by omega) h2
  · rw [if_neg y_]
    exact aG_l (fE_c (by omega) (by omega) hq)
theorem aG_wind (g : qG L) (hq : q ≤ N) : aG N q (aWind N A q L) := by
  unfold aWind
  refine aG_b hq (fun v p _ h1 h2 b1 b2 => ?_)
  obtain ⟨k2_, _, l2_, e2_⟩ := jrg (by omega) (by omega) b1 b2
  exact aG_r (qG_w g ⟨k2_, by omega, e2_⟩) (by omega) h2
theorem aG_pass (g : qG L) (hq : q ≤ N) : aG N q (aPass N A q L) := by
  unfold aPass
  exact aG_b hq (fun v p _ h1 h2 b1 b2 => aG_r (qG_pss g _) (by omega) h2)
theorem aG_line (g : qG L) (hq : q ≤ N) : aG N q (aLine N A q L) := by
  have n_ := nx_le (A := A) hq
  unfold aLine
  by_cases t_ : tK N A q = 2
  · rw [if_pos t_]
    by_cases w2_ : tWd N A q 2 = true
    · rw [if_pos w2_]; exact aG_w (aG_colour g hq n_.2) n_.1
    rw [if_neg w2_]
    by_cases w3_ : tWd N A q 3 = true
    · rw [if_pos w3_]; exact aG_w (aG_nation g hq n_.2) n_.1
    rw [if_neg w3_]
    by_cases w4_ : tWd N A q 4 = true
    · rw [if_pos w4_]; exact aG_w (aG_tub g hq n_.2) n_.1
    rw [if_neg w4_]
    by_cases w5_ : tWd N A q 5 = true
    · rw [if_pos w5_]; exact aG_w (aG_flag g hq n_.2) n_.1
    rw [if_neg w5_]
    by_cases w6_ : tWd N A q 6 = true
    · rw [if_pos w6_]; exact aG_w (aG_put g n_.2) n_.1
    rw [if_neg w6_]
    by_cases w7_ : tWd N A q 7 = true
    · rw [if_pos w7_]; exact aG_w (aG_wash g n_.2) n_.1
    rw [if_neg w7_]
    by_cases w8_ : tWd N A q 8 = true
    · rw [if_pos w8_]; exact aG_w (aG_hang g n_.2) n_.1
    rw [if_neg w8_]
    by_cases w9_ : tWd N A q 9 = true
    · rw [if_pos w9_]; exact aG_w (aG_wind g n_.2) n_.1
    rw [if_neg w9_]
    by_cases wa_ : tWd N A q 10 = true
    · rw [if_pos wa_]; exact aG_w (aG_pass g n_.2) n_.1
    rw [if_neg wa_]
    exact aG_l (fE_c (by omega) (by omega) hq)
  · rw [if_neg t_]
    exact aG_l (fE_c (by omega) (by omega) hq)
end ABF
