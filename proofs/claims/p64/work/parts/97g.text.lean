/-! texts: what both sides write -/
def wT (w : List Nat) (I : z_H) : Prop := I 239 0 = jn w.length ∧ w.length ≤ 60 ∧ ∀ (i c : Nat), w[i]? = some c → I 240 i = jn c
def wM (w : List Nat) (I : z_H) : Prop := I 241 19 = jn w.length ∧ w.length ≤ 60 ∧ ∀ (i c : Nat), w[i]? = some c → I 249 i = jn c
def tT (w : List Nat) (I J : z_H) : Prop := wT w J ∧ ∀ b, ¬ b = 239 → ¬ b = 240 → J b = I b
def tM (w : List Nat) (I J : z_H) : Prop := wM w J ∧ (∀ b, ¬ b = 241 → ¬ b = 249 → J b = I b) ∧ ∀ k, ¬ k = 19 → J 241 k = I 241 k
theorem jbyte : ∀ c : Fin 128, vp_nar .byte ((jn c.val).toInt8.toInt32) = jn c.val := by decide +kernel
def jnum (v : Nat) : List Nat := if v < 10 then [48 + v] else [48 + v / 10, 48 + v % 10]
theorem jnum_le {v : Nat} : 1 ≤ (jnum v).length ∧ (jnum v).length ≤ 2 := by
  unfold jnum
  by_cases h_ : v < 10
  · rw [if_pos h_]
    show 1 ≤ 1 ∧ 1 ≤ 2
    omega
  · rw [if_neg h_]
    show 1 ≤ 2 ∧ 2 ≤ 2
    omega
theorem jnum_1 {v : Nat} (h : v < 10) : (jnum v).length = 1 := by
  unfold jnum
  rw [if_pos h]
  rfl
theorem jdig : ∀ v : Fin 100, jn 48 + jn v.val / jn 10 = jn (48 + v.val / 10) ∧ jn 48 + (jn v.val - jn v.val / jn 10 * jn 10) = jn (48 + v.val % 10) := by decide +kernel
theorem ap_at {w : List Nat} {c i x : Nat} (h : (w ++ [c])[i]? = some x) : (i < w.length ∧ w[i]? = some x) ∨ (i = w.length ∧ x = c) := by
  rcases Nat.lt_or_ge i w.length with k_ | k_
  · rw [List.getElem?_append_left k_] at h
    exact Or.inl ⟨k_, h⟩
  · rw [List.getElem?_append_right k_] at h
    have k3_ := (List.getElem?_eq_some_iff.mp h).1
    have k4_ : ([c] : List Nat).length = 1 := rfl
    have k2_ : i - w.length = 0 := by omega
    rw [k2_] at h
    exact Or.inr ⟨by omega, (Option.some.inj h).symm⟩
section TXT
variable {w : List Nat} {I : z_H} {c v : Nat}
theorem ap_len : (w ++ [c]).length = w.length + 1 := by rw [List.length_append]; rfl
theorem tT_tr {w2 : List Nat} {J K : z_H} (h : tT w I J) (h2 : tT w2 J K) : tT w2 I K := ⟨h2.1, fun b b1 b2 => (h2.2 b b1 b2).trans (h.2 b b1 b2)⟩
theorem tM_tr {w2 : List Nat} {J K : z_H} (h : tM w I J) (h2 : tM w2 J K) : tM w2 I K := ⟨h2.1, fun b b1 b2 => (h2.2.1 b b1 b2).trans (h.2.1 b b1 b2), fun k hk => (h2.2.2 k hk).trans (h.2.2 k hk)⟩
theorem tT_0 : tT [] I (ev_u2 I 239 0 (jn 0)) := ⟨⟨ju_at .., Nat.zero_le _, fun i c h => by cases h⟩, fun b b1 _ => ju_na b1⟩
theorem tM_0 : tM [] I (ev_u2 I 241 19 (jn 0)) := ⟨⟨ju_at .., Nat.zero_le _, fun i c h => by cases h⟩, fun b b1 _ => ju_na b1, fun k hk => ju_ne (fun q_ => hk q_.2)⟩
end TXT
/-- a flag's text -/
def yltr (L : LL) (f : Nat) : Nat := if qf L f 8 = jn 0 then 98 else if qf L f 8 = jn 1 then 116 else if qf L f 8 = jn 2 then 108 else 103
def yfst (L : LL) (f c : Nat) (w : List Nat) : List Nat := if (qf L f 6 >>> (jn c &&& 31)) &&& jn 1 = jn 0 then w else w ++ [43] ++ jnum c
def yfb (L : LL) (f : Nat) : List Nat := [yltr L f] ++ jnum (z_n (qf L f 3)) ++ jnum (z_n (qf L f 4)) ++ jnum (z_n (qf L f 5))
def yfl (L : LL) (f n : Nat) : List Nat := jfd (yfst L f) (yfb L f) n
theorem yltr_lt {L : LL} {f : Nat} : yltr L f < 128 := by
  unfold yltr
  by_cases h_ : qf L f 8 = jn 0
  · rw [if_pos h_]; omega
  · rw [if_neg h_]
    by_cases h2_ : qf L f 8 = jn 1
    · rw [if_pos h2_]; omega
    · rw [if_neg h2_]
      by_cases h3_ : qf L f 8 = jn 2
      · rw [if_pos h3_]; omega
      · rw [if_neg h3_]; omega
theorem yfb_le {L : LL} {f : Nat} : (yfb L f).length ≤ 7 := by
  unfold yfb
  have k1_ := (jnum_le (v := z_n (qf L f 3))).2
  have k2_ := (jnum_le (v := z_n (qf L f 4))).2
  have k3_ := (jnum_le (v := z_n (qf L f 5))).2
  rw [List.length_append, List.length_append, List.length_append]
  show 1 + _ + _ + _ ≤ 7
  omega
theorem yfl_le {L : LL} {f : Nat} : ∀ n, (yfl L f n).length ≤ 7 + 3 * n := by
  intro n
  induction n with
  | zero => exact yfb_le
  | succ n ih_ =>
    show (yfst L f n (yfl L f n)).length ≤ _
    have k_ := (jnum_le (v := n)).2
    unfold yfst
    by_cases h_ : (qf L f 6 >>> (jn n &&& 31)) &&& jn 1 = jn 0
    · rw [if_pos h_]; omega
    · rw [if_neg h_, List.length_append, ap_len]; omega
theorem jbit0 : ∀ (m : Fin 7) (k : Fin 64) (c : Fin 6), k.val < 2 ^ m.val → m.val ≤ c.val → (jn k.val >>> (jn c.val &&& 31)) &&& jn 1 = jn 0 := by decide +kernel
theorem jbit1 : ∀ (k : Fin 64) (c : Fin 6), ((if (jn k.val >>> (jn c.val &&& 31)) &&& jn 1 = jn 1 then jn 1 else jn 0) = jn 0) ↔ ((jn k.val >>> (jn c.val &&& 31)) &&& jn 1 = jn 0) := by decide +kernel
theorem yfl_6 {L : LL} (g : qG L) {f : Nat} (hf : f < qF L) : ∀ d, qC L + d ≤ 6 → yfl L f (qC L + d) = yfl L f (qC L) := by
  intro d
  induction d with
  | zero => intro _; rfl
  | succ d ih_ =>
    intro h_
    have g2_ := g.2.1
    obtain ⟨k_, hk_, e_⟩ := (g.2.2.2.2.2.1 f hf).2.2.2.2.2.2.1
    have h2_ : 2 ^ qC L ≤ 64 := Nat.pow_le_pow_right (n := 2) (by omega) g2_
    show yfst L f (qC L + d) (yfl L f (qC L + d)) = _
    unfold yfst
    rw [e_, if_pos (jbit0 ⟨qC L, by omega⟩ ⟨k_, by omega⟩ ⟨qC L + d, by omega⟩ hk_ (by show qC L ≤ qC L + d; omega)), ih_ (by omega)]
