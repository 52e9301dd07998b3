/-! deeds: a laundry with one number changed; what both sides hold, number by number -/
/-- a loop by what holds after each step -/
theorem z_inv {σ ρ : Type} {f : σ → Option (σ ⊕ ρ)} (R : Nat → σ → Prop) (Q : ρ → Prop) {n : Nat} (hn : n < 100000) {s0 : σ} (h0 : R 0 s0) (hs : ∀ i s, i < n → R i s → ∃ s2, f s = some (.inl s2) ∧ R (i + 1) s2) (he : ∀ s, R n s → ∃ r, f s = some (.inr r) ∧ Q r) : ∃ r, z_it f z_F s0 = some r ∧ Q r := by
  have h_ : ∀ (m i : Nat) (s : σ), i ≤ n → n < m + i → R i s → ∃ r, z_it f m s = some r ∧ Q r := by
    intro m
    induction m with
    | zero => intro i s h1_ h2_ _; omega
    | succ m ih_ =>
      intro i s h1_ h2_ h3_
      unfold z_it
      rcases Nat.lt_or_ge i n with h4_ | h4_
      · obtain ⟨s2_, e_, h5_⟩ := hs i s h4_ h3_
        rw [e_]
        exact ih_ (i + 1) s2_ (by omega) (by omega) h5_
      · have e_ : i = n := by omega
        rw [e_] at h3_
        obtain ⟨r_, e2_, h5_⟩ := he s h3_
        rw [e2_]
        exact ⟨r_, rfl, h5_⟩
  exact h_ z_F 0 s0 (Nat.zero_le _) (by unfold z_F; omega) h0
def lf (L : LL) (f k : Nat) (x : Int32) : LL := (L.1, fun g j => if g = f ∧ j = k then x else qf L g j, L.2.2)
def ls (L : LL) (k : Nat) (x : Int32) : LL := (L.1, qf L, qn L, qr L, qo L, fun j => if j = k then x else qs L j, qt L)
def ln (L : LL) (n k : Nat) (x : Int32) : LL := (L.1, qf L, fun m j => if m = n ∧ j = k then x else qn L m j, qr L, qo L, qs L, qt L)
def lt (L : LL) (t : Nat) (l : List Nat) : LL := (L.1, qf L, qn L, qr L, qo L, qs L, fun v => if v = t then l else qt L v)
theorem lf_at {L : LL} {f k : Nat} {x : Int32} : qf (lf L f k x) f k = x := if_pos ⟨rfl, rfl⟩
theorem lf_ne {L : LL} {f k g j : Nat} {x : Int32} (h : ¬ (g = f ∧ j = k)) : qf (lf L f k x) g j = qf L g j := if_neg h
theorem ls_at {L : LL} {k : Nat} {x : Int32} : qs (ls L k x) k = x := if_pos rfl
theorem ls_ne {L : LL} {k j : Nat} {x : Int32} (h : ¬ j = k) : qs (ls L k x) j = qs L j := if_neg h
theorem ln_at {L : LL} {n k : Nat} {x : Int32} : qn (ln L n k x) n k = x := if_pos ⟨rfl, rfl⟩
theorem ln_ne {L : LL} {n k m j : Nat} {x : Int32} (h : ¬ (m = n ∧ j = k)) : qn (ln L n k x) m j = qn L m j := if_neg h
theorem lt_at {L : LL} {t : Nat} {l : List Nat} : qt (lt L t l) t = l := if_pos rfl
theorem lt_ne {L : LL} {t v : Nat} {l : List Nat} (h : ¬ v = t) : qt (lt L t l) v = qt L v := if_neg h
/-- as many as there may be -/
def qB (L : LL) : Prop := qF L ≤ 12 ∧ qC L ≤ 6 ∧ qN L ≤ 4 ∧ qT L ≤ 3 ∧ qP L ≤ 8
theorem qG_B {L : LL} (g : qG L) : qB L := ⟨g.1, g.2.1, g.2.2.1, g.2.2.2.1, g.2.2.2.2.1⟩
/-- the reference's numbers, but for the order -/
def rM (L : LL) (A : Nat → Int32) : Prop := (∀ k, k < 6 → A k = qs L k) ∧ A 6 = jn (qC L) ∧ A 7 = jn (qN L) ∧ A 8 = jn (qT L) ∧ A 9 = jn (qP L) ∧ A 10 = jn (qF L) ∧ (∀ c, c < qC L → A (12 + c) = qr L c) ∧ (∀ n k, n < qN L → k < 5 → A (18 + 5 * n + k) = qn L n k) ∧ (∀ t, t < qT L → A (38 + t) = qo L t) ∧ (∀ f k, f < qF L → k < 10 → A (41 + 11 * f + k) = qf L f k) ∧ (∀ n, qN L ≤ n → n < 4 → A (18 + 5 * n + 3) = jn 0)
theorem qM_r {L : LL} {B : Nat} {A : Nat → Int32} : qM L B A ↔ rM L A ∧ qMo L B A := by
  constructor
  · intro h
    exact ⟨⟨h.1, h.2.1, h.2.2.1, h.2.2.2.1, h.2.2.2.2.1, h.2.2.2.2.2.1, h.2.2.2.2.2.2.1, h.2.2.2.2.2.2.2.1, h.2.2.2.2.2.2.2.2.1, h.2.2.2.2.2.2.2.2.2.1, h.2.2.2.2.2.2.2.2.2.2.1⟩, h.2.2.2.2.2.2.2.2.2.2.2⟩
  · intro h
    exact ⟨h.1.1, h.1.2.1, h.1.2.2.1, h.1.2.2.2.1, h.1.2.2.2.2.1, h.1.2.2.2.2.2.1, h.1.2.2.2.2.2.2.1, h.1.2.2.2.2.2.2.2.1, h.1.2.2.2.2.2.2.2.2.1, h.1.2.2.2.2.2.2.2.2.2.1, h.1.2.2.2.2.2.2.2.2.2.2, h.2⟩
/-- one number of an array changed -/
def jup (A : Nat → Int32) (i : Nat) (x : Int32) : Nat → Int32 := fun j => if j = i then x else A j
theorem jup_at {A : Nat → Int32} {i : Nat} {x : Int32} : jup A i x i = x := if_pos rfl
theorem jup_ne {A : Nat → Int32} {i j : Nat} {x : Int32} (h : ¬ j = i) : jup A i x j = A j := if_neg h
theorem ju_up {I : z_H} {a i : Nat} {x : Int32} : ev_u2 I a i x a = jup (I a) i x := by
  funext j
  by_cases h_ : j = i
  · rw [h_, ju_at, jup_at]
  · rw [ju_ne (fun h9_ => h_ h9_.2), jup_ne h_]
theorem rM_f {L : LL} {A : Nat → Int32} (h : rM L A) (b : qB L) {f k : Nat} (hk : k < 10) (x : Int32) : rM (lf L f k x) (jup A (41 + 11 * f + k) x) := by
  obtain ⟨b1_, b2_, b3_, b4_, b5_⟩ := b
  obtain ⟨h1_, h2_, h3_, h4_, h5_, h6_, h7_, h8_, h9_, ha_, hb_⟩ := h
  refine ⟨fun j hj => ?_, ?_, ?_, ?_, ?_, ?_, fun c hc => ?_, fun n j hn hj => ?_, fun t ht => ?_, fun g j hg hj => ?_, fun n hn hn2 => ?_⟩
  · rw [jup_ne (by omega)]; exact h1_ j hj
  · rw [jup_ne (by omega)]; exact h2_
  · rw [jup_ne (by omega)]; exact h3_
  · rw [jup_ne (by omega)]; exact h4_
  · rw [jup_ne (by omega)]; exact h5_
  · rw [jup_ne (by omega)]; exact h6_
  · have c_ : c < qC L := hc
    rw [jup_ne (by omega)]; exact h7_ c hc
  · have c_ : n < qN L := hn
    rw [jup_ne (by omega)]; exact h8_ n j hn hj
  · have c_ : t < qT L := ht
    rw [jup_ne (by omega)]; exact h9_ t ht
  · by_cases e_ : g = f ∧ j = k
    · rw [e_.1, e_.2, jup_at, lf_at]
    · rw [jup_ne (fun q_ => e_ (by omega)), lf_ne e_]
      exact ha_ g j hg hj
  · rw [jup_ne (by omega)]; exact hb_ n hn hn2
theorem rM_s {L : LL} {A : Nat → Int32} (h : rM L A) {k : Nat} (hk : k < 6) (x : Int32) : rM (ls L k x) (jup A k x) := by
  obtain ⟨h1_, h2_, h3_, h4_, h5_, h6_, h7_, h8_, h9_, ha_, hb_⟩ := h
  refine ⟨fun j hj => ?_, ?_, ?_, ?_, ?_, ?_, fun c hc => ?_, fun n j hn hj => ?_, fun t ht => ?_, fun g j hg hj => ?_, fun n hn hn2 => ?_⟩
  · by_cases e_ : j = k
    · rw [e_, jup_at, ls_at]
    · rw [jup_ne e_, ls_ne e_]; exact h1_ j hj
  · rw [jup_ne (by omega)]; exact h2_
  · rw [jup_ne (by omega)]; exact h3_
  · rw [jup_ne (by omega)]; exact h4_
  · rw [jup_ne (by omega)]; exact h5_
  · rw [jup_ne (by omega)]; exact h6_
  · rw [jup_ne (by omega)]; exact h7_ c hc
  · rw [jup_ne (by omega)]; exact h8_ n j hn hj
  · rw [jup_ne (by omega)]; exact h9_ t ht
  · rw [jup_ne (by omega)]; exact ha_ g j hg hj
  · rw [jup_ne (by omega)]; exact hb_ n hn hn2
/-- the order's own numbers count for nothing else -/
theorem rM_o {L : LL} {A : Nat → Int32} (h : rM L A) (b : qB L) {i : Nat} (hi : i = 11 ∨ ∃ f, i = 41 + 11 * f + 10) (x : Int32) : rM L (jup A i x) := by
  obtain ⟨b1_, b2_, b3_, b4_, b5_⟩ := b
  obtain ⟨h1_, h2_, h3_, h4_, h5_, h6_, h7_, h8_, h9_, ha_, hb_⟩ := h
  have n_ : i = 11 ∨ 51 ≤ i := by
    rcases hi with e_ | ⟨f_, e_⟩
    · exact Or.inl e_
    · exact Or.inr (by omega)
  refine ⟨fun j hj => ?_, ?_, ?_, ?_, ?_, ?_, fun c hc => ?_, fun n j hn hj => ?_, fun t ht => ?_, fun g j hg hj => ?_, fun n hn hn2 => ?_⟩
  · rw [jup_ne (by omega)]; exact h1_ j hj
  · rw [jup_ne (by omega)]; exact h2_
  · rw [jup_ne (by omega)]; exact h3_
  · rw [jup_ne (by omega)]; exact h4_
  · rw [jup_ne (by omega)]; exact h5_
  · rw [jup_ne (by omega)]; exact h6_
  · rw [jup_ne (by omega)]; exact h7_ c hc
  · rw [jup_ne (by omega)]; exact h8_ n j hn hj
  · rw [jup_ne (by omega)]; exact h9_ t ht
  · rw [jup_ne (by
      rcases hi with e_ | ⟨f_, e_⟩
      · omega
      · omega)]
    exact ha_ g j hg hj
  · rw [jup_ne (by omega)]; exact hb_ n hn hn2
theorem rM_n {L : LL} {A : Nat → Int32} (h : rM L A) (b : qB L) {n k : Nat} (hn : n < qN L) (hk : k < 5) (x : Int32) : rM (ln L n k x) (jup A (18 + 5 * n + k) x) := by
  obtain ⟨b1_, b2_, b3_, b4_, b5_⟩ := b
  obtain ⟨h1_, h2_, h3_, h4_, h5_, h6_, h7_, h8_, h9_, ha_, hb_⟩ := h
  refine ⟨fun j hj => ?_, ?_, ?_, ?_, ?_, ?_, fun c hc => ?_, fun m j hm hj => ?_, fun t ht => ?_, fun g j hg hj => ?_, fun m hm hm2 => ?_⟩
  · rw [jup_ne (by omega)]; exact h1_ j hj
  · rw [jup_ne (by omega)]; exact h2_
  · rw [jup_ne (by omega)]; exact h3_
  · rw [jup_ne (by omega)]; exact h4_
  · rw [jup_ne (by omega)]; exact h5_
  · rw [jup_ne (by omega)]; exact h6_
  · have c_ : c < qC L := hc
    rw [jup_ne (by omega)]; exact h7_ c hc
  · by_cases e_ : m = n ∧ j = k
    · rw [e_.1, e_.2, jup_at, ln_at]
    · rw [jup_ne (fun q_ => e_ (by omega)), ln_ne e_]
      exact h8_ m j hm hj
  · rw [jup_ne (by omega)]; exact h9_ t ht
  · rw [jup_ne (by omega)]; exact ha_ g j hg hj
  · have c_ : qN L ≤ m := hm
    rw [jup_ne (by omega)]; exact hb_ m hm hm2
/-! the reference's writers -/
section WM
variable {L : LL} {I : z_H}
theorem rm_put {f k : Nat} (hf : f < 12) (hk : k < 11) (x : Int32) : d_M_putsFlag (jn f) (jn k) x I = some (ev_u2 I 242 (41 + 11 * f + k) x) := by
  unfold d_M_putsFlag
  simp only [jn_mul, jn_add]
  rw [if_pos (by rw [jn_in (by omega)]; omega), jn_n (by omega)]
theorem rm_f (h : rM L (I 242)) (b : qB L) {f k : Nat} (hf : f < qF L) (hk : k < 10) : d_M_ofFlag (jn f) (jn k) I = some (qf L f k) := by
  have h1_ := b.1
  rw [mq_ofFlag (by omega) (by omega), h.2.2.2.2.2.2.2.2.2.1 f k hf hk]
theorem rm_goes {f : Nat} (hf : f < 12) (x y : Int32) : d_M_goesTo (jn f) x y I = some (ev_u2 (ev_u2 I 242 (41 + 11 * f + 8) x) 242 (41 + 11 * f + 9) y) := by
  unfold d_M_goesTo
  rw [rm_put hf (by omega), ob_s, rm_put hf (by omega), ob_s]
end WM
