/-! many flags changed at once: loops over a tub's flags and over all flags -/
def lq (L : LL) (W : Nat → Nat → Int32) : LL := (L.1, W, L.2.2)
theorem tk_mem {l : List Nat} {i f g : Nat} (h : l[i]? = some f) : g ∈ l.take (i + 1) ↔ g ∈ l.take i ∨ g = f := by
  rw [List.take_add_one, h, List.mem_append, show (some f).toList = [f] from rfl, List.mem_singleton]
theorem tk_not {l : List Nat} {i f : Nat} (hn : l.Nodup) (h : l[i]? = some f) : ¬ f ∈ l.take i := by
  obtain ⟨h1_, h2_⟩ := List.getElem?_eq_some_iff.mp h
  have h3_ : (l.take i ++ l.drop i).Nodup := by rw [List.take_append_drop]; exact hn
  rw [List.nodup_append] at h3_
  exact fun q_ => h3_.2.2 f q_ f (by rw [List.drop_eq_getElem_cons h1_, h2_]; exact List.mem_cons_self ..) rfl
section LQ
variable {L : LL} {pg : Nat → Int32} {I J : z_H} {s u : Nat} {W : Nat → Nat → Int32}
theorem rS_lq (h : rS L pg I s u) (b : qB L) (d : u + 6 ≤ s) (e1 : ∀ a, a < s + 2 ∨ s + 14 ≤ a → J a = I a) (e2 : ∀ f k, f < qF L → k < 10 → J (s + 2 + f) k = W f k) : rS (lq L W) pg J s u := by
  obtain ⟨b1_, b2_, b3_, b4_, b5_⟩ := b
  obtain ⟨h1_, h2_, h3_, h4_, h5_, h6_, h7_, h8_, h9_, ha_, hb_, hc_, hd_⟩ := h
  refine ⟨fun j hj => ?_, ?_, ?_, ?_, ?_, ?_, fun c hc => ?_, fun m hm => ?_, fun v hv => ?_, fun g j hg hj => ?_, fun q hq => ?_, fun m hm hm2 => ?_, fun v hv hv2 => ?_⟩
  · rw [e1 s (by omega)]; exact h1_ j hj
  · rw [e1 s (by omega)]; exact h2_
  · rw [e1 u (by omega)]; exact h3_
  · rw [e1 u (by omega)]; exact h4_
  · rw [e1 u (by omega)]; exact h5_
  · rw [e1 u (by omega)]; exact h6_
  · rw [e1 (u + 1) (by omega)]; exact h7_ c hc
  · obtain ⟨q1_, q2_, q3_, q4_⟩ := h8_ m hm
    exact ⟨by rw [e1 (u + 2) (by omega)]; exact q1_, by rw [e1 (u + 3) (by omega)]; exact q2_, by rw [e1 (u + 4) (by omega)]; exact q3_, by rw [e1 (s + 17) (by omega)]; exact q4_⟩
  · obtain ⟨q1_, q2_, q3_⟩ := h9_ v hv
    exact ⟨by rw [e1 (u + 5) (by omega)]; exact q1_, by rw [e1 (s + 14) (by omega)]; exact q2_, fun i f hi => by rw [e1 (s + 15) (by omega)]; exact q3_ i f hi⟩
  · exact e2 g j hg hj
  · rw [e1 (s + 16) (by omega)]; exact hb_ q hq
  · rw [e1 (s + 17) (by omega)]; exact hc_ m hm hm2
  · rw [e1 (s + 14) (by omega)]; exact hd_ v hv hv2
theorem rM_lq {A A2 : Nat → Int32} (h : rM L A) (b : qB L) (e1 : ∀ j, j < 41 → A2 j = A j) (e2 : ∀ f k, f < qF L → k < 10 → A2 (41 + 11 * f + k) = W f k) : rM (lq L W) A2 := by
  obtain ⟨b1_, b2_, b3_, b4_, b5_⟩ := b
  obtain ⟨h1_, h2_, h3_, h4_, h5_, h6_, h7_, h8_, h9_, ha_, hb_⟩ := h
  refine ⟨fun j hj => ?_, ?_, ?_, ?_, ?_, ?_, fun c hc => ?_, fun n j hn hj => ?_, fun t ht => ?_, fun g j hg hj => ?_, fun n hn hn2 => ?_⟩
  · rw [e1 j (by omega)]; exact h1_ j hj
  · rw [e1 6 (by omega)]; exact h2_
  · rw [e1 7 (by omega)]; exact h3_
  · rw [e1 8 (by omega)]; exact h4_
  · rw [e1 9 (by omega)]; exact h5_
  · rw [e1 10 (by omega)]; exact h6_
  · have c_ : c < qC L := hc
    rw [e1 _ (by omega)]; exact h7_ c hc
  · have c_ : n < qN L := hn
    rw [e1 _ (by omega)]; exact h8_ n j hn hj
  · have c_ : t < qT L := ht
    rw [e1 _ (by omega)]; exact h9_ t ht
  · exact e2 g j hg hj
  · rw [e1 _ (by omega)]; exact hb_ n hn hn2
theorem rs_tub {t i f : Nat} (h : I (s + 15) (t * 6 + i) = jn f) (ht : t < 3) (hi : i < 6) (hf : f < 12) : d_S_flagObjectInTub s (jn t) (jn i) I = some (s + 2 + f) := by
  unfold d_S_flagObjectInTub
  rw [jn_mul, jn_add, if_pos (by rw [jn_in (by omega)]; omega), jn_n (by omega), h, if_pos (by rw [jn_in (by omega)]; omega), jn_n (by omega)]
/-- a loop over a tub's flags, each of which it changes alone -/
theorem sq_tubloop {fn : Int32 × z_H → Option ((Int32 × z_H) ⊕ (Int32 × z_H))} {l : List Nat} (hl : l.length ≤ 6) (hn : l.Nodup) (hm : ∀ f, f ∈ l → f < 12)
    (hs : ∀ i f (J : z_H), l[i]? = some f → f < 12 → (∀ a, a < s + 2 ∨ s + 14 ≤ a → J a = I a) → (∀ k, k < 10 → J (s + 2 + f) k = I (s + 2 + f) k) → ∃ J2, fn (jn i, J) = some (.inl (jn (i + 1), J2)) ∧ (∀ a, ¬ a = s + 2 + f → J2 a = J a) ∧ ∀ k, k < 10 → J2 (s + 2 + f) k = W f k)
    (he : ∀ J : z_H, (∀ a, a < s + 2 ∨ s + 14 ≤ a → J a = I a) → fn (jn l.length, J) = some (.inr (jn l.length, J))) :
    ∃ r, z_it fn z_F (jn 0, I) = some r ∧ ((∀ a, a < s + 2 ∨ s + 14 ≤ a → r.2 a = I a) ∧ ∀ g k, k < 10 → r.2 (s + 2 + g) k = if g ∈ l then W g k else I (s + 2 + g) k) := by
  refine z_inv (fun (i : Nat) (p : Int32 × z_H) => p.1 = jn i ∧ (∀ a, a < s + 2 ∨ s + 14 ≤ a → p.2 a = I a) ∧ ∀ g k, k < 10 → p.2 (s + 2 + g) k = if g ∈ l.take i then W g k else I (s + 2 + g) k) (fun (r : Int32 × z_H) => (∀ a, a < s + 2 ∨ s + 14 ≤ a → r.2 a = I a) ∧ ∀ g k, k < 10 → r.2 (s + 2 + g) k = if g ∈ l then W g k else I (s + 2 + g) k) (n := l.length) (by omega) ⟨rfl, fun _ _ => rfl, fun g k _ => by rw [if_neg (by rw [List.take_zero]; exact List.not_mem_nil)]⟩ (fun i p hi hp => ?_) (fun p hp => ?_)
  · obtain ⟨e1_, e2_, e3_⟩ := hp
    obtain ⟨f_, hf_⟩ : ∃ f, l[i]? = some f := ⟨l[i], List.getElem?_eq_getElem hi⟩
    have hf2_ := hm f_ (List.mem_of_getElem? hf_)
    have n_ := tk_not hn hf_
    obtain ⟨J2_, k1_, k2_, k3_⟩ := hs i f_ p.2 hf_ hf2_ e2_ (fun k hk => by rw [e3_ f_ k hk, if_neg n_])
    rw [← e1_] at k1_
    refine ⟨_, k1_, rfl, fun a ha => ?_, fun g k hk => ?_⟩
    · show J2_ a = I a
      rw [k2_ a (by omega)]
      exact e2_ a ha
    · show J2_ (s + 2 + g) k = _
      by_cases e_ : g = f_
      · rw [e_, k3_ k hk, if_pos ((tk_mem hf_).mpr (Or.inr rfl))]
      · rw [k2_ (s + 2 + g) (by omega), e3_ g k hk]
        by_cases m_ : g ∈ l.take i
        · rw [if_pos m_, if_pos ((tk_mem hf_).mpr (Or.inl m_))]
        · rw [if_neg m_, if_neg (fun q_ => ((tk_mem hf_).mp q_).elim m_ e_)]
  · obtain ⟨e1_, e2_, e3_⟩ := hp
    have k_ := he p.2 e2_
    rw [← e1_] at k_
    refine ⟨_, k_, e2_, fun g k hk => ?_⟩
    rw [List.take_length] at e3_
    exact e3_ g k hk
/-- a loop over all flags, each of which it changes alone: the class -/
theorem sq_flagloop {fn : Int32 × z_H → Option ((Int32 × z_H) ⊕ (Int32 × z_H))} {n : Nat} (hl : n ≤ 12)
    (hs : ∀ i (J : z_H), i < n → (∀ a, a < s + 2 ∨ s + 14 ≤ a → J a = I a) → (∀ k, k < 10 → J (s + 2 + i) k = I (s + 2 + i) k) → ∃ J2, fn (jn i, J) = some (.inl (jn (i + 1), J2)) ∧ (∀ a, ¬ a = s + 2 + i → J2 a = J a) ∧ ∀ k, k < 10 → J2 (s + 2 + i) k = W i k)
    (he : ∀ J : z_H, (∀ a, a < s + 2 ∨ s + 14 ≤ a → J a = I a) → fn (jn n, J) = some (.inr (jn n, J))) :
    ∃ r, z_it fn z_F (jn 0, I) = some r ∧ ((∀ a, a < s + 2 ∨ s + 14 ≤ a → r.2 a = I a) ∧ ∀ g k, k < 10 → r.2 (s + 2 + g) k = if g < n then W g k else I (s + 2 + g) k) := by
  refine z_inv (fun (i : Nat) (p : Int32 × z_H) => p.1 = jn i ∧ (∀ a, a < s + 2 ∨ s + 14 ≤ a → p.2 a = I a) ∧ ∀ g k, k < 10 → p.2 (s + 2 + g) k = if g < i then W g k else I (s + 2 + g) k) (fun (r : Int32 × z_H) => (∀ a, a < s + 2 ∨ s + 14 ≤ a → r.2 a = I a) ∧ ∀ g k, k < 10 → r.2 (s + 2 + g) k = if g < n then W g k else I (s + 2 + g) k) (n := n) (by omega) ⟨rfl, fun _ _ => rfl, fun g k _ => by rw [if_neg (by omega)]⟩ (fun i p hi hp => ?_) (fun p hp => ?_)
  · obtain ⟨e1_, e2_, e3_⟩ := hp
    obtain ⟨J2_, k1_, k2_, k3_⟩ := hs i p.2 hi e2_ (fun k hk => by rw [e3_ i k hk, if_neg (by omega)])
    rw [← e1_] at k1_
    refine ⟨_, k1_, rfl, fun a ha => ?_, fun g k hk => ?_⟩
    · show J2_ a = I a
      rw [k2_ a (by omega)]
      exact e2_ a ha
    · show J2_ (s + 2 + g) k = _
      by_cases e_ : g = i
      · rw [e_, k3_ k hk, if_pos (by omega)]
      · rw [k2_ (s + 2 + g) (by omega), e3_ g k hk]
        by_cases m_ : g < i
        · rw [if_pos m_, if_pos (by omega)]
        · rw [if_neg m_, if_neg (by omega)]
  · obtain ⟨e1_, e2_, e3_⟩ := hp
    have k_ := he p.2 e2_
    rw [← e1_] at k_
    exact ⟨_, k_, e2_, e3_⟩
/-- .. and the reference -/
theorem mq_flagloop {fn : Int32 × z_H → Option ((Int32 × z_H) ⊕ (Int32 × z_H))} {n : Nat} (hl : n ≤ 12)
    (hs : ∀ i (J : z_H), i < n → (∀ a, ¬ a = 242 → J a = I a) → (∀ j, j < 41 → J 242 j = I 242 j) → (∀ k, k < 10 → J 242 (41 + 11 * i + k) = I 242 (41 + 11 * i + k)) → ∃ J2, fn (jn i, J) = some (.inl (jn (i + 1), J2)) ∧ (∀ a, ¬ a = 242 → J2 a = J a) ∧ (∀ j, j < 41 + 11 * i ∨ 41 + 11 * i + 10 ≤ j → J2 242 j = J 242 j) ∧ ∀ k, k < 10 → J2 242 (41 + 11 * i + k) = W i k)
    (he : ∀ J : z_H, (∀ j, j < 41 → J 242 j = I 242 j) → fn (jn n, J) = some (.inr (jn n, J))) :
    ∃ r, z_it fn z_F (jn 0, I) = some r ∧ ((∀ a, ¬ a = 242 → r.2 a = I a) ∧ (∀ j, j < 41 → r.2 242 j = I 242 j) ∧ (∀ g, r.2 242 (41 + 11 * g + 10) = I 242 (41 + 11 * g + 10)) ∧ ∀ g k, k < 10 → g < n → r.2 242 (41 + 11 * g + k) = W g k) := by
  refine z_inv (fun (i : Nat) (p : Int32 × z_H) => p.1 = jn i ∧ (∀ a, ¬ a = 242 → p.2 a = I a) ∧ (∀ j, j < 41 → p.2 242 j = I 242 j) ∧ (∀ g, p.2 242 (41 + 11 * g + 10) = I 242 (41 + 11 * g + 10)) ∧ ∀ g k, k < 10 → p.2 242 (41 + 11 * g + k) = if g < i then W g k else I 242 (41 + 11 * g + k)) (fun (r : Int32 × z_H) => (∀ a, ¬ a = 242 → r.2 a = I a) ∧ (∀ j, j < 41 → r.2 242 j = I 242 j) ∧ (∀ g, r.2 242 (41 + 11 * g + 10) = I 242 (41 + 11 * g + 10)) ∧ ∀ g k, k < 10 → g < n → r.2 242 (41 + 11 * g + k) = W g k) (n := n) (by omega) ⟨rfl, fun _ _ => rfl, fun _ _ => rfl, fun _ => rfl, fun g k _ => by rw [if_neg (by omega)]⟩ (fun i p hi hp => ?_) (fun p hp => ?_)
  · obtain ⟨e1_, e2_, e3_, e4_, e5_⟩ := hp
    obtain ⟨J2_, k1_, k2_, k3_, k4_⟩ := hs i p.2 hi e2_ e3_ (fun k hk => by rw [e5_ i k hk, if_neg (by omega)])
    rw [← e1_] at k1_
    refine ⟨_, k1_, rfl, fun a ha => (k2_ a ha).trans (e2_ a ha), fun j hj => (k3_ j (by omega)).trans (e3_ j hj), fun g => (k3_ _ (by omega)).trans (e4_ g), fun g k hk => ?_⟩
    show J2_ 242 (41 + 11 * g + k) = _
    by_cases e_ : g = i
    · rw [e_, k4_ k hk, if_pos (by omega)]
    · rw [k3_ _ (by omega), e5_ g k hk]
      by_cases m_ : g < i
      · rw [if_pos m_, if_pos (by omega)]
      · rw [if_neg m_, if_neg (by omega)]
  · obtain ⟨e1_, e2_, e3_, e4_, e5_⟩ := hp
    have k_ := he p.2 e3_
    rw [← e1_] at k_
    exact ⟨_, k_, e2_, e3_, e4_, fun g k hk hg => by rw [e5_ g k hk, if_pos hg]⟩
end LQ
/-- the line, where it is the same -/
theorem qpg_cg {L L2 : LL} {p : Nat} (e : qF L2 = qF L) (h : ∀ i, i < qF L → ((qf L2 i 8 = jn 2 ∧ qf L2 i 9 = jn p) ↔ (qf L i 8 = jn 2 ∧ qf L i 9 = jn p))) : qpg L2 p = qpg L p := by
  have e_ : qw L2 p = qw L p := by
    rw [qw_qk, qw_qk, e]
    exact qk_congr (fun i hi => h i hi)
  unfold qpg
  rw [e_, e]
/-- the order, where no list grows -/
theorem qMo_sub {L L2 : LL} {B : Nat} {A A2 : Nat → Int32} (h : qMo L B A) (e1 : qT L2 = qT L) (e2 : ∀ t, t < qT L → (qt L2 t).Sublist (qt L t)) (e3 : A2 11 = A 11) (e4 : ∀ f, A2 (41 + 11 * f + 10) = A (41 + 11 * f + 10)) : qMo L2 B A2 := by
  obtain ⟨p_, h1_, h2_, h3_⟩ := h
  refine ⟨p_, e3.trans h1_, h2_, fun t ht => ?_⟩
  rw [e1] at ht
  have h4_ := h3_ t ht
  refine ⟨fun f hf => ?_, ?_⟩
  · rw [e4 f]; exact h4_.1 f ((e2 t ht).mem hf)
  · have e_ : (fun f g => A2 (41 + 11 * f + 10) < A2 (41 + 11 * g + 10)) = (fun f g => A (41 + 11 * f + 10) < A (41 + 11 * g + 10)) := by
      funext a c
      rw [e4 a, e4 c]
    rw [e_]
    exact h4_.2.sublist (e2 t ht)
