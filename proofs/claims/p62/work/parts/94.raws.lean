/-! what the class's heap holds, number by number; its writers -/
/-- as qS, with the line given by itself -/
def rS (L : LL) (pg : Nat → Int32) (I : z_H) (s u : Nat) : Prop := (∀ k, k < 6 → I s k = qs L k) ∧ I s 6 = jn (qF L) ∧ I u 0 = jn (qP L) ∧ I u 1 = jn (qC L) ∧ I u 2 = jn (qN L) ∧ I u 3 = jn (qT L) ∧ (∀ c, c < qC L → I (u + 1) c = qr L c) ∧ (∀ n, n < qN L → qSn L I s u n) ∧ (∀ t, t < qT L → qSt L I s u t) ∧ (∀ f k, f < qF L → k < 10 → I (s + 2 + f) k = qf L f k) ∧ (∀ p, p < 8 → I (s + 16) p = pg p) ∧ (∀ n, qN L ≤ n → n < 4 → I (s + 17) n = jg 1) ∧ (∀ t, qT L ≤ t → t < 3 → I (s + 14) t = jn 0)
theorem qS_r {L : LL} {I : z_H} {s u : Nat} : qS L I s u ↔ rS L (qpg L) I s u := Iff.rfl
theorem rS_cg {L : LL} {pg pg2 : Nat → Int32} {I : z_H} {s u : Nat} (h : rS L pg I s u) (e : ∀ p, p < 8 → pg p = pg2 p) : rS L pg2 I s u := by
  obtain ⟨h1_, h2_, h3_, h4_, h5_, h6_, h7_, h8_, h9_, ha_, hb_, hc_, hd_⟩ := h
  exact ⟨h1_, h2_, h3_, h4_, h5_, h6_, h7_, h8_, h9_, ha_, fun p hp => (hb_ p hp).trans (e p hp), hc_, hd_⟩
section RS
variable {L : LL} {pg : Nat → Int32} {I : z_H} {s u : Nat}
theorem rS_f (h : rS L pg I s u) (b : qB L) (d : u + 6 ≤ s) {f k : Nat} (hf : f < 12) (x : Int32) : rS (lf L f k x) pg (ev_u2 I (s + 2 + f) k x) s u := by
  obtain ⟨b1_, b2_, b3_, b4_, b5_⟩ := b
  obtain ⟨h1_, h2_, h3_, h4_, h5_, h6_, h7_, h8_, h9_, ha_, hb_, hc_, hd_⟩ := h
  refine ⟨fun j hj => ?_, ?_, ?_, ?_, ?_, ?_, fun c hc => ?_, fun m hm => ?_, fun v hv => ?_, fun g j hg hj => ?_, fun q hq => ?_, fun m hm hm2 => ?_, fun v hv hv2 => ?_⟩
  · rw [ju_na (by omega)]; exact h1_ j hj
  · rw [ju_na (by omega)]; exact h2_
  · rw [ju_na (by omega)]; exact h3_
  · rw [ju_na (by omega)]; exact h4_
  · rw [ju_na (by omega)]; exact h5_
  · rw [ju_na (by omega)]; exact h6_
  · rw [ju_na (by omega)]; exact h7_ c hc
  · obtain ⟨q1_, q2_, q3_, q4_⟩ := h8_ m hm
    exact ⟨by rw [ju_na (by omega)]; exact q1_, by rw [ju_na (by omega)]; exact q2_, by rw [ju_na (by omega)]; exact q3_, by rw [ju_na (by omega)]; exact q4_⟩
  · obtain ⟨q1_, q2_, q3_⟩ := h9_ v hv
    exact ⟨by rw [ju_na (by omega)]; exact q1_, by rw [ju_na (by omega)]; exact q2_, fun i f hi => by rw [ju_na (by omega)]; exact q3_ i f hi⟩
  · by_cases e_ : g = f ∧ j = k
    · rw [e_.1, e_.2, ju_at, lf_at]
    · rw [ju_ne (fun q_ => e_ ⟨by omega, q_.2⟩), lf_ne e_]
      exact ha_ g j hg hj
  · rw [ju_na (by omega)]; exact hb_ q hq
  · rw [ju_na (by omega)]; exact hc_ m hm hm2
  · rw [ju_na (by omega)]; exact hd_ v hv hv2
theorem rS_s (h : rS L pg I s u) (b : qB L) (d : u + 6 ≤ s) {k : Nat} (hk : k < 6) (x : Int32) : rS (ls L k x) pg (ev_u2 I s k x) s u := by
  obtain ⟨b1_, b2_, b3_, b4_, b5_⟩ := b
  obtain ⟨h1_, h2_, h3_, h4_, h5_, h6_, h7_, h8_, h9_, ha_, hb_, hc_, hd_⟩ := h
  refine ⟨fun j hj => ?_, ?_, ?_, ?_, ?_, ?_, fun c hc => ?_, fun m hm => ?_, fun v hv => ?_, fun g j hg hj => ?_, fun q hq => ?_, fun m hm hm2 => ?_, fun v hv hv2 => ?_⟩
  · by_cases e_ : j = k
    · rw [e_, ju_at, ls_at]
    · rw [ju_ne (fun q_ => e_ q_.2), ls_ne e_]; exact h1_ j hj
  · rw [ju_ne (by omega)]; exact h2_
  · rw [ju_na (by omega)]; exact h3_
  · rw [ju_na (by omega)]; exact h4_
  · rw [ju_na (by omega)]; exact h5_
  · rw [ju_na (by omega)]; exact h6_
  · rw [ju_na (by omega)]; exact h7_ c hc
  · obtain ⟨q1_, q2_, q3_, q4_⟩ := h8_ m hm
    exact ⟨by rw [ju_na (by omega)]; exact q1_, by rw [ju_na (by omega)]; exact q2_, by rw [ju_na (by omega)]; exact q3_, by rw [ju_na (by omega)]; exact q4_⟩
  · obtain ⟨q1_, q2_, q3_⟩ := h9_ v hv
    exact ⟨by rw [ju_na (by omega)]; exact q1_, by rw [ju_na (by omega)]; exact q2_, fun i f hi => by rw [ju_na (by omega)]; exact q3_ i f hi⟩
  · have c_ : g < qF L := hg
    rw [ju_na (by omega)]; exact ha_ g j hg hj
  · rw [ju_na (by omega)]; exact hb_ q hq
  · rw [ju_na (by omega)]; exact hc_ m hm hm2
  · rw [ju_na (by omega)]; exact hd_ v hv hv2
theorem rS_p (h : rS L pg I s u) (b : qB L) (d : u + 6 ≤ s) {p : Nat} (x : Int32) : rS L (jup pg p x) (ev_u2 I (s + 16) p x) s u := by
  obtain ⟨b1_, b2_, b3_, b4_, b5_⟩ := b
  obtain ⟨h1_, h2_, h3_, h4_, h5_, h6_, h7_, h8_, h9_, ha_, hb_, hc_, hd_⟩ := h
  refine ⟨fun j hj => ?_, ?_, ?_, ?_, ?_, ?_, fun c hc => ?_, fun m hm => ?_, fun v hv => ?_, fun g j hg hj => ?_, fun q hq => ?_, fun m hm hm2 => ?_, fun v hv hv2 => ?_⟩
  · rw [ju_na (by omega)]; exact h1_ j hj
  · rw [ju_na (by omega)]; exact h2_
  · rw [ju_na (by omega)]; exact h3_
  · rw [ju_na (by omega)]; exact h4_
  · rw [ju_na (by omega)]; exact h5_
  · rw [ju_na (by omega)]; exact h6_
  · rw [ju_na (by omega)]; exact h7_ c hc
  · obtain ⟨q1_, q2_, q3_, q4_⟩ := h8_ m hm
    exact ⟨by rw [ju_na (by omega)]; exact q1_, by rw [ju_na (by omega)]; exact q2_, by rw [ju_na (by omega)]; exact q3_, by rw [ju_na (by omega)]; exact q4_⟩
  · obtain ⟨q1_, q2_, q3_⟩ := h9_ v hv
    exact ⟨by rw [ju_na (by omega)]; exact q1_, by rw [ju_na (by omega)]; exact q2_, fun i f hi => by rw [ju_na (by omega)]; exact q3_ i f hi⟩
  · have c_ : g < qF L := hg
    rw [ju_na (by omega)]; exact ha_ g j hg hj
  · by_cases e_ : q = p
    · rw [e_, ju_at, jup_at]
    · rw [ju_ne (fun q_ => e_ q_.2), jup_ne e_]; exact hb_ q hq
  · rw [ju_na (by omega)]; exact hc_ m hm hm2
  · rw [ju_na (by omega)]; exact hd_ v hv hv2
theorem rS_h (h : rS L pg I s u) (b : qB L) (d : u + 6 ≤ s) {n : Nat} (hn : n < qN L) (x : Int32) : rS (ln (ln L n 3 (jn 1)) n 4 x) pg (ev_u2 I (s + 17) n x) s u := by
  obtain ⟨b1_, b2_, b3_, b4_, b5_⟩ := b
  obtain ⟨h1_, h2_, h3_, h4_, h5_, h6_, h7_, h8_, h9_, ha_, hb_, hc_, hd_⟩ := h
  refine ⟨fun j hj => ?_, ?_, ?_, ?_, ?_, ?_, fun c hc => ?_, fun m hm => ?_, fun v hv => ?_, fun g j hg hj => ?_, fun q hq => ?_, fun m hm hm2 => ?_, fun v hv hv2 => ?_⟩
  · rw [ju_na (by omega)]; exact h1_ j hj
  · rw [ju_na (by omega)]; exact h2_
  · rw [ju_na (by omega)]; exact h3_
  · rw [ju_na (by omega)]; exact h4_
  · rw [ju_na (by omega)]; exact h5_
  · rw [ju_na (by omega)]; exact h6_
  · rw [ju_na (by omega)]; exact h7_ c hc
  · obtain ⟨q1_, q2_, q3_, q4_⟩ := h8_ m hm
    refine ⟨by rw [ju_na (by omega), ln_ne (by omega), ln_ne (by omega)]; exact q1_, by rw [ju_na (by omega), ln_ne (by omega), ln_ne (by omega)]; exact q2_, by rw [ju_na (by omega), ln_ne (by omega), ln_ne (by omega)]; exact q3_, ?_⟩
    by_cases e_ : m = n
    · rw [e_, ju_at, ln_ne (by omega), ln_at, ln_at, if_pos rfl]
    · rw [ju_ne (fun q_ => e_ q_.2), ln_ne (fun q_ => e_ q_.1), ln_ne (fun q_ => e_ q_.1), ln_ne (fun q_ => e_ q_.1), ln_ne (fun q_ => e_ q_.1)]
      exact q4_
  · obtain ⟨q1_, q2_, q3_⟩ := h9_ v hv
    exact ⟨by rw [ju_na (by omega)]; exact q1_, by rw [ju_na (by omega)]; exact q2_, fun i f hi => by rw [ju_na (by omega)]; exact q3_ i f hi⟩
  · have c_ : g < qF L := hg
    rw [ju_na (by omega)]; exact ha_ g j hg hj
  · rw [ju_na (by omega)]; exact hb_ q hq
  · have c_ : qN L ≤ m := hm
    rw [ju_ne (by omega)]; exact hc_ m hm hm2
  · rw [ju_na (by omega)]; exact hd_ v hv hv2
/-- a tub's flags written anew -/
theorem rS_t {J : z_H} {t : Nat} {l : List Nat} (h : rS L pg I s u) (b : qB L) (d : u + 6 ≤ s) (ht : t < qT L) (hl : l.length ≤ 6) (e1 : ∀ a, ¬ a = s + 14 → ¬ a = s + 15 → J a = I a) (e2 : J (s + 14) t = jn l.length) (e3 : ∀ v, ¬ v = t → J (s + 14) v = I (s + 14) v) (e4 : ∀ i f, l[i]? = some f → J (s + 15) (t * 6 + i) = jn f) (e5 : ∀ v i, ¬ v = t → i < 6 → J (s + 15) (v * 6 + i) = I (s + 15) (v * 6 + i)) (b6 : ∀ v, v < qT L → (qt L v).length ≤ 6) : rS (lt L t l) pg J s u := by
  obtain ⟨b1_, b2_, b3_, b4_, b5_⟩ := b
  obtain ⟨h1_, h2_, h3_, h4_, h5_, h6_, h7_, h8_, h9_, ha_, hb_, hc_, hd_⟩ := h
  refine ⟨fun j hj => ?_, ?_, ?_, ?_, ?_, ?_, fun c hc => ?_, fun m hm => ?_, fun v hv => ?_, fun g j hg hj => ?_, fun q hq => ?_, fun m hm hm2 => ?_, fun v hv hv2 => ?_⟩
  · rw [e1 s (by omega) (by omega)]; exact h1_ j hj
  · rw [e1 s (by omega) (by omega)]; exact h2_
  · rw [e1 u (by omega) (by omega)]; exact h3_
  · rw [e1 u (by omega) (by omega)]; exact h4_
  · rw [e1 u (by omega) (by omega)]; exact h5_
  · rw [e1 u (by omega) (by omega)]; exact h6_
  · rw [e1 (u + 1) (by omega) (by omega)]; exact h7_ c hc
  · obtain ⟨q1_, q2_, q3_, q4_⟩ := h8_ m hm
    exact ⟨by rw [e1 (u + 2) (by omega) (by omega)]; exact q1_, by rw [e1 (u + 3) (by omega) (by omega)]; exact q2_, by rw [e1 (u + 4) (by omega) (by omega)]; exact q3_, by rw [e1 (s + 17) (by omega) (by omega)]; exact q4_⟩
  · obtain ⟨q1_, q2_, q3_⟩ := h9_ v hv
    refine ⟨by rw [e1 (u + 5) (by omega) (by omega)]; exact q1_, ?_, fun i f hi => ?_⟩
    · by_cases e_ : v = t
      · rw [e_, lt_at]; exact e2
      · rw [lt_ne e_, e3 v e_]; exact q2_
    · by_cases e_ : v = t
      · rw [e_, lt_at] at hi
        rw [e_]; exact e4 i f hi
      · rw [lt_ne e_] at hi
        have k1_ := (List.getElem?_eq_some_iff.mp hi).1
        have k2_ := b6 v hv
        rw [e5 v i e_ (by omega)]
        exact q3_ i f hi
  · have c_ : g < qF L := hg
    rw [e1 (s + 2 + g) (by omega) (by omega)]; exact ha_ g j hg hj
  · rw [e1 (s + 16) (by omega) (by omega)]; exact hb_ q hq
  · rw [e1 (s + 17) (by omega) (by omega)]; exact hc_ m hm hm2
  · have c_ : qT L ≤ v := hv
    rw [e3 v (by omega)]; exact hd_ v hv hv2
end RS
