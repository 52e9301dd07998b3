/-! deeds that leave every flag where it is: wind, iron, bleach -/
def WM (L2 : LL) (B : Nat) (I J : z_H) : Prop := qM L2 B (J 242) ∧ ∀ b, ¬ b = 242 → J b = I b
def WS (L2 : LL) (I J : z_H) (s u : Nat) : Prop := qS L2 J s u ∧ ∀ b, b < s ∨ s + 18 ≤ b → J b = I b
def jok (L : LL) (k : Nat) (x : Int32) : Prop := (k = 3 ∧ jlt x 10) ∨ (k = 4 ∧ jlt x 10) ∨ (k = 5 ∧ jlt x 10) ∨ (k = 6 ∧ jlt x (2 ^ qC L)) ∨ (k = 7 ∧ jlt x 3)
theorem qG_f {L : LL} (g : qG L) {f k : Nat} {x : Int32} (hx : jok L k x) : qG (lf L f k x) := by
  obtain ⟨g1_, g2_, g3_, g4_, g5_, g6_, g7_, g8_, g9_, ga_⟩ := g
  have k_ : 3 ≤ k ∧ k ≤ 7 := by
    rcases hx with e_ | e_ | e_ | e_ | e_ <;> omega
  have n_ : ∀ h j, ¬ j = k → qf (lf L f k x) h j = qf L h j := fun h j e_ => lf_ne (fun q_ => e_ q_.2)
  refine ⟨g1_, g2_, g3_, g4_, g5_, fun h hh => ?_, g7_, fun t ht => ?_, g9_, fun a c ha hc => ?_⟩
  · have q_ := g6_ h hh
    unfold qgf at q_ ⊢
    rw [n_ h 0 (by omega), n_ h 1 (by omega), n_ h 2 (by omega), n_ h 8 (by omega), n_ h 9 (by omega)]
    obtain ⟨q0_, q1_, q2_, q3_, q4_, q5_, q6_, q7_, q8_⟩ := q_
    have v_ : ∀ j m, jlt (qf L h j) m → (k = j → jlt x m) → jlt (qf (lf L f k x) h j) m := fun j m h1 h2 => by
      by_cases e_ : h = f ∧ j = k
      · rw [e_.1, e_.2, lf_at]; exact h2 e_.2.symm
      · rw [lf_ne e_]; exact h1
    refine ⟨q0_, q1_, q2_, v_ 3 10 q3_ (fun e_ => ?_), v_ 4 10 q4_ (fun e_ => ?_), v_ 5 10 q5_ (fun e_ => ?_), v_ 6 _ q6_ (fun e_ => ?_), v_ 7 3 q7_ (fun e_ => ?_), q8_⟩
    · rcases hx with h_ | h_ | h_ | h_ | h_ <;> first | exact h_.2 | (have := h_.1; omega)
    · rcases hx with h_ | h_ | h_ | h_ | h_ <;> first | (have := h_.1; omega) | exact h_.2
    · rcases hx with h_ | h_ | h_ | h_ | h_ <;> first | (have := h_.1; omega) | exact h_.2
    · rcases hx with h_ | h_ | h_ | h_ | h_ <;> first | (have := h_.1; omega) | exact h_.2
    · rcases hx with h_ | h_ | h_ | h_ | h_ <;> first | (have := h_.1; omega) | exact h_.2
  · have q_ := g8_ t ht
    refine ⟨q_.1, q_.2.1, fun h => ?_⟩
    rw [n_ h 8 (by omega), n_ h 9 (by omega)]
    exact q_.2.2 h
  · rw [n_ a 8 (by omega), n_ c 8 (by omega), n_ a 9 (by omega), n_ c 9 (by omega)]
    exact ga_ a c ha hc
theorem qpg_f {L : LL} {f k : Nat} {x : Int32} (hk : k < 8) (p : Nat) : qpg (lf L f k x) p = qpg L p := by
  have e_ : qw (lf L f k x) p = qw L p := by
    rw [qw_qk, qw_qk]
    exact qk_congr (fun i _ => by rw [lf_ne (fun q_ => by omega), lf_ne (fun q_ => by omega)])
  unfold qpg
  rw [e_]
  rfl
theorem qMo_cg {L L2 : LL} {B : Nat} {A A2 : Nat → Int32} (h : qMo L B A) (e1 : qT L2 = qT L) (e2 : ∀ t, qt L2 t = qt L t) (e3 : A2 11 = A 11) (e4 : ∀ f, A2 (41 + 11 * f + 10) = A (41 + 11 * f + 10)) : qMo L2 B A2 := by
  obtain ⟨p_, h1_, h2_, h3_⟩ := h
  refine ⟨p_, e3.trans h1_, h2_, fun t ht => ?_⟩
  rw [e1] at ht
  have h4_ := h3_ t ht
  rw [e2 t]
  refine ⟨fun f hf => ?_, ?_⟩
  · rw [e4 f]; exact h4_.1 f hf
  · have e_ : (fun f g => A2 (41 + 11 * f + 10) < A2 (41 + 11 * g + 10)) = (fun f g => A (41 + 11 * f + 10) < A (41 + 11 * g + 10)) := by
      funext a c
      rw [e4 a, e4 c]
    rw [e_]
    exact h4_.2
theorem qM_f {L : LL} {B : Nat} {A : Nat → Int32} (h : qM L B A) (b : qB L) {f k : Nat} (hk : k < 10) (x : Int32) : qM (lf L f k x) B (jup A (41 + 11 * f + k) x) := qM_r.mpr ⟨rM_f (qM_r.mp h).1 b hk x, qMo_cg (qM_r.mp h).2 rfl (fun _ => rfl) (jup_ne (by omega)) (fun g => jup_ne (by omega))⟩
theorem qM_s {L : LL} {B : Nat} {A : Nat → Int32} (h : qM L B A) {k : Nat} (hk : k < 6) (x : Int32) : qM (ls L k x) B (jup A k x) := qM_r.mpr ⟨rM_s (qM_r.mp h).1 hk x, qMo_cg (qM_r.mp h).2 rfl (fun _ => rfl) (jup_ne (by omega)) (fun g => jup_ne (by omega))⟩
theorem qS_f {L : LL} {I : z_H} {s u f k : Nat} (h : qS L I s u) (b : qB L) (d : u + 6 ≤ s) (hf : f < 12) (hk : k < 8) (x : Int32) : qS (lf L f k x) (ev_u2 I (s + 2 + f) k x) s u := rS_cg (rS_f (qS_r.mp h) b d hf x) (fun p _ => (qpg_f hk p).symm)
theorem qS_s {L : LL} {I : z_H} {s u k : Nat} (h : qS L I s u) (b : qB L) (d : u + 6 ≤ s) (hk : k < 6) (x : Int32) : qS (ls L k x) (ev_u2 I s k x) s u := rS_s (qS_r.mp h) b d hk x
theorem qG_s {L : LL} (g : qG L) {k : Nat} {x : Int32} (hk : ¬ k = 1) : qG (ls L k x) := by
  obtain ⟨g1_, g2_, g3_, g4_, g5_, g6_, g7_, g8_, g9_, ga_⟩ := g
  refine ⟨g1_, g2_, g3_, g4_, g5_, g6_, g7_, g8_, ?_, ga_⟩
  rw [ls_ne (fun e_ => hk e_.symm)]
  exact g9_
theorem qG_w {L : LL} (g : qG L) {x : Int32} (hx : jlt x 10) : qG (ls L 1 x) := by
  obtain ⟨g1_, g2_, g3_, g4_, g5_, g6_, g7_, g8_, g9_, ga_⟩ := g
  refine ⟨g1_, g2_, g3_, g4_, g5_, g6_, g7_, g8_, ?_, ga_⟩
  rw [ls_at]
  exact hx
/-- ironed -/
def ycr (L : LL) (f : Nat) (x : Int32) : Int32 := z_mx (jn 0) (((qf L f 5 - jn 1) - x) - (if jn 0 < qf L f 4 then jn 1 else jn 0))
def ywe (L : LL) (f : Nat) (x : Int32) : Int32 := z_mx (jn 0) (qf L f 4 - x)
def Liron (L : LL) (f : Nat) (x : Int32) : LL := lf (lf L f 5 (ycr L f x)) f 4 (ywe L f x)
theorem ycr_10 : ∀ (a : Fin 10) (b : Fin 4) (c : Bool), ∃ k : Fin 10, z_mx (jn 0) (((jn a.val - jn 1) - jn b.val) - (if c = true then jn 1 else jn 0)) = jn k.val := by decide +kernel
theorem ywe_10 : ∀ (a : Fin 10) (b : Fin 4), ∃ k : Fin 10, z_mx (jn 0) (jn a.val - jn b.val) = jn k.val := by decide +kernel
theorem qG_iron {L : LL} (g : qG L) {f : Nat} (hf : f < qF L) {x : Int32} (hx : jlt x 4) : qG (Liron L f x) := by
  have q_ := g.2.2.2.2.2.1 f hf
  obtain ⟨b_, hb_, rfl⟩ := hx
  obtain ⟨w_, hw_, ew_⟩ := q_.2.2.2.2.1
  obtain ⟨c_, hc_, ec_⟩ := q_.2.2.2.2.2.1
  have h1_ : jlt (ycr L f (jn b_)) 10 := by
    unfold ycr
    obtain ⟨k_, e_⟩ := ycr_10 ⟨c_, hc_⟩ ⟨b_, hb_⟩ (decide (jn 0 < qf L f 4))
    simp only [decide_eq_true_eq] at e_
    rw [ec_]
    exact ⟨k_.val, k_.isLt, e_⟩
  have h2_ : jlt (ywe L f (jn b_)) 10 := by
    unfold ywe
    obtain ⟨k_, e_⟩ := ywe_10 ⟨w_, hw_⟩ ⟨b_, hb_⟩
    rw [ew_]
    exact ⟨k_.val, k_.isLt, e_⟩
  exact qG_f (qG_f g (Or.inr (Or.inr (Or.inl ⟨rfl, h1_⟩)))) (Or.inr (Or.inl ⟨rfl, h2_⟩))
section YI
variable {L : LL} {B : Nat} {I : z_H} {s u : Nat}
theorem mq_irons (h : qM L B (I 242)) (g : qG L) {f : Nat} (hf : f < qF L) (x : Int32) : ∃ J, d_M_irons (jn f) x I = some J ∧ WM (Liron L f x) B I J := by
  have h1_ := g.1
  have b_ := qG_B g
  have h2_ := qM_f h b_ (f := f) (k := 5) (by omega) (ycr L f x)
  have h3_ := qM_f h2_ b_ (f := f) (k := 4) (by omega) (ywe L f x)
  refine ⟨ev_u2 (ev_u2 I 242 (41 + 11 * f + 5) (ycr L f x)) 242 (41 + 11 * f + 4) (ywe L f x), ?_, ?_, fun a ha => by rw [ju_na ha, ju_na ha]⟩
  · unfold d_M_irons
    rw [mq_f h g hf (by omega), ob_s, mq_f h g hf (by omega), ob_s, ob_is, ob_s, mq_one, ob_s, rm_put (by omega) (by omega), ob_s]
    show (d_M_ofFlag (jn f) (jn 4) (ev_u2 I 242 (41 + 11 * f + 5) (ycr L f x))).bind _ = _
    rw [mq_ofFlag (by omega) (by omega), ob_s, ju_ne (by omega), rm_put (by omega) (by omega), ob_s, h.2.2.2.2.2.2.2.2.2.1 f 4 hf (by omega)]
    rfl
  · rw [ju_up, ju_up]
    exact h3_
theorem sq_irons (h : qS L I s u) (g : qG L) (d : u + 6 ≤ s) {f : Nat} (hf : f < qF L) (x : Int32) : ∃ J, d_G_takeIron (s + 2 + f) x I = some J ∧ WS (Liron L f x) I J s u := by
  have h1_ := g.1
  have b_ := qG_B g
  have h2_ := qS_f h b_ d (f := f) (k := 5) (by omega) (by omega) (ycr L f x)
  have h3_ := qS_f h2_ b_ d (f := f) (k := 4) (by omega) (by omega) (ywe L f x)
  refine ⟨_, ?_, h3_, fun a ha => by rw [ju_na (by omega), ju_na (by omega)]⟩
  unfold d_G_takeIron d_G_creaseAfterIron d_G_wetAfterIron
  rw [sq_f h hf (by omega), sq_f h hf (by omega), ob_is, ob_s, ob_s, ju_ne (by omega), sq_f h hf (by omega), ob_s]
  rfl
/-- the wind -/
theorem sq_wind (h : qS L I s u) (g : qG L) (d : u + 6 ≤ s) (x : Int32) : WS (ls L 1 x) I (ev_u2 I s 1 x) s u := ⟨qS_s h (qG_B g) d (by omega) x, fun a ha => ju_na (by omega)⟩
theorem mq_wind (h : qM L B (I 242)) (x : Int32) : WM (ls L 1 x) B I (ev_u2 I 242 1 x) := ⟨by rw [ju_up]; exact qM_s h (by omega) x, fun a ha => ju_na ha⟩
end YI
