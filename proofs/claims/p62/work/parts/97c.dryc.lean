/-! when it will be dry: the class; what falls: both sides -/
def ydry (L : LL) (f w : Nat) : Int32 := if qf L f 8 = jn 2 then (if w < 7 ∨ nd (z_n (qf L f 4)) (1 + w / 3) ≤ 1 + ycnt L (z_n (qf L f 9)) then jn (nd (z_n (qf L f 4)) (1 + w / 3)) else jg 1) else jg 1
theorem dryl_ok : ∀ (k w h : Fin 10), (z_it (d_S_hoursToDry_7 (jn w.val) (jn h.val)) z_F (jn 0, jn k.val)).bind (fun q8 => (Option.bind (α := Int32) (if (jn h.val) < q8.1 then some ((jg 1)) else some (q8.1)) fun q11 => some (q11))) = some (if nd k.val (1 + w.val / 3) ≤ h.val then jn (nd k.val (1 + w.val / 3)) else jg 1) := by decide +kernel
theorem dryl_99 : ∀ (k w : Fin 10), (z_it (d_S_hoursToDry_7 (jn w.val) (jn 99)) z_F (jn 0, jn k.val)).bind (fun q8 => (Option.bind (α := Int32) (if (jn 99) < q8.1 then some ((jg 1)) else some (q8.1)) fun q11 => some (q11))) = some (jn (nd k.val (1 + w.val / 3))) := by decide +kernel
theorem ycnt_le {L : LL} {p : Nat} (hp : p < 8) : ycnt L p ≤ 7 := by
  have k_ := qcn_lt (P := fun q => p < q ∧ ¬ qpg L q = jg 1) (a := p) (fun q_ => Nat.lt_irrefl _ q_.1) hp
  unfold ycnt
  omega
section DRC
variable {L : LL} {B : Nat} {I : z_H} {s u f : Nat}
theorem line_p (g : qG L) (hf : f < qF L) (h8 : qf L f 8 = jn 2) : ∃ p, p < qP L ∧ qf L f 9 = jn p := by
  rcases (g.2.2.2.2.2.1 f hf).2.2.2.2.2.2.2.2 with k_ | k_ | k_ | k_
  · exact absurd (k_.1.symm.trans h8) (by decide)
  · exact absurd (k_.1.symm.trans h8) (by decide)
  · exact k_.2
  · exact absurd (k_.1.symm.trans h8) (by decide)
theorem sq_until (h : qS L I s u) {p : Nat} (hp : p < 8) : d_S_hoursUntilFall s (jn p) I = some (jn (1 + ycnt L p)) := by
  have z9_ : ∃ r, z_it (d_S_hoursUntilFall_2 s I) z_F (jn 1, jn (p + 1)) = some r ∧ r.1 = jn (1 + ycnt L p) := by
    have k_ := z_for0 (f := d_S_hoursUntilFall_2 s I) (fun i => (jn (1 + qcn (fun q => p < q ∧ ¬ qpg L q = jg 1) (p + 1 + i)), jn (p + 1 + i))) (7 - p) (r := (jn (1 + ycnt L p), jn 8)) (by omega) (fun i hi => ?_) ?_
    · have e_ : qcn (fun q => p < q ∧ ¬ qpg L q = jg 1) (p + 1 + 0) = 0 := qcn_no (fun i hi q_ => by have k2_ := q_.1; omega)
      have e2_ : (jn (1 + qcn (fun q => p < q ∧ ¬ qpg L q = jg 1) (p + 1 + 0)), jn (p + 1 + 0)) = (jn 1, jn (p + 1)) := by rw [e_]
      rw [e2_] at k_
      exact ⟨_, k_, rfl⟩
    · have u_ := sq_pg h (p := p + 1 + i) (by omega)
      have s_ : qcn (fun q => p < q ∧ ¬ qpg L q = jg 1) (p + 1 + (i + 1)) = qcn (fun q => p < q ∧ ¬ qpg L q = jg 1) (p + 1 + i) + (if p < p + 1 + i ∧ ¬ qpg L (p + 1 + i) = jg 1 then 1 else 0) := rfl
      unfold d_S_hoursUntilFall_2
      rw [if_pos (show jn (p + 1 + i) < jn 8 by rw [jn_lt (by omega) (by omega)]; omega), if_pos (show z_in (jn (p + 1 + i)) 8 by rw [jn_in (by omega)]; omega), s_]
      have n_ : z_n (jn (p + 1 + i)) = p + 1 + i := jn_n (by omega)
      by_cases c_ : qpg L (p + 1 + i) = jg 1
      · rw [if_pos (show I (s + 16) (z_n (jn (p + 1 + i))) = jg 1 by rw [n_, u_]; exact c_), if_neg (fun q_ => q_.2 c_), ob_s, jn_add]
        rfl
      · rw [if_neg (show ¬ I (s + 16) (z_n (jn (p + 1 + i))) = jg 1 by rw [n_, u_]; exact c_), if_pos ⟨by omega, c_⟩, ob_s, jn_add, jn_add]
        rfl
    · have e_ : p + 1 + (7 - p) = 8 := by omega
      rw [e_]
      rfl
  obtain ⟨r_, e_, e2_⟩ := z9_
  unfold d_S_hoursUntilFall
  rw [jn_add, e_, ob_s, e2_]
theorem sq_dryIn (h : qS L I s u) (g : qG L) (hf : f < qF L) {w : Nat} (hw : w < 10) : d_S_hoursToDry s (jn f) (jn w) I = some (ydry L f w) := by
  have h1_ := g.1
  have h5_ := g.2.2.2.2.1
  obtain ⟨k_, hk_, ek_⟩ := (g.2.2.2.2.2.1 f hf).2.2.2.2.1
  unfold d_S_hoursToDry ydry
  rw [if_pos (sq_in g hf), sq_n g hf, sq_f h hf (by omega), sq_f h hf (by omega), sq_f h hf (by omega)]
  by_cases h8_ : qf L f 8 = jn 2
  · obtain ⟨p_, hp_, ep_⟩ := line_p g hf h8_
    rw [if_pos h8_, if_pos h8_, ek_, ep_, jn_n (a := k_) (by omega), jn_n (a := p_) (by omega)]
    by_cases w7_ : w < 7
    · rw [if_pos (show jn w < jn 7 by rw [jn_lt (by omega) (by omega)]; exact w7_), ob_s, if_pos (sq_in g hf), if_pos (Or.inl w7_)]
      exact dryl_99 ⟨k_, hk_⟩ ⟨w, hw⟩
    · have c_ := ycnt_le (L := L) (p := p_) (by omega)
      rw [if_neg (show ¬ jn w < jn 7 by rw [jn_lt (by omega) (by omega)]; exact w7_), if_pos (sq_in g hf), sq_until h (by omega), ob_s, ob_s, if_pos (sq_in g hf)]
      have d_ := dryl_ok ⟨k_, hk_⟩ ⟨w, hw⟩ ⟨1 + ycnt L p_, by omega⟩
      refine d_.trans ?_
      by_cases q_ : nd k_ (1 + w / 3) ≤ 1 + ycnt L p_
      · rw [if_pos q_, if_pos (Or.inr q_)]
      · rw [if_neg q_, if_neg (fun q2_ => q2_.elim w7_ q_)]
  · rw [if_neg h8_, if_neg h8_]
theorem mq_dryIn (h : qM L B (I 242)) (g : qG L) (hf : f < qF L) {w : Nat} (hw : w < 10) (hs : qs L 1 = jn w) : ∃ J, d_M_driesIn (jn f) I = some (ydry L f w, J) ∧ ∀ c, ¬ c = 242 → J c = I c := by
  have h1_ := g.1
  have h5_ := g.2.2.2.2.1
  obtain ⟨k_, hk_, ek_⟩ := (g.2.2.2.2.2.1 f hf).2.2.2.2.1
  unfold ydry
  by_cases h8_ : qf L f 8 = jn 2
  · obtain ⟨p_, hp_, ep_⟩ := line_p g hf h8_
    obtain ⟨J_, e_, f_⟩ := mq_driesL (B := B) (f := f) (p := p_) (w := w) (by omega) hw k_ 0 L I hk_ h g hf hp_ h8_ ep_ ek_ hs (by omega) z_F (by unfold z_F; omega)
    refine ⟨J_, ?_, f_⟩
    unfold d_M_driesIn
    rw [e_, if_pos h8_, ek_, ep_, jn_n (a := k_) (by omega), jn_n (a := p_) (by omega), Nat.zero_add]
  · refine ⟨I, ?_, fun _ _ => rfl⟩
    rw [if_neg h8_]
    unfold d_M_driesIn
    have z_ : z_it (d_M_driesIn_2 (jn f)) z_F (jn 0, I) = some (jg 1, I) := by
      show z_it (d_M_driesIn_2 (jn f)) (99999 + 1) (jn 0, I) = _
      unfold z_it d_M_driesIn_2
      dsimp only
      rw [if_neg (by rw [jn_lt (by omega) (by omega)]; omega), mq_where h g hf, ob_s, if_neg h8_]
    exact z_
/-! what falls in some hours -/
def yline (L : LL) : Nat := qcn (fun f => qf L f 8 = jn 2) (qF L)
theorem pas_s {L : LL} : qs (Lpas L) 1 = qs L 1 := by
  show qs (ls (Lfall (Ldry L)) 0 _) 1 = _
  rw [ls_ne (by omega)]
  unfold Lfall
  by_cases q_ : qs (Ldry L) 1 < jn 7
  · rw [if_pos q_, dry_s]
  · rw [if_neg q_, lst_s (by omega), dry_s]
theorem pas_5 {L : LL} (g : qG L) {w : Nat} (hw : w < 10) (hs : qs L 1 = jn w) : (w < 7 → qs (Lpas L) 5 = qs L 5 ∧ yline (Lpas L) = yline L) ∧ (¬ w < 7 → (yline L = 0 → qs (Lpas L) 5 = qs L 5 ∧ yline (Lpas L) = 0) ∧ (0 < yline L → qs (Lpas L) 5 = qs L 5 + jn 1 ∧ yline L = yline (Lpas L) + 1)) := by
  have h1_ := g.1
  have g1_ := qG_dry g
  have yd_ : yline (Ldry L) = yline L := by
    unfold yline
    rw [dry_F]
    exact qcn_cg (fun i _ => by rw [dry_k (by omega)])
  refine ⟨fun w7_ => ?_, fun w7_ => ⟨fun y_ => ?_, fun y_ => ?_⟩⟩
  · have e3_ : Lfall (Ldry L) = Ldry L := by
      unfold Lfall
      rw [if_pos (by rw [dry_s, hs, jn_lt (by omega) (by omega)]; exact w7_)]
    unfold Lpas
    rw [e3_]
    exact ⟨(ls_ne (by omega)).trans (dry_s 5), yd_⟩
  · have e3_ : Lfall (Ldry L) = Llst (Ldry L) := by
      unfold Lfall
      rw [if_neg (by rw [dry_s, hs, jn_lt (by omega) (by omega)]; exact w7_)]
    have e4_ : Llst (Ldry L) = Ldry L := by
      unfold Llst
      cases e_ : ylst (Ldry L) with
      | none => rfl
      | some q =>
        obtain ⟨_, f_, hf_, _, k8_, _⟩ := ylst_at g1_ e_
        have k_ := qcn_ps (P := fun f => qf (Ldry L) f 8 = jn 2) (a := f_) k8_ hf_
        have k2_ : yline (Ldry L) = qcn (fun f => qf (Ldry L) f 8 = jn 2) (qF (Ldry L)) := rfl
        omega
    unfold Lpas
    rw [e3_, e4_]
    exact ⟨(ls_ne (by omega)).trans (dry_s 5), yd_.trans y_⟩
  · have e3_ : Lfall (Ldry L) = Llst (Ldry L) := by
      unfold Lfall
      rw [if_neg (by rw [dry_s, hs, jn_lt (by omega) (by omega)]; exact w7_)]
    have fl_ : ∃ f, f < qF L ∧ qf L f 8 = jn 2 := by
      by_cases k_ : ∃ f, f < qF L ∧ qf L f 8 = jn 2
      · exact k_
      · have k2_ : yline L = 0 := qcn_no (fun i hi q_ => k_ ⟨i, hi, q_⟩)
        omega
    obtain ⟨f_, hf_, h8_⟩ := fl_
    obtain ⟨p_, hp_, h9_⟩ := line_p g hf_ h8_
    obtain ⟨q_, f2_, l1_, l2_, l3_, l4_, l5_, l6_, l7_, l8_⟩ := lst_at g1_ (f := f_) (p := p_) (by rw [dry_F]; exact hf_) (by rw [dry_k (by omega)]; exact h8_) (by rw [dry_k (by omega)]; exact h9_) (by rw [dry_P]; exact hp_)
    have n02_ : ¬ jn 0 = jn 2 := by decide
    have y2_ : yline (Ldry L) = yline (Lfal (Ldry L) f2_) + 1 := qcn_1 (P := fun f => qf (Ldry L) f 8 = jn 2) (R := fun f => qf (Lfal (Ldry L) f2_) f 8 = jn 2) (a := f2_) l6_ (by rw [fal_8]; exact n02_) l4_ (fun i hi hne => by rw [fal_k hne])
    unfold Lpas
    rw [e3_, l8_]
    refine ⟨?_, yd_.symm.trans y2_⟩
    rw [ls_ne (by omega)]
    show qs (ls (lf _ _ _ _) 5 (qs (Ldry L) 5 + jn 1)) 5 = _
    rw [ls_at, dry_s]
theorem pss_5 {L : LL} (g : qG L) {w : Nat} (hw : w < 10) (hs : qs L 1 = jn w) : ∀ n, qs (Lpss L n) 1 = jn w ∧ ∃ m, m = (if w < 7 then 0 else if n < yline L then n else yline L) ∧ qs (Lpss L n) 5 = qs L 5 + jn m ∧ yline (Lpss L n) = yline L - m := by
  intro n
  induction n with
  | zero => 
    refine ⟨hs, 0, ?_, ?_, rfl⟩
    · by_cases w7_ : w < 7
      · rw [if_pos w7_]
      · rw [if_neg w7_]
        by_cases y_ : 0 < yline L
        · rw [if_pos y_]
        · rw [if_neg y_]; omega
    · show qs L 5 = _
      rw [jn_z]
  | succ n ih_ =>
    obtain ⟨s_, m_, em_, e1_, e2_⟩ := ih_
    have k_ : Lpss L (n + 1) = Lpas (Lpss L n) := rfl
    have p_ := pas_5 (qG_pss g n) hw s_
    rw [k_]
    refine ⟨pas_s.trans s_, ?_⟩
    by_cases w7_ : w < 7
    · rw [if_pos w7_] at em_ ⊢
      have q_ := p_.1 w7_
      exact ⟨0, rfl, by rw [q_.1, e1_, em_], by rw [q_.2, e2_, em_]⟩
    · rw [if_neg w7_] at em_ ⊢
      have q_ := p_.2 w7_
      by_cases n_ : n < yline L
      · rw [if_pos n_] at em_
        have q2_ := q_.2 (by omega)
        refine ⟨n + 1, ?_, ?_, ?_⟩
        · by_cases n2_ : n + 1 < yline L
          · rw [if_pos n2_]
          · rw [if_neg n2_]; omega
        · rw [q2_.1, e1_, em_, Int32.add_assoc, jn_add]
        · have q3_ := q2_.2
          omega
      · rw [if_neg n_] at em_
        have q2_ := q_.1 (by omega)
        exact ⟨yline L, by rw [if_neg (by omega)], by rw [q2_.1, e1_, em_], by rw [q2_.2]; omega⟩
def yfls (L : LL) (n : Nat) : Int32 := if qs L 1 < jn 7 then jn 0 else z_mn (jn n) (jn (yline L))
theorem mq_fls {L : LL} (g : qG L) {n : Nat} (hn : n < 1000) : qs (Lpss L n) 5 - qs L 5 = yfls L n := by
  have h1_ := g.1
  obtain ⟨w_, hw_, ew_⟩ := g.2.2.2.2.2.2.2.2.1
  obtain ⟨_, m_, em_, e1_, _⟩ := pss_5 g hw_ ew_ n
  have y_ : yline L ≤ 12 := Nat.le_trans qcn_le h1_
  rw [e1_, Int32.add_comm, Int32.add_sub_cancel]
  unfold yfls
  rw [ew_, em_]
  by_cases w7_ : w_ < 7
  · rw [if_pos w7_, if_pos (show jn w_ < jn 7 by rw [jn_lt (by omega) (by omega)]; exact w7_)]
  · rw [if_neg w7_, if_neg (show ¬ jn w_ < jn 7 by rw [jn_lt (by omega) (by omega)]; exact w7_)]
    unfold z_mn
    by_cases n_ : n < yline L
    · rw [if_pos n_, if_neg (show ¬ jn (yline L) < jn n by rw [jn_lt (by omega) (by omega)]; omega)]
    · rw [if_neg n_]
      by_cases n2_ : yline L < n
      · rw [if_pos (show jn (yline L) < jn n by rw [jn_lt (by omega) (by omega)]; exact n2_)]
      · rw [if_neg (show ¬ jn (yline L) < jn n by rw [jn_lt (by omega) (by omega)]; exact n2_)]
        congr 1
        omega
theorem sq_line (h : qS L I s u) (g : qG L) : d_S_flagsAt s (jn 2) I = some (jn (yline L)) := by
  rw [sq_flagsAt h g, qct_n]
  rfl
end DRC
