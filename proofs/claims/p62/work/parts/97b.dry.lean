/-! when it will be dry: both sides -/
def nd (k d : Nat) : Nat := (k + d - 1) / d
def ycnt (L : LL) (p : Nat) : Nat := qcn (fun q => p < q ∧ ¬ qpg L q = jg 1) 8
theorem qcn_no {P : Nat → Prop} [DecidablePred P] : ∀ {n : Nat}, (∀ i, i < n → ¬ P i) → qcn P n = 0 := by
  intro n
  induction n with
  | zero => intro _; rfl
  | succ n ih_ =>
    intro h_
    show qcn P n + (if P n then 1 else 0) = 0
    rw [ih_ (fun i hi => h_ i (by omega)), if_neg (h_ n (by omega))]
theorem qcn_ps {P : Nat → Prop} [DecidablePred P] {a : Nat} (ha : P a) : ∀ {n : Nat}, a < n → 0 < qcn P n := by
  intro n
  induction n with
  | zero => intro h_; omega
  | succ n ih_ =>
    intro h_
    show 0 < qcn P n + (if P n then 1 else 0)
    by_cases e_ : a = n
    · rw [← e_, if_pos ha]; omega
    · have k_ := ih_ (by omega)
      omega
theorem qcn_cg {P R : Nat → Prop} [DecidablePred P] [DecidablePred R] {n : Nat} : (∀ i, i < n → (P i ↔ R i)) → qcn P n = qcn R n := by
  induction n with
  | zero => intro _; rfl
  | succ n ih_ =>
    intro h_
    show qcn P n + (if P n then 1 else 0) = qcn R n + (if R n then 1 else 0)
    rw [ih_ (fun i hi => h_ i (by omega))]
    have k_ := h_ n (by omega)
    by_cases p_ : P n
    · rw [if_pos p_, if_pos (k_.mp p_)]
    · rw [if_neg p_, if_neg (fun q_ => p_ (k_.mpr q_))]
/-- one less -/
theorem qcn_1 {P R : Nat → Prop} [DecidablePred P] [DecidablePred R] {a : Nat} (ha : P a) (hr : ¬ R a) : ∀ {n : Nat}, a < n → (∀ i, i < n → ¬ i = a → (P i ↔ R i)) → qcn P n = qcn R n + 1 := by
  intro n
  induction n with
  | zero => intro h_; omega
  | succ n ih_ =>
    intro h_ h2_
    show qcn P n + (if P n then 1 else 0) = qcn R n + (if R n then 1 else 0) + 1
    by_cases e_ : a = n
    · rw [qcn_cg (P := P) (R := R) (fun i hi => h2_ i (by omega) (by omega)), if_pos (e_ ▸ ha), if_neg (e_ ▸ hr)]
    · rw [ih_ (by omega) (fun i hi hn => h2_ i (by omega) hn)]
      have k_ := h2_ n (by omega) (fun q_ => e_ q_.symm)
      by_cases p_ : P n
      · rw [if_pos p_, if_pos (k_.mp p_)]
      · rw [if_neg p_, if_neg (fun q_ => p_ (k_.mpr q_))]
theorem qkd_mx {P : Nat → Prop} [DecidablePred P] : ∀ {n k : Nat}, qkd P n = some k → ∀ i, k < i → i < n → ¬ P i := by
  intro n
  induction n with
  | zero => intro k h_; cases h_
  | succ n ih_ =>
    intro k h_ i hi hn
    unfold qkd at h_
    by_cases p_ : P n
    · rw [if_pos p_] at h_
      have k_ : n = k := Option.some.inj h_
      omega
    · rw [if_neg p_] at h_
      by_cases e_ : i = n
      · rw [e_]; exact p_
      · exact ih_ h_ i hi (by omega)
theorem qkd_non {P : Nat → Prop} [DecidablePred P] : ∀ {n : Nat}, qkd P n = none → ∀ i, i < n → ¬ P i := by
  intro n
  induction n with
  | zero => intro _ i hi; omega
  | succ n ih_ =>
    intro h_ i hi
    unfold qkd at h_
    by_cases p_ : P n
    · rw [if_pos p_] at h_
      cases h_
    · rw [if_neg p_] at h_
      by_cases e_ : i = n
      · rw [e_]; exact p_
      · exact ih_ h_ i (by omega)
/-! one hour, as a flag on the line sees it -/
theorem dry_f {L : LL} : ∀ (n g k : Nat), qf (jfd Ldst L n) g k = if g < n ∧ qf L g 8 = jn 2 ∧ k = 4 then ydr L g else qf L g k := by
  intro n
  induction n with
  | zero =>
    intro g k
    rw [if_neg (fun q_ => absurd q_.1 (Nat.not_lt_zero _))]
    rfl
  | succ n ih_ =>
    intro g k
    rw [jfd_s]
    have s_ := Ldj_s (L := L) 1 n
    have w_ : qf (jfd Ldst L n) n 8 = qf L n 8 := by rw [ih_, if_neg (by omega)]
    have w4_ : qf (jfd Ldst L n) n 4 = qf L n 4 := by rw [ih_, if_neg (by omega)]
    have y_ : ydr (jfd Ldst L n) n = ydr L n := by
      unfold ydr
      rw [s_, w4_]
    show qf (if qf (jfd Ldst L n) n 8 = jn 2 then lf (jfd Ldst L n) n 4 (ydr (jfd Ldst L n) n) else jfd Ldst L n) g k = _
    by_cases h8_ : qf L n 8 = jn 2
    · rw [if_pos (w_.trans h8_), y_]
      by_cases e_ : g = n ∧ k = 4
      · rw [e_.1, e_.2, lf_at, if_pos ⟨by omega, h8_, rfl⟩]
      · rw [lf_ne e_]
        have k_ := ih_ g k
        rw [k_]
        by_cases c_ : g < n ∧ qf L g 8 = jn 2 ∧ k = 4
        · rw [if_pos c_, if_pos ⟨by omega, c_.2⟩]
        · rw [if_neg c_, if_neg (fun q_ => c_ ⟨by omega, q_.2⟩)]
    · rw [if_neg (fun q_ => h8_ (w_.symm.trans q_))]
      have k_ := ih_ g k
      rw [k_]
      by_cases c_ : g < n ∧ qf L g 8 = jn 2 ∧ k = 4
      · rw [if_pos c_, if_pos ⟨by omega, c_.2⟩]
      · rw [if_neg c_, if_neg (fun q_ => c_ ⟨by
          by_cases e_ : g = n
          · exact absurd (e_ ▸ q_.2.1) h8_
          · omega, q_.2⟩)]
theorem dry_k {L : LL} {g k : Nat} (h : ¬ k = 4) : qf (Ldry L) g k = qf L g k := by
  unfold Ldry
  rw [dry_f, if_neg (fun q_ => h q_.2.2)]
theorem dry_4 {L : LL} {g : Nat} (hg : g < qF L) (h : qf L g 8 = jn 2) : qf (Ldry L) g 4 = ydr L g := by
  unfold Ldry
  rw [dry_f, if_pos ⟨hg, h, rfl⟩]
theorem dry_s {L : LL} (k : Nat) : qs (Ldry L) k = qs L k := Ldj_s k (qF L)
theorem dry_F {L : LL} : qF (Ldry L) = qF L := Ldj_q (qF L)
theorem dry_P {L : LL} : qP (Ldry L) = qP L := congrArg (fun q => q.2.2.2.2) (Ldj_F (L := L) (qF L))
theorem dry_pg {L : LL} (p : Nat) : qpg (Ldry L) p = qpg L p := qpg_cg dry_F (fun i _ => by rw [dry_k (by omega), dry_k (by omega)])
theorem ydr_nd : ∀ (a b : Fin 10), z_mx (jn 0) (jn a.val - (jn 1 + jn b.val / jn 3)) = jn (a.val - (1 + b.val / 3)) := by decide +kernel
theorem nd_0 : ∀ w : Fin 10, nd 0 (1 + w.val / 3) = 0 := by decide +kernel
theorem nd_1 : ∀ (k w : Fin 10), 0 < k.val → k.val - (1 + w.val / 3) = 0 → nd k.val (1 + w.val / 3) = 1 := by decide +kernel
theorem nd_s : ∀ (k w : Fin 10), ¬ k.val - (1 + w.val / 3) = 0 → nd k.val (1 + w.val / 3) = nd (k.val - (1 + w.val / 3)) (1 + w.val / 3) + 1 ∧ 0 < nd (k.val - (1 + w.val / 3)) (1 + w.val / 3) := by decide +kernel
theorem nd_le : ∀ (k w : Fin 10), nd k.val (1 + w.val / 3) ≤ k.val := by decide +kernel
/-- the last flag falls: what is left -/
theorem lst_s {L : LL} {k : Nat} (h : ¬ k = 5) : qs (Llst L) k = qs L k := by
  unfold Llst
  cases e_ : ylst L with
  | none => rfl
  | some q => exact ls_ne h
theorem lst_F {L : LL} : qF (Llst L) = qF L := by
  unfold Llst
  cases e_ : ylst L with
  | none => rfl
  | some q => rfl
theorem lst_P {L : LL} : qP (Llst L) = qP L := by
  unfold Llst
  cases e_ : ylst L with
  | none => rfl
  | some q => rfl
theorem lst_at {L : LL} (g : qG L) {f p : Nat} (hf : f < qF L) (h8 : qf L f 8 = jn 2) (h9 : qf L f 9 = jn p) (hp : p < qP L) : ∃ q f2, ylst L = some q ∧ p ≤ q ∧ q < qP L ∧ f2 < qF L ∧ qpg L q = jn f2 ∧ qf L f2 8 = jn 2 ∧ qf L f2 9 = jn q ∧ Llst L = Lfal L f2 := by
  have h1_ := g.1
  have u_ : ¬ qpg L p = jg 1 := by
    rw [qpg_of g hf h8 h9, jn_ng (by omega) (by omega) (by omega)]
    exact fun q_ => q_
  cases e_ : ylst L with
  | none => exact absurd u_ (qkd_non (P := fun p => ¬ qpg L p = jg 1) e_ p hp)
  | some q =>
    obtain ⟨hq_, f2_, hf2_, e2_, k8_, k9_⟩ := ylst_at g e_
    refine ⟨q, f2_, rfl, ?_, hq_, hf2_, e2_, k8_, k9_, ?_⟩
    · rcases Nat.lt_or_ge q p with w_ | w_
      · exact absurd u_ (qkd_mx (P := fun p => ¬ qpg L p = jg 1) e_ p w_ hp)
      · exact w_
    · unfold Llst
      rw [e_]
      show Lfal L (z_n (qpg L q)) = _
      rw [e2_, jn_n (by omega)]
theorem fal_k {L : LL} {f a k : Nat} (h : ¬ a = f) : qf (Lfal L f) a k = qf L a k := by
  show qf (lf (Lmv L f (jn 0) (jg 1)) f 3 _) a k = _
  rw [lf_ne (fun q_ => h q_.1), qf_mv (fun q_ => h q_.1)]
theorem fal_8 {L : LL} {f : Nat} : qf (Lfal L f) f 8 = jn 0 := by
  show qf (lf (Lmv L f (jn 0) (jg 1)) f 3 _) f 8 = _
  rw [lf_ne (by omega), qf_mv8]
theorem fal_pg {L : LL} (g : qG L) {f q : Nat} (hf : f < qF L) (h8 : qf L f 8 = jn 2) (h9 : qf L f 9 = jn q) (hq : q < 8) {p : Nat} (hp : p < 8) : qpg (Lfal L f) p = if p = q then jg 1 else qpg L p := by
  have n02_ : ¬ jn 0 = jn 2 := by decide
  have n21_ : ¬ jn 2 = jn 1 := by decide
  have g2_ : qG (Lmv L f (jn 0) (jg 1)) := qG_mv g hf (by rw [h8]; exact n21_) (Or.inl ⟨rfl, rfl⟩)
  show qpg (lf (Lmv L f (jn 0) (jg 1)) f 3 (z_mn (jn 9) (qf L f 3 + jn 1))) p = _
  rw [qpg_f (by omega)]
  by_cases e_ : p = q
  · rw [if_pos e_, e_, qpg_mv3 g g2_ hf (fun q_ => n02_ q_.1) h8 h9]
  · rw [if_neg e_, qpg_mv2 (fun q_ => n02_ q_.1) (fun q_ => e_ ?_)]
    have k_ := q_.2
    rw [h9, jn_eq (by omega) (by omega)] at k_
    exact k_.symm
/-! the reference's hours, from any hour on -/
section DRH
variable {L : LL} {B : Nat} {I : z_H} {s u f : Nat}
theorem mq_driesL {f p w : Nat} (hp : p < 8) (hw : w < 10) : ∀ (k n : Nat) (L : LL) (I : z_H), k < 10 → qM L B (I 242) → qG L → f < qF L → p < qP L → qf L f 8 = jn 2 → qf L f 9 = jn p → qf L f 4 = jn k → qs L 1 = jn w → n + k ≤ 99 → ∀ m, k < m → ∃ J, z_it (d_M_driesIn_2 (jn f)) m (jn n, I) = some (if w < 7 ∨ nd k (1 + w / 3) ≤ 1 + ycnt L p then jn (n + nd k (1 + w / 3)) else jg 1, J) ∧ ∀ c, ¬ c = 242 → J c = I c := by
  intro k
  induction k using Nat.strongRecOn with
  | ind k ih_ =>
    intro n L I hk h g hf hpP h8 h9 h4 hs hn m hm
    have h1_ := g.1
    have h5_ := g.2.2.2.2.1
    have z0_ : z_in (jn 0) 173 := by rw [jn_in (by omega)]; omega
    obtain ⟨m2_, rfl⟩ : ∃ m2, m = m2 + 1 := ⟨m - 1, by omega⟩
    unfold z_it
    have st_ : d_M_driesIn_2 (jn f) (jn n, I) = (if jn k = jn 0 then some (Sum.inr (jn n, I)) else ((d_M_dries I).bind fun q7 => ((d_M_ofFlag (jn f) ((jn 4)) q7).bind fun q9 => (if q9 = jn 0 then (Option.bind (α := Int32) (if jn n < (jn 99) then some ((jn n + (jn 1))) else some ((jg 1))) fun q15 => some (Sum.inr ((q15, q7)))) else ((d_M_falls q7).bind fun q11 => (if z_in ((jn 0)) 173 then (if z_in ((jn 0)) 173 then some (Sum.inl ((jn n + (jn 1)), (ev_u2 q11 242 (z_n ((jn 0))) ((q11 242 (z_n ((jn 0)))) + (jn 1))))) else none) else none)))))) := by
      unfold d_M_driesIn_2
      dsimp only
      rw [if_neg (by rw [jn_lt (by omega) (by omega)]; omega), mq_where h g hf, ob_s, if_pos h8, mq_f h g hf (by omega), ob_s, h4]
    rw [st_]
    by_cases k0_ : k = 0
    · rw [if_pos (by rw [k0_]), k0_, nd_0 ⟨w, hw⟩, if_pos (by omega)]
      exact ⟨I, rfl, fun _ _ => rfl⟩
    · rw [if_neg (by rw [jn_eq (by omega) (by omega)]; exact k0_)]
      obtain ⟨J1_, e1_, w1_, f1_⟩ := mq_dry h g
      have g1_ := qG_dry g
      have hf1_ : f < qF (Ldry L) := by rw [dry_F]; exact hf
      have v_ : qf (Ldry L) f 4 = jn (k - (1 + w / 3)) := by
        rw [dry_4 hf h8]
        unfold ydr
        rw [h4, hs]
        exact ydr_nd ⟨k, hk⟩ ⟨w, hw⟩
      rw [e1_, ob_s, mq_f w1_ g1_ hf1_ (by omega), ob_s, v_]
      by_cases k2_ : k - (1 + w / 3) = 0
      · rw [if_pos (by rw [k2_]), if_pos (by rw [jn_lt (by omega) (by omega)]; omega), ob_s, nd_1 ⟨k, hk⟩ ⟨w, hw⟩ (by show 0 < k; omega) k2_, if_pos (by omega), jn_add]
        exact ⟨J1_, rfl, f1_⟩
      · obtain ⟨nds_, ndp_⟩ := nd_s ⟨k, hk⟩ ⟨w, hw⟩ k2_
        have nds2_ : nd k (1 + w / 3) = nd (k - (1 + w / 3)) (1 + w / 3) + 1 := nds_
        have ndp2_ : 0 < nd (k - (1 + w / 3)) (1 + w / 3) := ndp_
        obtain ⟨J2_, e2_, w2_, f2_⟩ := mq_falls w1_ g1_
        have g2_ := qG_fall g1_
        rw [if_neg (by rw [jn_eq (by omega) (by omega)]; exact k2_), e2_, ob_s, if_pos z0_, if_pos z0_, mq_now w2_ (by omega), jn_n (by omega), jn_add]
        dsimp only
        have w3_ : qM (Lpas L) B (ev_u2 J2_ 242 0 (qs (Lfall (Ldry L)) 0 + jn 1) 242) := by
          rw [ju_up]
          exact qM_s w2_ (by omega) _
        have g3_ := qG_pas g
        have s3_ : qs (Lpas L) 1 = jn w := by
          show qs (ls (Lfall (Ldry L)) 0 _) 1 = _
          rw [ls_ne (by omega)]
          unfold Lfall
          by_cases q_ : qs (Ldry L) 1 < jn 7
          · rw [if_pos q_, dry_s]; exact hs
          · rw [if_neg q_, lst_s (by omega), dry_s]; exact hs
        have fr_ : ∀ c, ¬ c = 242 → ev_u2 J2_ 242 0 (qs (Lfall (Ldry L)) 0 + jn 1) c = I c := fun c hc => by rw [ju_na hc, f2_ c hc, f1_ c hc]
        generalize ev_u2 J2_ 242 0 (qs (Lfall (Ldry L)) 0 + jn 1) = J3_ at w3_ fr_ ⊢
        have h81_ : qf (Ldry L) f 8 = jn 2 := by rw [dry_k (by omega)]; exact h8
        have h91_ : qf (Ldry L) f 9 = jn p := by rw [dry_k (by omega)]; exact h9
        by_cases w7_ : w < 7
        · have e3_ : Lfall (Ldry L) = Ldry L := by
            unfold Lfall
            rw [if_pos (by rw [dry_s, hs, jn_lt (by omega) (by omega)]; exact w7_)]
          have e4_ : ∀ a c, qf (Lpas L) a c = qf (Ldry L) a c := fun a c => by
            show qf (ls (Lfall (Ldry L)) 0 _) a c = _
            rw [e3_]
            rfl
          have e5_ : (Lpas L).1 = (Ldry L).1 := by
            show (ls (Lfall (Ldry L)) 0 _).1 = _
            rw [e3_]
            rfl
          have F_ : qF (Lpas L) = qF L := by
            show (Lpas L).1.1 = _
            rw [e5_]; exact dry_F
          have P_ : qP (Lpas L) = qP L := by
            show (Lpas L).1.2.2.2.2 = _
            rw [e5_]; exact dry_P
          obtain ⟨J_, e6_, f6_⟩ := ih_ (k - (1 + w / 3)) (by omega) (n + 1) (Lpas L) J3_ (by omega) w3_ g3_ (by rw [F_]; exact hf) (by rw [P_]; exact hpP) (by rw [e4_]; exact h81_) (by rw [e4_]; exact h91_) (by rw [e4_]; exact v_) s3_ (by omega) m2_ (by omega)
          refine ⟨J_, ?_, fun c hc => (f6_ c hc).trans (fr_ c hc)⟩
          rw [e6_, if_pos (Or.inl w7_), if_pos (Or.inl w7_), nds2_]
          congr 3
          omega
        · have e3_ : Lfall (Ldry L) = Llst (Ldry L) := by
            unfold Lfall
            rw [if_neg (by rw [dry_s, hs, jn_lt (by omega) (by omega)]; exact w7_)]
          obtain ⟨q_, f2q_, l1_, l2_, l3_, l4_, l5_, l6_, l7_, l8_⟩ := lst_at g1_ hf1_ h81_ h91_ (by rw [dry_P]; exact hpP)
          rw [dry_P] at l3_
          have e4_ : ∀ a c, qf (Lpas L) a c = qf (Lfal (Ldry L) f2q_) a c := fun a c => by
            show qf (ls (Lfall (Ldry L)) 0 _) a c = _
            rw [e3_, l8_]
            rfl
          have e5_ : (Lpas L).1 = (Ldry L).1 := by
            show (ls (Lfall (Ldry L)) 0 _).1 = _
            rw [e3_, l8_]
            rfl
          have F_ : qF (Lpas L) = qF L := by
            show (Lpas L).1.1 = _
            rw [e5_]; exact dry_F
          have P_ : qP (Lpas L) = qP L := by
            show (Lpas L).1.2.2.2.2 = _
            rw [e5_]; exact dry_P
          have pg_ : ∀ c, c < 8 → qpg (Lpas L) c = if c = q_ then jg 1 else qpg L c := fun c hc => by
            have k_ : qpg (Lpas L) c = qpg (Lfal (Ldry L) f2q_) c := qpg_cg (by rw [F_]; exact dry_F.symm) (fun i _ => by rw [e4_, e4_])
            rw [k_, fal_pg g1_ l4_ l6_ l7_ (by omega) hc, dry_pg]
          have uq_ : ¬ qpg L q_ = jg 1 := by
            rw [← dry_pg, l5_, jn_ng (by omega) (by have k_ := g1_.1; omega) (by omega)]
            exact fun q_ => q_
          by_cases pq_ : p = q_
          · -- the flag itself falls
            have ff_ : f2q_ = f := g1_.2.2.2.2.2.2.2.2.2 f2q_ f l4_ hf1_ l6_ h81_ (by rw [l7_, h91_, pq_])
            have c0_ : ycnt L p = 0 := qcn_no (fun i hi k_ => by
              have k2_ := qkd_mx (P := fun p => ¬ qpg (Ldry L) p = jg 1) l1_ i (by omega)
              rw [dry_P] at k2_
              rcases Nat.lt_or_ge i (qP L) with w_ | w_
              · exact k2_ w_ (by rw [dry_pg]; exact k_.2)
              · exact k_.2 (qpg_hi g w_ (by omega)))
            obtain ⟨m3_, rfl⟩ : ∃ m3, m2_ = m3 + 1 := ⟨m2_ - 1, by omega⟩
            have o8_ : qf (Lpas L) f 8 = jn 0 := by rw [e4_, ← ff_]; exact fal_8
            refine ⟨J3_, ?_, fr_⟩
            unfold z_it d_M_driesIn_2
            dsimp only
            rw [if_neg (by rw [jn_lt (by omega) (by omega)]; omega), mq_where w3_ g3_ (by rw [F_]; exact hf), ob_s, if_neg (by rw [o8_]; decide)]
            dsimp only
            rw [if_neg (by rw [c0_]; omega)]
          · have ff_ : ¬ f = f2q_ := fun k_ => pq_ (by
              have k2_ := l7_
              rw [← k_, h91_, jn_eq (by omega) (by omega)] at k2_
              exact k2_)
            have c1_ : ycnt L p = ycnt (Lpas L) p + 1 := qcn_1 (P := fun q => p < q ∧ ¬ qpg L q = jg 1) (R := fun q => p < q ∧ ¬ qpg (Lpas L) q = jg 1) (a := q_) ⟨by omega, uq_⟩ (fun k_ => k_.2 (by rw [pg_ q_ (by omega), if_pos rfl])) (by omega) (fun i hi hne => by rw [pg_ i hi, if_neg hne])
            obtain ⟨J_, e6_, f6_⟩ := ih_ (k - (1 + w / 3)) (by omega) (n + 1) (Lpas L) J3_ (by omega) w3_ g3_ (by rw [F_]; exact hf) (by rw [P_]; exact hpP) (by rw [e4_, fal_k ff_]; exact h81_) (by rw [e4_, fal_k ff_]; exact h91_) (by rw [e4_, fal_k ff_]; exact v_) s3_ (by omega) m2_ (by omega)
            refine ⟨J_, ?_, fun c hc => (f6_ c hc).trans (fr_ c hc)⟩
            rw [e6_, nds2_, c1_]
            by_cases k3_ : nd (k - (1 + w / 3)) (1 + w / 3) ≤ 1 + ycnt (Lpas L) p
            · rw [if_pos (Or.inr k3_), if_pos (Or.inr (by omega))]
              congr 3
              omega
            · rw [if_neg (by omega), if_neg (by omega)]
end DRH
