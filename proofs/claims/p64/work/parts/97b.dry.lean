/-! when it will be dry: both sides -/
def nd (k d : Nat) : Nat := (k + d - 1) / d
def ycnt (L : LL) (p : Nat) : Nat := qcn (fun q => p < q ∧ ¬ qpg L q = jg 1) 8
theorem qcn_no {P : Nat → Prop} [DecidablePred P] : ∀ {n : Nat}, (∀ i, i < n → ¬ P i) → qcn P n = 0 := by
  intro n
  induction n with
  | zero => intro _; rfl
  | succ n ih_ =>
    intro h_
    show qcn P n + (if P n then 1 else 0) = 0
    rw [ih_ (fun i hi => h_ i (by omega)), if_neg (h_ n (by omega))]
theorem qcn_ps {P : Nat → Prop} [DecidablePred P] {a : Nat} (ha : P a) : ∀ {n : Nat}, a < n → 0 < qcn P n := by
  intro n
  induction n with
  | zero => intro h_; omega
  | succ n ih_ =>
    intro h_
    show 0 < qcn P n + (if P n then 1 else 0)
    by_cases e_ : a = n
    · rw [← e_, if_pos ha]; omega
    · have k_ := ih_ (by omega)
      omega
theorem qcn_cg {P R : Nat → Prop} [DecidablePred P] [DecidablePred R] {n : Nat} : (∀ i, i < n → (P i ↔ R i)) → qcn P n = qcn R n := by
  induction n with
  | zero => intro _; rfl
  | succ n ih_ =>
    intro h_
    show qcn P n + (if P n then 1 else 0) = qcn R n + (if R n then 1 else 0)
    rw [ih_ (fun i hi => h_ i (by omega))]
    have k_ := h_ n (by omega)
    by_cases p_ : P n
    · rw [if_pos p_, if_pos (k_.mp p_)]
    · rw [if_neg p_, if_neg (fun q_ => p_ (k_.mpr q_))]
/-- one less -/
theorem qcn_1 {P R : Nat → Prop} [DecidablePred P] [DecidablePred R] {a : Nat} (ha : P a) (hr : ¬ R a) : ∀ {n : Nat}, a < n → (∀ i, i < n → ¬ i = a → (P i ↔ R i)) → qcn P n = qcn R n + 1 := by
  intro n
  induction n with
  | zero => intro h_; omega
  | succ n ih_ =>
    intro h_ h2_
    show qcn P n + (if P n then 1 else 0) = qcn R n + (if R n then 1 else 0) + 1
    by_cases e_ : a = n
    · rw [qcn_cg (P := P) (R := R) (fun i hi => h2_ i (by omega) (by omega)), if_pos (e_ ▸ ha), if_neg (e_ ▸ hr)]
    · rw [ih_ (by omega) (fun i hi hn => h2_ i (by omega) hn)]
      have k_ := h2_ n (by omega) (fun q_ => e_ q_.symm)
      by_cases p_ : P n
      · rw [if_pos p_, if_pos (k_.mp p_)]
      · rw [if_neg p_, if_neg (fun q_ => p_ (k_.mpr q_))]
theorem qkd_mx {P : Nat → Prop} [DecidablePred P] : ∀ {n k : Nat}, qkd P n = some k → ∀ i, k < i → i < n → ¬ P i := by
  intro n
  induction n with
  | zero => intro k h_; cases h_
  | succ n ih_ =>
    intro k h_ i hi hn
    unfold qkd at h_
    by_cases p_ : P n
    · rw [if_pos p_] at h_
      have k_ : n = k := Option.some.inj h_
      omega
    · rw [if_neg p_] at h_
      by_cases e_ : i = n
      · rw [e_]; exact p_
      · exact ih_ h_ i hi (by omega)
theorem qkd_non {P : Nat → Prop} [DecidablePred P] : ∀ {n : Nat}, qkd P n = none → ∀ i, i < n → ¬ P i := by
  intro n
  induction n with
  | zero => intro _ i hi; omega
  | succ n ih_ =>
    intro h_ i hi
    unfold qkd at h_
    by_cases p_ : P n
    · rw [if_pos p_] at h_
      cases h_
    · rw [if_neg p_] at h_
      by_cases e_ : i = n
      · rw [e_]; exact p_
      · exact ih_ h_ i (by omega)
/-! one hour, as a flag on the line sees it -/
theorem dry_f {L : LL} : ∀ (n g k : Nat), qf (jfd Ldst L n) g k = if g < n ∧ qf L g 8 = jn 2 ∧ k = 4 then ydr L g else qf L g k := by
  intro n
  induction n with
  | zero =>
    intro g k
    rw [if_neg (fun q_ => absurd q_.1 (Nat.not_lt_zero _))]
    rfl
  | succ n ih_ =>
    intro g k
    rw [jfd_s]
    have s_ := Ldj_s (L := L) 1 n
    have w_ : qf (jfd Ldst L n) n 8 = qf L n 8 := by rw [ih_, if_neg (by omega)]
    have w4_ : qf (jfd Ldst L n) n 4 = qf L n 4 := by rw [ih_, if_neg (by omega)]
    have y_ : ydr (jfd Ldst L n) n = ydr L n := by
      unfold ydr
      rw [s_, w4_]
    show qf (if qf (jfd Ldst L n) n 8 = jn 2 then lf (jfd Ldst L n) n 4 (ydr (jfd Ldst L n) n) else jfd Ldst L n) g k = _
    by_cases h8_ : qf L n 8 = jn 2
    · rw [if_pos (w_.trans h8_), y_]
      by_cases e_ : g = n ∧ k = 4
      · rw [e_.1, e_.2, lf_at, if_pos ⟨by omega, h8_, rfl⟩]
      · rw [lf_ne e_]
        have k_ := ih_ g k
        rw [k_]
        by_cases c_ : g < n ∧ qf L g 8 = jn 2 ∧ k = 4
        · rw [if_pos c_, if_pos ⟨by omega, c_.2⟩]
        · rw [if_neg c_, if_neg (fun q_ => c_ ⟨by omega, q_.2⟩)]
    · rw [if_neg (fun q_ => h8_ (w_.symm.trans q_))]
      have k_ := ih_ g k
      rw [k_]
      by_cases c_ : g < n ∧ qf L g 8 = jn 2 ∧ k = 4
      · rw [if_pos c_, if_pos ⟨by omega, c_.2⟩]
      · rw [if_neg c_, if_neg (fun q_ => c_ ⟨by
          by_cases e_ : g = n
          · exact absurd (e_ ▸ q_.2.1) h8_
          · omega, q_.2⟩)]
theorem dry_k {L : LL} {g k : Nat} (h : ¬ k = 4) : qf (Ldry L) g k = qf L g k := by
  unfold Ldry
  rw [dry_f, if_neg (fun q_ => h q_.2.2)]
theorem dry_4 {L : LL} {g : Nat} (hg : g < qF L) (h : qf L g 8 = jn 2) : qf (Ldry L) g 4 = ydr L g := by
  unfold Ldry
  rw [dry_f, if_pos ⟨hg, h, rfl⟩]
theorem dry_s {L : LL} (k : Nat) : qs (Ldry L) k = qs L k := Ldj_s k (qF L)
theorem dry_F {L : LL} : qF (Ldry L) = qF L := Ldj_q (qF L)
theorem dry_P {L : LL} : qP (Ldry L) = qP L := congrArg (fun q => q.2.2.2.2) (Ldj_F (L := L) (qF L))
theorem dry_pg {L : LL} (p : Nat) : qpg (Ldry L) p = qpg L p := qpg_cg dry_F (fun i _ => by rw [dry_k (by omega), dry_k (by omega)])
theorem ydr_nd : ∀ (a b : Fin 10), z_mx (jn 0) (jn a.val - (jn 1 + jn b.val / jn 3)) = jn (a.val - (1 + b.val / 3)) := by decide +kernel
theorem nd_0 : ∀ w : Fin 10, nd 0 (1 + w.val / 3) = 0 := by decide +kernel
theorem nd_1 : ∀ (k w : Fin 10), 0 < k.val → k.val - (1 + w.val / 3) = 0 → nd k.val (1 + w.val / 3) = 1 := by decide +kernel
theorem nd_s : ∀ (k w : Fin 10), ¬ k.val - (1 + w.val / 3) = 0 → nd k.val (1 + w.val / 3) = nd (k.val - (1 + w.val / 3)) (1 + w.val / 3) + 1 ∧ 0 < nd (k.val - (1 + w.val / 3)) (1 + w.val / 3) := by decide +kernel
theorem nd_le : ∀ (k w : Fin 10), nd k.val (1 + w.val / 3) ≤ k.val := by decide +kernel
/-- the last flag falls: what is left -/
theorem lst_s {L : LL} {k : Nat} (h : ¬ k = 5) : qs (Llst L) k = qs L k := by
  unfold Llst
  cases e_ : ylst L with
  | none => rfl
  | some q => exact ls_ne h
theorem lst_F {L : LL} : qF (Llst L) = qF L := by
  unfold Llst
  cases e_ : ylst L with
  | none => rfl
  | some q => rfl
theorem lst_P {L : LL} : qP (Llst L) = qP L := by
  unfold Llst
  cases e_ : ylst L with
  | none => rfl
  | some q => rfl
theorem lst_at {L : LL} (g : qG L) {f p : Nat} (hf : f < qF L) (h8 : qf L f 8 = jn 2) (h9 : qf L f 9 = jn p) (hp : p < qP L) : ∃ q f2, ylst L = some q ∧ p ≤ q ∧ q < qP L ∧ f2 < qF L ∧ qpg L q = jn f2 ∧ qf L f2 8 = jn 2 ∧ qf L f2 9 = jn q ∧ Llst L = Lfal L f2 := by
  have h1_ := g.1
  have u_ : ¬ qpg L p = jg 1 := by
    rw [qpg_of g hf h8 h9, jn_ng (by omega) (by omega) (by omega)]
    exact fun q_ => q_
  cases e_ : ylst L with
  | none => exact absurd u_ (qkd_non (P := fun p => ¬ qpg L p = jg 1) e_ p hp)
  | some q =>
    obtain ⟨hq_, f2_, hf2_, e2_, k8_, k9_⟩ := ylst_at g e_
    refine ⟨q, f2_, rfl, ?_, hq_, hf2_, e2_, k8_, k9_, ?_⟩
    · rcases Nat.lt_or_ge q p with w_ | w_
      · exact absurd u_ (qkd_mx (P := fun p => ¬ qpg L p = jg 1) e_ p w_ hp)
      · exact w_
    · unfold Llst
      rw [e_]
      show Lfal L (z_n (qpg L q)) = _
      rw [e2_, jn_n (by omega)]
theorem fal_k {L : LL} {f a k : Nat} (h : ¬ a = f) : qf (Lfal L f) a k = qf L a k := by
  show qf (lf (Lmv L f (jn 0) (jg 1)) f 3 _) a k = _
  rw [lf_ne (fun q_ => h q_.1), qf_mv (fun q_ => h q_.1)]
theorem fal_8 {L : LL} {f : Nat} : qf (Lfal L f) f 8 = jn 0 := by
  show qf (lf (Lmv L f (jn 0) (jg 1)) f 3 _) f 8 = _
  rw [lf_ne (by omega), qf_mv8]
theorem fal_pg {L : LL} (g : qG L) {f q : Nat} (hf : f < qF L) (h8 : qf L f 8 = jn 2) (h9 : qf L f 9 = jn q) (hq : q < 8) {p : Nat} (hp : p < 8) : qpg (Lfal L f) p = if p = q then jg 1 else qpg L p := by
  have n02_ : ¬ jn 0 = jn 2 := by decide
  have n21_ : ¬ jn 2 = jn 1 := by decide
  have g2_ : qG (Lmv L f (jn 0) (jg 1)) := qG_mv g hf (by rw [h8]; exact n21_) (Or.inl ⟨rfl, rfl⟩)
  show qpg (lf (Lmv L f (jn 0) (jg 1)) f 3 (z_mn (jn 9) (qf L f 3 + jn 1))) p = _
  rw [qpg_f (by omega)]
  by_cases e_ : p = q
  · rw [if_pos e_, e_, qpg_mv3 g g2_ hf (fun q_ => n02_ q_.1) h8 h9]
  · rw [if_neg e_, qpg_mv2 (fun q_ => n02_ q_.1) (fun q_ => e_ ?_)]
    have k_ := q_.2
    rw [h9, jn_eq (by omega) (by omega)] at k_
    exact k_.symm
/-! the reference's hours, from any hour on -/
