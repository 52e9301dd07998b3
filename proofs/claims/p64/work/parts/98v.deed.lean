/-! counts; pass, hangAll, handOver, wash, put as the law looks at them: by wip/gen/p64/j98v.py -/
theorem qcn_or {A B C : Nat → Prop} [DecidablePred A] [DecidablePred B] [DecidablePred C] : ∀ n, (∀ i, i < n → (C i ↔ (A i ∨ B i)) ∧ ¬ (A i ∧ B i)) → qcn C n = qcn A n + qcn B n
  | 0, _ => rfl
  | n + 1, h => by
    have ih := qcn_or n (fun i hi => h i (by omega))
    obtain ⟨h1, h2⟩ := h n (by omega)
    show qcn C n + (if C n then 1 else 0) = (qcn A n + (if A n then 1 else 0)) + (qcn B n + (if B n then 1 else 0))
    by_cases a : A n
    · rw [if_pos (h1.mpr (Or.inl a)), if_pos a, if_neg (fun b => h2 ⟨a, b⟩)]; omega
    · by_cases b : B n
      · rw [if_pos (h1.mpr (Or.inr b)), if_neg a, if_pos b]; omega
      · rw [if_neg (fun c => (h1.mp c).elim a b), if_neg a, if_neg b]; omega
/-! pass -/
theorem Pm_fal {L : LL} (h : PmL L) (g : qG L) {f : Nat} (h8 : qf L f 8 = jn 2) : PmL (Lfal L f) := by
  have k03 : ¬ jn 0 = jn 3 := by decide
  have k23 : ¬ jn 2 = jn 3 := by decide
  have e : ∀ a j, ¬ j = 3 → ¬ j = 8 → ¬ j = 9 → qf (Lfal L f) a j = qf L a j := fun a j h3 h8 h9 => by
    show qf (lf (Lmv L f (jn 0) (jg 1)) f 3 _) a j = _
    rw [lf_ne (fun q => h3 q.2), qf_mv (by omega)]
  refine Pm_of h rfl rfl (fun n => ⟨rfl, rfl⟩) ⟨rfl, rfl⟩ (fun a ha => e a 0 (by omega) (by omega) (by omega)) (fun a ha => ?_) (fun a ha => by rw [e a 1 (by omega) (by omega) (by omega), e a 6 (by omega) (by omega) (by omega)]; exact h.1 a ha) (fun a ha z8 => ?_)
  · by_cases q : a = f
    · rw [q, fal_8, h8]
      exact ⟨fun z => absurd z k03, fun z => absurd z k23⟩
    · rw [fal_k q]
  · have hne : ¬ a = f := fun q => by rw [q, h8] at z8; exact k23 z8
    exact ⟨fal_k hne, fal_k hne, fal_k hne, fal_k hne⟩
theorem Ldj_n {L : LL} : ∀ n, qn (jfd Ldst L n) = qn L := by
  intro n
  induction n with
  | zero => rfl
  | succ n ih =>
    have k9 : ∀ (i : Nat) (X : LL), qn (Ldst i X) = qn X := fun i X => by
      unfold Ldst
      by_cases q : qf X i 8 = jn 2
      · rw [if_pos q]; rfl
      · rw [if_neg q]
    rw [jfd_s, k9]
    exact ih
theorem Pm_dry {L : LL} (h : PmL L) (g : qG L) : PmL (Ldry L) := by
  have k23 : ¬ jn 2 = jn 3 := by decide
  refine Pm_of h dry_F (congrArg (fun q => q.2.2.1) (Ldj_F (L := L) (qF L))) (fun n => ⟨congrFun (congrFun (Ldj_n (qF L)) n) 1, congrFun (congrFun (Ldj_n (qF L)) n) 3⟩) ⟨dry_s 2, dry_s 3⟩ (fun a ha => dry_k (by omega)) (fun a ha => by rw [dry_k (by omega)]) (fun a ha => by rw [dry_k (by omega), dry_k (by omega)]; exact h.1 a ha) (fun a ha z8 => ⟨dry_k (by omega), ?_, dry_k (by omega), dry_k (by omega)⟩)
  show qf (jfd Ldst L (qF L)) a 4 = _
  rw [dry_f, if_neg (fun q => by rw [z8] at q; exact k23 q.2.1.symm)]
theorem Pm_lst {L : LL} (h : PmL L) (g : qG L) : PmL (Llst L) := by
  have h1 := g.1
  unfold Llst
  cases e : ylst L with
  | none => exact h
  | some p =>
    obtain ⟨hp, f, hf, e1, e8, -⟩ := ylst_at g e
    show PmL (Lfal L (z_n (qpg L p)))
    rw [e1, jn_n (by omega)]
    exact Pm_fal h g e8
theorem Pm_pas {L : LL} (h : PmL L) (g : qG L) : PmL (Lpas L) := by
  have h1 : PmL (Lfall (Ldry L)) := by
    unfold Lfall
    by_cases q : qs (Ldry L) 1 < jn 7
    · rw [if_pos q]; exact Pm_dry h g
    · rw [if_neg q]; exact Pm_lst (Pm_dry h g) (qG_dry g)
  exact Pm_ls h1 (by omega) (by omega)
theorem Pm_pss {L : LL} (h : PmL L) (g : qG L) : ∀ n, PmL (Lpss L n)
  | 0 => h
  | n + 1 => Pm_pas (Pm_pss h g n) (qG_pss g n)
/-! hangAll -/
theorem hal_k {L : LL} (h : PmL L) (g : qG L) : ∀ m, m ≤ qF L → ∃ c, (Lhal L m).1 = jn c ∧ c ≤ m ∧ qF (Lhal L m).2 = qF L ∧ qP (Lhal L m).2 = qP L ∧ PmL (Lhal L m).2 ∧ qcn (fun f => qf (Lhal L m).2 f 8 = jn 2) (qF L) = qcn (fun f => qf L f 8 = jn 2) (qF L) + c := by
  intro m
  induction m with
  | zero => intro _; exact ⟨0, rfl, Nat.le_refl _, rfl, rfl, h, rfl⟩
  | succ m ih =>
    intro hm
    obtain ⟨c, e1, e2, e3, e4, e5, e6⟩ := ih (by omega)
    rw [show Lhal L (m + 1) = Lhst m (Lhal L m) from rfl]
    generalize Lhal L m = X at e1 e3 e4 e5 e6
    obtain ⟨h9, M⟩ := X
    dsimp only at e1 e3 e4 e5 e6
    unfold Lhst
    dsimp only
    have k02 : ¬ jn 0 = jn 2 := by decide
    have k03 : ¬ jn 0 = jn 3 := by decide
    by_cases hc : ¬ qf M m 4 = jn 0 ∧ qf M m 8 = jn 0 ∧ ¬ yfree M = jg 1
    · rw [if_pos hc]
      refine ⟨c + 1, ?_, by omega, e3, e4, ?_, ?_⟩
      · show h9 + jn 1 = _
        rw [e1, jn_add]
      · obtain ⟨p1, p2, p3, p4⟩ := e5
        exact Pm_mv ⟨p1, p2, p3, p4⟩ (f := m) (w := jn 2) (y := yfree M) (by rw [hc.2.1]; exact k03) (by decide)
      · show qcn (fun f => qf (Lmv M m (jn 2) (yfree M)) f 8 = jn 2) (qF L) = _
        rw [qcn_1 (P := fun f => qf (Lmv M m (jn 2) (yfree M)) f 8 = jn 2) (R := fun f => qf M f 8 = jn 2) (a := m) qf_mv8 (by rw [hc.2.1]; exact k02) (by omega) (fun i hi hn => by rw [qf_mv (fun q => hn q.1)]), e6]
        omega
    · rw [if_neg hc]
      exact ⟨c, e1, by omega, e3, e4, e5, e6⟩
/-- no more flags on the line than pegs -/
theorem line_le {M : LL} (g : qG M) : qcn (fun f => qf M f 8 = jn 2) (qF M) ≤ qP M := by
  have g5 := g.2.2.2.2.1
  have k : ∀ p, p ≤ qP M → qcn (fun f => qf M f 8 = jn 2 ∧ z_n (qf M f 9) < p) (qF M) ≤ p := by
    intro p
    induction p with
    | zero => intro _; rw [qcn_no (fun i hi q => Nat.not_lt_zero _ q.2)]; exact Nat.le_refl _
    | succ p ih =>
      intro hp
      have ih := ih (by omega)
      by_cases ex : ∃ a, a < qF M ∧ qf M a 8 = jn 2 ∧ z_n (qf M a 9) = p
      · obtain ⟨a, a1, a2, a3⟩ := ex
        have k1 := qcn_1 (P := fun f => qf M f 8 = jn 2 ∧ z_n (qf M f 9) < p + 1) (R := fun f => qf M f 8 = jn 2 ∧ z_n (qf M f 9) < p) (a := a) ⟨a2, by omega⟩ (fun q => by have := q.2; omega) a1 (fun i hi hn => by
          constructor
          · intro q
            refine ⟨q.1, ?_⟩
            rcases Nat.lt_or_ge (z_n (qf M i 9)) p with w | w
            · exact w
            · have e : z_n (qf M i 9) = p := by have := q.2; omega
              obtain ⟨p1, b1, b2⟩ := line_p g hi q.1
              obtain ⟨p2, c1, c2⟩ := line_p g a1 a2
              rw [b2, jn_n (by omega)] at e
              rw [c2, jn_n (by omega)] at a3
              exact absurd (g.2.2.2.2.2.2.2.2.2 i a hi a1 q.1 a2 (by rw [b2, c2, e, a3])) hn
          · intro q; exact ⟨q.1, by have := q.2; omega⟩)
        omega
      · have k1 : qcn (fun f => qf M f 8 = jn 2 ∧ z_n (qf M f 9) < p + 1) (qF M) = qcn (fun f => qf M f 8 = jn 2 ∧ z_n (qf M f 9) < p) (qF M) := qcn_cg (fun i hi => by
          constructor
          · intro q
            refine ⟨q.1, ?_⟩
            rcases Nat.lt_or_ge (z_n (qf M i 9)) p with w | w
            · exact w
            · exact absurd ⟨i, hi, q.1, by have := q.2; omega⟩ ex
          · intro q; exact ⟨q.1, by have := q.2; omega⟩)
        omega
  have k2 := k (qP M) (Nat.le_refl _)
  rw [qcn_cg (P := fun f => qf M f 8 = jn 2) (R := fun f => qf M f 8 = jn 2 ∧ z_n (qf M f 9) < qP M) (fun i hi => by
    constructor
    · intro q
      obtain ⟨p1, b1, b2⟩ := line_p g hi q
      exact ⟨q, by rw [b2, jn_n (by omega)]; exact b1⟩
    · exact fun q => q.1)]
  exact k2
/-! wash -/
theorem wsh_cnt {L : LL} (g : qG L) {t : Nat} (ht : t < qT L) {x : Int32} : qcn (fun f => qf (Lwsh L t x) f 8 = jn 0) (qF L) = qcn (fun f => qf L f 8 = jn 0) (qF L) + (qt L t).length := by
  have k10 : ¬ jn 1 = jn 0 := by decide
  obtain ⟨⟨mm, m1, m2, m3⟩, -, hm⟩ := g.2.2.2.2.2.2.2.1 t ht
  have h1 := g.1
  have e : qcn (fun f => qf L f 8 = jn 1 ∧ qf L f 9 = jn t) (qF L) = (qt L t).length := by
    have k := qct_tub g ht
    rw [qct_n] at k
    have k2 := qcn_le (P := fun f => qf L f 8 = jn 1 ∧ qf L f 9 = jn t) (n := qF L)
    rw [jn_eq (by omega) (by omega)] at k
    exact k
  rw [← e]
  refine qcn_or (qF L) (fun i hi => ?_)
  rw [wsh_8]
  by_cases q : i ∈ qt L t
  · have q2 := (hm i).mp q
    rw [if_pos q]
    exact ⟨⟨fun _ => Or.inr ⟨q2.2.1, q2.2.2⟩, fun _ => rfl⟩, fun z => by rw [q2.2.1] at z; exact k10 z.1⟩
  · rw [if_neg q]
    have q2 : ¬ (qf L i 8 = jn 1 ∧ qf L i 9 = jn t) := fun z => q ((hm i).mpr ⟨hi, z.1, z.2⟩)
    exact ⟨⟨fun z => Or.inl z, fun z => z.elim (fun z => z) (fun z => absurd z q2)⟩, fun z => q2 z.2⟩
theorem wsh_t {L : LL} {t : Nat} {x : Int32} : qt (Lwsh L t x) t = [] := lt_at
/-! put -/
theorem put_in {L : LL} (g : qG L) {f t : Nat} (ht : t < qT L) : yin (Lput L f t) t (jn (qt L t).length) = jn f := by
  obtain ⟨⟨mm, m1, m2, m3⟩, -, hm⟩ := g.2.2.2.2.2.2.2.1 t ht
  unfold yin
  rw [qt_put, if_pos (by rw [jn_in (by omega), List.length_append]; show (qt L t).length < (qt L t).length + 1; omega), jn_n (by omega), List.getElem?_append_right (Nat.le_refl _), Nat.sub_self]
  rfl
theorem put_why {L : LL} {f t : Nat} : ywhy (ybs (Lput L f t) f) = jn 2 := by
  unfold ybs
  rw [qf_put8]
  rfl
/-! bleach -/
theorem stc_1 : ∀ (C : Fin 7) (k : Fin 64), k.val < 2 ^ C.val → ¬ k.val = 0 → ¬ jfd (fun c a => a + (if (jn k.val >>> (jn c &&& 31)) &&& jn 1 = jn 1 then jn 1 else jn 0)) (jn 0) C.val < jn 1 := by decide +kernel
theorem ble_1 {L : LL} (g : qG L) {f : Nat} (hf : f < qF L) (h6 : ¬ qf L f 6 = jn 0) : ¬ ystc L f < jn 1 := by
  have g2 := g.2.1
  obtain ⟨k, hk, e⟩ := (g.2.2.2.2.2.1 f hf).2.2.2.2.2.2.1
  have p6 : 2 ^ qC L ≤ 2 ^ 6 := Nat.pow_le_pow_right (by omega) g2
  unfold ystc
  rw [e]
  exact stc_1 ⟨qC L, by omega⟩ ⟨k, by omega⟩ hk (fun q => h6 (by rw [e]; exact congrArg jn q))
/-! handOver -/
theorem cul_r {L : LL} (g : qG L) {n : Nat} (h : ycul L n = jg 1) : ∀ f, f < qF L → qf L f 0 = jn n → ywhy (ybs L f) = jn 0 := fun f hf e => by
  have h1 := g.1
  by_cases w0 : ywhy (ybs L f) = jn 0
  · exact w0
  · exfalso
    have k : qk (fun f => qf L f 0 = jn n ∧ ¬ ywhy (ybs L f) = jn 0) (qF L) < qF L := by
      rcases Nat.lt_or_ge (qk (fun f => qf L f 0 = jn n ∧ ¬ ywhy (ybs L f) = jn 0) (qF L)) (qF L) with q | q
      · exact q
      · exact absurd ⟨e, w0⟩ (qk_lt (P := fun f => qf L f 0 = jn n ∧ ¬ ywhy (ybs L f) = jn 0) (n := qF L) (by omega))
    unfold ycul at h
    rw [if_pos k, jn_ng (by omega) (by omega) (by omega)] at h
    exact h
theorem rdy_all {L : LL} (g : qG L) {n : Nat} (h : ycul L n = jg 1) : qct (fun f => qf L f 0 = jn n ∧ ywhy (ybs L f) = jn 0) (qF L) = yof L n :=
  qct_congr (fun i hi => ⟨fun q => q.1, fun q => ⟨q, cul_r g h i hi q⟩⟩)
theorem why_0 {L : LL} (g : qG L) {f : Nat} (hf : f < qF L) (h : ywhy (ybs L f) = jn 0) : qf L f 3 = jn 0 ∧ qf L f 4 = jn 0 ∧ qf L f 5 = jn 0 ∧ qf L f 6 = jn 0 := by
  obtain ⟨-, -, -, ⟨a3, b3, e3⟩, ⟨a4, b4, e4⟩, ⟨a5, b5, e5⟩, -⟩ := g.2.2.2.2.2.1 f hf
  unfold ywhy ybs at h
  dsimp only at h
  have d1 : ¬ jn 1 = jn 0 := by decide
  have d2 : ¬ jn 2 = jn 0 := by decide
  have d3 : ¬ jn 3 = jn 0 := by decide
  have d4 : ¬ jn 4 = jn 0 := by decide
  have d5 : ¬ jn 5 = jn 0 := by decide
  have d6 : ¬ jn 6 = jn 0 := by decide
  have d7 : ¬ jn 7 = jn 0 := by decide
  simp only [decide_eq_true_eq] at h
  by_cases c1 : qf L f 8 = jn 3
  · rw [if_pos c1] at h; exact absurd h d1
  rw [if_neg c1] at h
  by_cases c2 : qf L f 8 = jn 1
  · rw [if_pos c2] at h; exact absurd h d2
  rw [if_neg c2] at h
  by_cases c3 : qf L f 8 = jn 2
  · rw [if_pos c3] at h; exact absurd h d3
  rw [if_neg c3] at h
  by_cases c4 : jn 0 < qf L f 3
  · rw [if_pos c4] at h; exact absurd h d4
  rw [if_neg c4] at h
  by_cases c5 : qf L f 6 = jn 0
  · rw [if_neg (fun q => q c5)] at h
    by_cases c6 : jn 0 < qf L f 4
    · rw [if_pos c6] at h; exact absurd h d6
    rw [if_neg c6] at h
    by_cases c7 : jn 0 < qf L f 5
    · rw [if_pos c7] at h; exact absurd h d7
    rw [e3, jn_lt (by omega) (by omega)] at c4
    rw [e4, jn_lt (by omega) (by omega)] at c6
    rw [e5, jn_lt (by omega) (by omega)] at c7
    exact ⟨by rw [e3, show a3 = 0 by omega], by rw [e4, show a4 = 0 by omega], by rw [e5, show a5 = 0 by omega], c5⟩
  · rw [if_pos c5] at h; exact absurd h d5
theorem hov_sum {L : LL} {n : Nat} (hn9 : n < 100) (h0 : ∀ f, f < qF L → qf L f 0 = jn n → qf L f 8 = jn 0) : ∀ m, m ≤ qF L → jfd (fun i a => a + (if qf (Lhov L n) i 8 = jn 3 then qn (Lhov L n) (z_n (qf (Lhov L n) i 0)) 1 else jn 0)) (jn 0) m = jfd (fun i a => a + (if qf L i 8 = jn 3 then qn L (z_n (qf L i 0)) 1 else jn 0)) (jn 0) m + qn L n 1 * jn (qcn (fun f => qf L f 0 = jn n) m) := by
  have k03 : ¬ jn 0 = jn 3 := by decide
  have qn1 : ∀ j, qn (Lhov L n) j 1 = qn L j 1 := fun j => by
    show (if j = n ∧ (1 : Nat) = 4 then _ else if j = n ∧ (1 : Nat) = 3 then _ else qn L j 1) = _
    rw [if_neg (by omega), if_neg (by omega)]
  intro m
  induction m with
  | zero =>
    intro _
    show jn 0 = jn 0 + qn L n 1 * jn 0
    rw [show qn L n 1 * jn 0 = jn 0 from Int32.mul_zero]
    rfl
  | succ m ih =>
    intro hm
    rw [jfd_s, jfd_s, ih (by omega)]
    rw [hov_k (a := m) (k := 0) (by omega) (by omega), qn1]
    show _ = _ + qn L n 1 * jn (qcn (fun f => qf L f 0 = jn n) m + (if qf L m 0 = jn n then 1 else 0))
    generalize jfd (fun i a => a + (if qf L i 8 = jn 3 then qn L (z_n (qf L i 0)) 1 else jn 0)) (jn 0) m = X
    generalize qcn (fun f => qf L f 0 = jn n) m = c
    by_cases q : qf L m 0 = jn n
    · rw [hov_in q, if_pos rfl, if_pos rfl, h0 m (by omega) q, if_neg k03, if_pos q, q, ← jn_add, Int32.mul_add]
      have hn : z_n (jn n) = n := jn_n (by omega)
      rw [hn, show qn L n 1 * jn 1 = qn L n 1 from Int32.mul_one _]
      rw [show X + jn 0 = X from Int32.add_zero X, Int32.add_assoc]
    · rw [hov_out q, if_neg q]
      show (X + qn L n 1 * jn c) + (if qf L m 8 = jn 3 then qn L (z_n (qf L m 0)) 1 else jn 0) = (X + (if qf L m 8 = jn 3 then qn L (z_n (qf L m 0)) 1 else jn 0)) + qn L n 1 * jn c
      rw [Int32.add_assoc, Int32.add_comm (qn L n 1 * jn c), ← Int32.add_assoc]
theorem Pm_hov {L : LL} (h : PmL L) (g : qG L) {n : Nat} (hn : n < qN L) (hh : ¬ qn L n 3 = jn 1) (hc : ycul L n = jg 1) : PmL (Lhov L n) := by
  have g4 := g.2.2.1
  have h0 := hov_0 g hc
  have k03 : ¬ jn 0 = jn 3 := by decide
  have qn1 : ∀ j, qn (Lhov L n) j 1 = qn L j 1 := fun j => by
    show (if j = n ∧ (1 : Nat) = 4 then _ else if j = n ∧ (1 : Nat) = 3 then _ else qn L j 1) = _
    rw [if_neg (by omega), if_neg (by omega)]
  have qn3 : ∀ j, qn (Lhov L n) j 3 = if j = n then jn 1 else qn L j 3 := fun j => by
    show (if j = n ∧ (3 : Nat) = 4 then _ else if j = n ∧ (3 : Nat) = 3 then jn 1 else qn L j 3) = _
    rw [if_neg (by omega)]
    by_cases q : j = n
    · rw [if_pos ⟨q, rfl⟩, if_pos q]
    · rw [if_neg (fun z => q z.1), if_neg q]
  obtain ⟨h1, h2, h3, h4⟩ := h
  have eF : qF (Lhov L n) = qF L := rfl
  refine ⟨fun f hf => ?_, fun f hf h8 => ?_, ?_, fun f hf h8 => ?_⟩
  · rw [hov_k (by omega) (by omega), hov_k (by omega) (by omega)]
    exact h1 f hf
  · rw [hov_k (by omega) (by omega), hov_k (by omega) (by omega), hov_k (by omega) (by omega), hov_k (by omega) (by omega)]
    by_cases q : qf L f 0 = jn n
    · exact why_0 g hf (cul_r g hc f hf q)
    · rw [hov_out q] at h8
      exact h2 f hf h8
  · have hs := hov_sum (L := L) (n := n) (by omega) h0 (qF L) (Nat.le_refl _)
    show (qs L 2 + ypd L n) + (qs L 3 + ((qn L n 1 * yof L n) - ypd L n)) = _
    have e2 : yshr (Lhov L n) = yshr L + qn L n 1 * yof L n := by
      unfold yshr yof
      rw [qct_n, eF]
      exact hs
    rw [e2, ← h3]
    generalize ypd L n = x
    generalize qn L n 1 * yof L n = y
    rw [Int32.add_assoc, Int32.add_assoc]
    refine congrArg (fun z => qs L 2 + z) ?_
    rw [← Int32.add_assoc, Int32.add_comm x, Int32.add_assoc]
    refine congrArg (fun z => qs L 3 + z) ?_
    rw [Int32.add_comm, Int32.sub_add_cancel]
  · rw [hov_k (by omega) (by omega)]
    by_cases q : qf L f 0 = jn n
    · exact ⟨n, hn, q, by rw [qn3, if_pos rfl]⟩
    · rw [hov_out q] at h8
      obtain ⟨n2, a1, a2, a3⟩ := h4 f hf h8
      refine ⟨n2, a1, a2, ?_⟩
      rw [qn3]
      by_cases z : n2 = n
      · rw [if_pos z]
      · rw [if_neg z]; exact a3
