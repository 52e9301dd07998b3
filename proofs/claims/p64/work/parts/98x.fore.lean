/-! what the class foretells and the deed that comes: best heat, first safe flag, drying, irons -/
theorem bh_in {L : LL} {t : Nat} : ∀ m, ∃ k, k ≤ m ∧ jfd (yhst L t) (jn 0) m = jn k
  | 0 => ⟨0, Nat.le_refl _, rfl⟩
  | m + 1 => by
    obtain ⟨k, h1, h2⟩ := bh_in (L := L) (t := t) m
    rw [jfd_s, h2]
    unfold yhst
    by_cases q : ybet L t (jn (m + 1)) (jn k) = true
    · rw [if_pos q]; exact ⟨m + 1, Nat.le_refl _, rfl⟩
    · rw [if_neg q]; exact ⟨k, by omega, rfl⟩
theorem bh_law {L : LL} (g : qG L) {t : Nat} (ht : t < qT L) : ybh L t = jg 1 ∨ ∃ k, k < 4 ∧ ybh L t = jn k ∧ ywash L t (jn k) = jn 0 := by
  unfold ybh
  by_cases q : jn (qt L t).length = jn 0
  · rw [if_pos q]; exact Or.inl rfl
  · rw [if_neg q]
    obtain ⟨c, hc, ec⟩ := ycare_4 g ht
    unfold ybhl
    rw [ec, jn_n (by omega)]
    obtain ⟨k, k1, k2⟩ := bh_in (L := L) (t := t) c
    refine Or.inr ⟨k, by omega, k2, ?_⟩
    unfold ywash
    rw [if_neg q, ec, if_neg (by rw [jn_lt (by omega) (by omega)]; omega)]
theorem safe_law {L : LL} (g : qG L) {t : Nat} (ht : t < qT L) {x : Int32} : ysafe L t x = jg 1 ∨ ∃ f, f < qF L ∧ ysafe L t x = jn f ∧ yput L f t = jn 0 ∧ ywash (Lput L f t) t x = jn 0 ∧ ystn (Lput L f t) t (yrunt (Lput L f t) t x) = jn 0 := by
  unfold ysafe
  by_cases q : qk (fun f => ysb L t x f = true) (qF L) < qF L
  · rw [if_pos q]
    have k := qk_at (P := fun f => ysb L t x f = true) q
    generalize qk (fun f => ysb L t x f = true) (qF L) = f at q k
    rw [ysb_eq] at k
    obtain ⟨k1, k2, k3, k4, k5⟩ := k
    refine Or.inr ⟨f, q, rfl, k1, ?_, ?_⟩
    · rw [put_wash g ht, if_neg (fun z => z.elim k2 k3)]
    · rw [put_runt, put_stn, k5, if_pos k4]; decide
  · rw [if_neg q]; exact Or.inl rfl
/-! drying -/
theorem pss_hd {L : LL} : ∀ n, Lpss L (n + 1) = Lpss (Lpas L) n
  | 0 => rfl
  | n + 1 => by
    show Lpas (Lpss L (n + 1)) = Lpas (Lpss (Lpas L) n)
    rw [pss_hd n]
theorem fal_j {L : LL} {f a j : Nat} (h3 : ¬ j = 3) (h8 : ¬ j = 8) (h9 : ¬ j = 9) : qf (Lfal L f) a j = qf L a j := by
  show qf (lf (Lmv L f (jn 0) (jg 1)) f 3 _) a j = _
  rw [lf_ne (fun q => h3 q.2), qf_mv (by omega)]
theorem lst_j {L : LL} {a j : Nat} (h3 : ¬ j = 3) (h8 : ¬ j = 8) (h9 : ¬ j = 9) : qf (Llst L) a j = qf L a j := by
  unfold Llst
  cases ylst L with
  | none => rfl
  | some p => exact fal_j h3 h8 h9
theorem pas_4 {L : LL} {f : Nat} : qf (Lpas L) f 4 = qf (Ldry L) f 4 := by
  show qf (ls (Lfall (Ldry L)) 0 _) f 4 = _
  unfold Lfall
  by_cases q : qs (Ldry L) 1 < jn 7
  · rw [if_pos q]; rfl
  · rw [if_neg q]; exact lst_j (by omega) (by omega) (by omega)
theorem wet_0 {L : LL} (g : qG L) {f : Nat} (h4 : qf L f 4 = jn 0) : qf (Lpas L) f 4 = jn 0 := by
  rw [pas_4]
  show qf (jfd Ldst L (qF L)) f 4 = _
  rw [dry_f]
  by_cases q : f < qF L ∧ qf L f 8 = jn 2 ∧ 4 = 4
  · rw [if_pos q]
    obtain ⟨v, hv, ev⟩ := g.2.2.2.2.2.2.2.2.1
    unfold ydr
    rw [h4, ev]
    exact (ydr_nd ⟨0, by omega⟩ ⟨v, hv⟩).trans (congrArg jn (Nat.zero_sub _))
  · rw [if_neg q]; exact h4
theorem wet_n {L : LL} (g : qG L) {f : Nat} (h4 : qf L f 4 = jn 0) : ∀ n, qf (Lpss L n) f 4 = jn 0
  | 0 => h4
  | n + 1 => wet_0 (qG_pss g n) (wet_n g h4 n)
theorem nd_z : ∀ k w : Fin 10, nd k.val (1 + w.val / 3) = 0 → k.val = 0 := by decide +kernel
theorem dry_law {f p w : Nat} (hp : p < 8) (hw : w < 10) : ∀ (n k : Nat) (L : LL), k < 10 → qG L → f < qF L → p < qP L → qf L f 8 = jn 2 → qf L f 9 = jn p → qf L f 4 = jn k → qs L 1 = jn w → (w < 7 ∨ nd k (1 + w / 3) ≤ 1 + ycnt L p) → nd k (1 + w / 3) ≤ n → qf (Lpss L n) f 4 = jn 0 := by
  intro n
  induction n with
  | zero =>
    intro k L hk g hf hpP h8 h9 h4 hs hc hn
    have k0 : k = 0 := nd_z ⟨k, hk⟩ ⟨w, hw⟩ (Nat.le_zero.mp hn)
    show qf L f 4 = _
    rw [h4, k0]
  | succ n ih =>
    intro k L hk g hf hpP h8 h9 h4 hs hc hn
    have h5 := g.2.2.2.2.1
    rw [pss_hd]
    have g1 := qG_dry g
    have hf1 : f < qF (Ldry L) := by rw [dry_F]; exact hf
    have v : qf (Ldry L) f 4 = jn (k - (1 + w / 3)) := by
      rw [dry_4 hf h8]
      unfold ydr
      rw [h4, hs]
      exact ydr_nd ⟨k, hk⟩ ⟨w, hw⟩
    by_cases k2 : k - (1 + w / 3) = 0
    · exact wet_n (qG_pas g) (by rw [pas_4, v, k2]) n
    · obtain ⟨nds, ndp⟩ := nd_s ⟨k, hk⟩ ⟨w, hw⟩ k2
      have nds2 : nd k (1 + w / 3) = nd (k - (1 + w / 3)) (1 + w / 3) + 1 := nds
      have ndp2 : 0 < nd (k - (1 + w / 3)) (1 + w / 3) := ndp
      have s3 : qs (Lpas L) 1 = jn w := by rw [pas_s]; exact hs
      have h81 : qf (Ldry L) f 8 = jn 2 := by rw [dry_k (by omega)]; exact h8
      have h91 : qf (Ldry L) f 9 = jn p := by rw [dry_k (by omega)]; exact h9
      by_cases w7 : w < 7
      · have e3 : Lfall (Ldry L) = Ldry L := by
          unfold Lfall
          rw [if_pos (by rw [dry_s, hs, jn_lt (by omega) (by omega)]; exact w7)]
        have e4 : ∀ a c, qf (Lpas L) a c = qf (Ldry L) a c := fun a c => by
          show qf (ls (Lfall (Ldry L)) 0 _) a c = _
          rw [e3]
          rfl
        have e5 : (Lpas L).1 = (Ldry L).1 := by
          show (ls (Lfall (Ldry L)) 0 _).1 = _
          rw [e3]
          rfl
        have F : qF (Lpas L) = qF L := by
          show (Lpas L).1.1 = _
          rw [e5]; exact dry_F
        have P : qP (Lpas L) = qP L := by
          show (Lpas L).1.2.2.2.2 = _
          rw [e5]; exact dry_P
        exact ih (k - (1 + w / 3)) (Lpas L) (by omega) (qG_pas g) (by rw [F]; exact hf) (by rw [P]; exact hpP) (by rw [e4]; exact h81) (by rw [e4]; exact h91) (by rw [e4]; exact v) s3 (Or.inl w7) (by omega)
      · have e3 : Lfall (Ldry L) = Llst (Ldry L) := by
          unfold Lfall
          rw [if_neg (by rw [dry_s, hs, jn_lt (by omega) (by omega)]; exact w7)]
        obtain ⟨q, f2q, l1, l2, l3, l4, l5, l6, l7, l8⟩ := lst_at g1 hf1 h81 h91 (by rw [dry_P]; exact hpP)
        rw [dry_P] at l3
        have e4 : ∀ a c, qf (Lpas L) a c = qf (Lfal (Ldry L) f2q) a c := fun a c => by
          show qf (ls (Lfall (Ldry L)) 0 _) a c = _
          rw [e3, l8]
          rfl
        have e5 : (Lpas L).1 = (Ldry L).1 := by
          show (ls (Lfall (Ldry L)) 0 _).1 = _
          rw [e3, l8]
          rfl
        have F : qF (Lpas L) = qF L := by
          show (Lpas L).1.1 = _
          rw [e5]; exact dry_F
        have P : qP (Lpas L) = qP L := by
          show (Lpas L).1.2.2.2.2 = _
          rw [e5]; exact dry_P
        have pg : ∀ c, c < 8 → qpg (Lpas L) c = if c = q then jg 1 else qpg L c := fun c hc => by
          have k9 : qpg (Lpas L) c = qpg (Lfal (Ldry L) f2q) c := qpg_cg (by rw [F]; exact dry_F.symm) (fun i _ => by rw [e4, e4])
          rw [k9, fal_pg g1 l4 l6 l7 (by omega) hc, dry_pg]
        have uq : ¬ qpg L q = jg 1 := by
          rw [← dry_pg, l5, jn_ng (by omega) (by have k9 := g1.1; omega) (by omega)]
          exact fun z => z
        have c9 : nd k (1 + w / 3) ≤ 1 + ycnt L p := hc.elim (fun z => absurd z w7) (fun z => z)
        by_cases pq : p = q
        · have c0 : ycnt L p = 0 := qcn_no (fun i hi z => by
            have k9 := qkd_mx (P := fun p => ¬ qpg (Ldry L) p = jg 1) l1 i (by omega)
            rw [dry_P] at k9
            rcases Nat.lt_or_ge i (qP L) with y | y
            · exact k9 y (by rw [dry_pg]; exact z.2)
            · exact z.2 (qpg_hi g y (by omega)))
          omega
        · have ff : ¬ f = f2q := fun z => pq (by
            have k9 := l7
            rw [← z, h91, jn_eq (by omega) (by omega)] at k9
            exact k9)
          have c1 : ycnt L p = ycnt (Lpas L) p + 1 := qcn_1 (P := fun r => p < r ∧ ¬ qpg L r = jg 1) (R := fun r => p < r ∧ ¬ qpg (Lpas L) r = jg 1) (a := q) ⟨by omega, uq⟩ (fun z => z.2 (by rw [pg q (by omega), if_pos rfl])) (by omega) (fun i hi hne => by rw [pg i hi, if_neg hne])
          exact ih (k - (1 + w / 3)) (Lpas L) (by omega) (qG_pas g) (by rw [F]; exact hf) (by rw [P]; exact hpP) (by rw [e4, fal_k ff]; exact h81) (by rw [e4, fal_k ff]; exact h91) (by rw [e4, fal_k ff]; exact v) s3 (Or.inr (by omega)) (by omega)
theorem dry_fore {L : LL} (g : qG L) {f w : Nat} (hf : f < qF L) (hw : w < 10) (hs : qs L 1 = jn w) {n : Nat} (hn : n ≤ 50) (h0 : ¬ ydry L f w < jn 0) (h1 : ¬ jn n < ydry L f w) : qf (Lpss L n) f 4 = jn 0 := by
  have e : jg 1 < jn 0 := by decide
  have h5 := g.2.2.2.2.1
  unfold ydry at h0 h1
  by_cases h8 : qf L f 8 = jn 2
  · rw [if_pos h8] at h0 h1
    obtain ⟨p, hp, ep⟩ := line_p g hf h8
    obtain ⟨k, hk, ek⟩ := (g.2.2.2.2.2.1 f hf).2.2.2.2.1
    rw [ep, ek, jn_n (by omega), jn_n (by omega)] at h0 h1
    by_cases c : w < 7 ∨ nd k (1 + w / 3) ≤ 1 + ycnt L p
    · rw [if_pos c] at h1
      have k9 : nd k (1 + w / 3) ≤ k := nd_le ⟨k, hk⟩ ⟨w, hw⟩
      exact dry_law (by omega) hw n k L hk g hf hp h8 ep ek hs c (by rw [jn_lt (by omega) (by omega)] at h1; omega)
    · rw [if_neg c] at h0; exact absurd e h0
  · rw [if_neg h8] at h0; exact absurd e h0
/-! irons -/
/-- crease and wet, ironed n times with heat x -/
def itr (x : Nat) (p : Nat × Nat) : Nat → Nat × Nat
  | 0 => p
  | n + 1 => ((itr x p n).1 - 1 - x - (if 0 < (itr x p n).2 then 1 else 0), (itr x p n).2 - x)
theorem itr_n : ∀ (c w : Fin 10) (x : Fin 4), ∃ r : Fin 10, ((z_it (d_G_ironsUntilSmooth_4 (jn x.val)) z_F (jn 0, jn c.val, jn w.val)).map (fun q => q.1)) = some (jn r.val) ∧ (∀ i : Fin 10, i.val < r.val → ¬ (itr x.val (c.val, w.val) i.val).1 = 0) ∧ (itr x.val (c.val, w.val) r.val).1 = 0 := by decide +kernel
theorem itr_s : ∀ (c w : Fin 10) (x : Fin 4), z_mx (jn 0) (((jn c.val - jn 1) - jn x.val) - (if jn 0 < jn w.val then jn 1 else jn 0)) = jn (c.val - 1 - x.val - (if 0 < w.val then 1 else 0)) ∧ z_mx (jn 0) (jn w.val - jn x.val) = jn (w.val - x.val) := by decide +kernel
theorem itr_le {x : Nat} {p : Nat × Nat} : ∀ n, (itr x p n).1 ≤ p.1 ∧ (itr x p n).2 ≤ p.2
  | 0 => ⟨Nat.le_refl _, Nat.le_refl _⟩
  | n + 1 => by
    have k := itr_le (x := x) (p := p) n
    show (itr x p n).1 - 1 - x - (if 0 < (itr x p n).2 then 1 else 0) ≤ _ ∧ (itr x p n).2 - x ≤ _
    omega
/-- the laundry ironed n times -/
def Lirn (L : LL) (f x : Nat) : Nat → LL
  | 0 => L
  | n + 1 => Liron (Lirn L f x n) f (jn x)
theorem irn_f {L : LL} {f x : Nat} : ∀ n a j, ¬ (a = f ∧ (j = 4 ∨ j = 5)) → qf (Lirn L f x n) a j = qf L a j
  | 0, _, _, _ => rfl
  | n + 1, a, j, h => by
    show qf (lf (lf (Lirn L f x n) f 5 _) f 4 _) a j = _
    rw [lf_ne (fun q => h ⟨q.1, Or.inl q.2⟩), lf_ne (fun q => h ⟨q.1, Or.inr q.2⟩)]
    exact irn_f n a j h
theorem irn_e {L : LL} {f x : Nat} : ∀ n, (Lirn L f x n).1 = L.1
  | 0 => rfl
  | n + 1 => irn_e n
theorem irn_cw {L : LL} {f x c w : Nat} (hx : x < 4) (hc : c < 10) (hw : w < 10) (h5 : qf L f 5 = jn c) (h4 : qf L f 4 = jn w) : ∀ n, qf (Lirn L f x n) f 5 = jn (itr x (c, w) n).1 ∧ qf (Lirn L f x n) f 4 = jn (itr x (c, w) n).2
  | 0 => ⟨h5, h4⟩
  | n + 1 => by
    obtain ⟨e5, e4⟩ := irn_cw hx hc hw h5 h4 n
    have k := itr_le (x := x) (p := (c, w)) n
    dsimp only at k
    obtain ⟨s5, s4⟩ := itr_s ⟨(itr x (c, w) n).1, by omega⟩ ⟨(itr x (c, w) n).2, by omega⟩ ⟨x, hx⟩
    constructor
    · show qf (lf (lf (Lirn L f x n) f 5 (ycr (Lirn L f x n) f (jn x))) f 4 _) f 5 = _
      rw [lf_ne (by omega), lf_at]
      unfold ycr
      rw [e5, e4]
      exact s5
    · show qf (lf (lf (Lirn L f x n) f 5 _) f 4 (ywe (Lirn L f x n) f (jn x))) f 4 = _
      rw [lf_at]
      unfold ywe
      rw [e4]
      exact s4
theorem irn_why {L : LL} (g : qG L) {f x : Nat} (hf : f < qF L) (hx : x < 4) (y : yiron L f (jn x) = jn 0) (n : Nat) : yiron (Lirn L f x n) f (jn x) = jn 0 := by
  obtain ⟨w, hw, ew⟩ := (g.2.2.2.2.2.1 f hf).2.2.2.2.1
  obtain ⟨c, hc, ec⟩ := (g.2.2.2.2.2.1 f hf).2.2.2.2.2.1
  obtain ⟨-, e4⟩ := irn_cw hx hc hw ec ew n
  have k := itr_le (x := x) (p := (c, w)) n
  dsimp only at k
  have n1 : ¬ jn 1 = jn 0 := by decide
  have n2 : ¬ jn 2 = jn 0 := by decide
  have n3 : ¬ jn 3 = jn 0 := by decide
  have n4 : ¬ jn 4 = jn 0 := by decide
  unfold yiron at y ⊢
  rw [irn_f n f 8 (by omega), irn_f n f 2 (by omega), irn_f n f 6 (by omega), e4]
  by_cases h8 : qf L f 8 = jn 0
  · rw [if_pos h8] at y ⊢
    by_cases h2 : qf L f 2 < jn x
    · rw [if_pos h2] at y; exact absurd y n2
    · rw [if_neg h2] at y ⊢
      by_cases h3 : jn 3 < qf L f 4
      · rw [if_pos h3] at y; exact absurd y n3
      · rw [if_neg h3] at y
        rw [ew, jn_lt (by omega) (by omega)] at h3
        rw [if_neg (by rw [jn_lt (by omega) (by omega)]; omega)]
        exact y
  · rw [if_neg h8] at y; exact absurd y n1
theorem irn_G {L : LL} (g : qG L) {f x : Nat} (hf : f < qF L) (hx : x < 4) : ∀ n, qG (Lirn L f x n)
  | 0 => g
  | n + 1 => qG_iron (irn_G g hf hx n) (by rw [show qF (Lirn L f x n) = qF L from congrArg (fun q => q.1) (irn_e n)]; exact hf) ⟨x, hx, rfl⟩
theorem cr_ironsFor {n : Nat} {L : LL} {U : List LL} {V : Nat → Option LL} {I : z_H} (h : cIv n L U V I) {f : Nat} (hf : f < qF L) {x : Nat} (hx : x < 4) : ∃ r, d_F_ironsFor n (jn f) (jn x) I = some (.inr r) ∧ (yiron L f (jn x) = jn 0 → ∃ m, r = jn m ∧ m < 10 ∧ (∀ i, i < m → ¬ qf (Lirn L f x i) f 5 = jn 0) ∧ qf (Lirn L f x m) f 5 = jn 0) := by
  obtain ⟨hn_, a_, g, _, _, S_, _, _⟩ := h
  have F_ := g.1
  have hx2_ := jltj hf
  have hy_ : hOk (jn x) := ⟨by rw [jn_lt (by omega) (by omega)]; omega, by rw [jn_lt (by omega) (by omega)]; omega⟩
  by_cases y : yiron L f (jn x) = jn 0
  · obtain ⟨w, hw, ew⟩ := (g.2.2.2.2.2.1 f hf).2.2.2.2.1
    obtain ⟨c, hc, ec⟩ := (g.2.2.2.2.2.1 f hf).2.2.2.2.2.1
    obtain ⟨r, e1, e2, e3⟩ := itr_n ⟨c, hc⟩ ⟨w, hw⟩ ⟨x, hx⟩
    dsimp only at e1 e2 e3
    have c5 : I (n + 7 + 2 + f) 5 = jn c := (sq_f S_ hf (by omega)).trans ec
    have c4 : I (n + 7 + 2 + f) 4 = jn w := (sq_f S_ hf (by omega)).trans ew
    cases e : z_it (d_G_ironsUntilSmooth_4 (jn x)) z_F (jn 0, jn c, jn w) with
    | none => rw [e] at e1; cases e1
    | some q9 =>
      rw [e] at e1
      have e9 : q9.1 = jn r.val := Option.some.inj e1
      refine ⟨q9.1, ?_, fun _ => ⟨r.val, e9, r.isLt, fun i hi z => ?_, ?_⟩⟩
      · simp only [d_F_ironsFor, f_fY a_ S_ g hx2_, f_hY hy_, ob_s, if_pos (sq_in g hf), sq_n g hf, d_G_ironsUntilSmooth, sq_iron S_ hf, y, eq_self, if_true, c5, c4, e]
      · rw [(irn_cw hx hc hw ec ew i).1] at z
        have k := itr_le (x := x) (p := (c, w)) i
        dsimp only at k
        rw [jn_eq (by omega) (by omega)] at z
        exact e2 ⟨i, by have := r.isLt; omega⟩ hi z
      · rw [(irn_cw hx hc hw ec ew r.val).1, e3]
  · refine ⟨jg 1, ?_, fun z => absurd z y⟩
    simp only [d_F_ironsFor, f_fY a_ S_ g hx2_, f_hY hy_, ob_s, if_pos (sq_in g hf), sq_n g hf, d_G_ironsUntilSmooth, sq_iron S_ hf, if_neg y]
