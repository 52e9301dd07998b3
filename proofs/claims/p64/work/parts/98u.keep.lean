/-! what the law asks of every laundry, and that deeds keep it: by wip/gen/p64/j98u.py -/
def PmL (L : LL) : Prop := (∀ f, f < qF L → qf L f 1 &&& qf L f 6 = jn 0) ∧ (∀ f, f < qF L → qf L f 8 = jn 3 → qf L f 3 = jn 0 ∧ qf L f 4 = jn 0 ∧ qf L f 5 = jn 0 ∧ qf L f 6 = jn 0) ∧ qs L 2 + qs L 3 = yshr L ∧ (∀ f, f < qF L → qf L f 8 = jn 3 → ∃ n, n < qN L ∧ qf L f 0 = jn n ∧ qn L n 3 = jn 1)
theorem Pm_of {L M : LL} (h : PmL L) (eF : qF M = qF L) (eN : qN M = qN L) (en : ∀ n, qn M n 1 = qn L n 1 ∧ qn M n 3 = qn L n 3) (es : qs M 2 = qs L 2 ∧ qs M 3 = qs L 3) (e0 : ∀ f, f < qF L → qf M f 0 = qf L f 0) (e8 : ∀ f, f < qF L → (qf M f 8 = jn 3 ↔ qf L f 8 = jn 3)) (eo : ∀ f, f < qF L → qf M f 1 &&& qf M f 6 = jn 0) (ez : ∀ f, f < qF L → qf L f 8 = jn 3 → qf M f 3 = qf L f 3 ∧ qf M f 4 = qf L f 4 ∧ qf M f 5 = qf L f 5 ∧ qf M f 6 = qf L f 6) : PmL M := by
  obtain ⟨h1, h2, h3, h4⟩ := h
  refine ⟨fun f hf => eo f (by omega), fun f hf h8 => ?_, ?_, fun f hf h8 => ?_⟩
  · have hf2 : f < qF L := by omega
    have h9 := (e8 f hf2).mp h8
    obtain ⟨a1, a2, a3, a4⟩ := ez f hf2 h9
    rw [a1, a2, a3, a4]
    exact h2 f hf2 h9
  · rw [es.1, es.2, h3]
    unfold yshr
    rw [eF]
    refine jfd_congr (fun i hi x => ?_)
    rw [e0 i hi]
    by_cases q : qf L i 8 = jn 3
    · rw [if_pos q, if_pos ((e8 i hi).mpr q), (en _).1]
    · rw [if_neg q, if_neg (fun z => q ((e8 i hi).mp z))]
  · have hf2 : f < qF L := by omega
    obtain ⟨n, n1, n2, n3⟩ := h4 f hf2 ((e8 f hf2).mp h8)
    exact ⟨n, by omega, (e0 f hf2).trans n2, (en n).2.trans n3⟩
/-! whereabouts are told once -/
theorem wh4 {L : LL} : ∀ n, (∀ f, f < n → qf L f 8 = jn 0 ∨ qf L f 8 = jn 1 ∨ qf L f 8 = jn 2 ∨ qf L f 8 = jn 3) → qcn (fun f => qf L f 8 = jn 0) n + qcn (fun f => qf L f 8 = jn 1) n + qcn (fun f => qf L f 8 = jn 2) n + qcn (fun f => qf L f 8 = jn 3) n = n
  | 0, _ => rfl
  | n + 1, h => by
    have ih := wh4 n (fun f hf => h f (by omega))
    have k01 : ¬ jn 0 = jn 1 := by decide
    have k02 : ¬ jn 0 = jn 2 := by decide
    have k03 : ¬ jn 0 = jn 3 := by decide
    have k12 : ¬ jn 1 = jn 2 := by decide
    have k13 : ¬ jn 1 = jn 3 := by decide
    have k23 : ¬ jn 2 = jn 3 := by decide
    show (qcn (fun f => qf L f 8 = jn 0) n + (if qf L n 8 = jn 0 then 1 else 0)) + (qcn (fun f => qf L f 8 = jn 1) n + (if qf L n 8 = jn 1 then 1 else 0)) + (qcn (fun f => qf L f 8 = jn 2) n + (if qf L n 8 = jn 2 then 1 else 0)) + (qcn (fun f => qf L f 8 = jn 3) n + (if qf L n 8 = jn 3 then 1 else 0)) = n + 1
    rcases h n (by omega) with e | e | e | e <;> rw [e]
    · rw [if_pos rfl, if_neg k01, if_neg k02, if_neg k03]; omega
    · rw [if_neg (fun q => k01 q.symm), if_pos rfl, if_neg k12, if_neg k13]; omega
    · rw [if_neg (fun q => k02 q.symm), if_neg (fun q => k12 q.symm), if_pos rfl, if_neg k23]; omega
    · rw [if_neg (fun q => k03 q.symm), if_neg (fun q => k13 q.symm), if_neg (fun q => k23 q.symm), if_pos rfl]; omega
theorem wh_of {L : LL} (g : qG L) {f : Nat} (hf : f < qF L) : qf L f 8 = jn 0 ∨ qf L f 8 = jn 1 ∨ qf L f 8 = jn 2 ∨ qf L f 8 = jn 3 := by
  rcases (g.2.2.2.2.2.1 f hf).2.2.2.2.2.2.2.2 with q | q | q | q
  · exact Or.inl q.1
  · exact Or.inr (Or.inl q.1)
  · exact Or.inr (Or.inr (Or.inl q.1))
  · exact Or.inr (Or.inr (Or.inr q.1))
theorem jcomm (x y : Int32) : x &&& y = y &&& x := Int32.and_comm x y
theorem yown0 {L : LL} (h : ∀ f, f < qF L → qf L f 1 &&& qf L f 6 = jn 0) : yown L = jn 0 := by
  have k : ∀ n, n ≤ qF L → jfd (fun i a => a + (if qf L i 6 &&& qf L i 1 = jn 0 then jn 0 else jn 1)) (jn 0) n = jn 0 := by
    intro n
    induction n with
    | zero => intro _; rfl
    | succ n ih =>
      intro hn
      rw [jfd_s, ih (by omega)]
      show jn 0 + (if qf L n 6 &&& qf L n 1 = jn 0 then jn 0 else jn 1) = jn 0
      rw [if_pos (by rw [jcomm]; exact h n (by omega))]
      rfl
  exact k _ (Nat.le_refl _)
theorem jz_sub (x : Int32) : x - x = jn 0 := Int32.sub_self x
theorem gap0 {L : LL} (g : qG L) (h : PmL L) : ygap L = jn 0 := by
  have hw := wh4 (L := L) (qF L) (fun f hf => wh_of g hf)
  unfold ygap
  rw [yown0 h.1, h.2.2.1, jz_sub, qct_n, qct_n, qct_n, qct_n, jn_add, jn_add, jn_add, hw, jz_sub]
  decide
/-! put -/
theorem Pm_put {L : LL} (h : PmL L) {f t : Nat} (h0 : qf L f 8 = jn 0) : PmL (Lput L f t) := by
  have k03 : ¬ jn 0 = jn 3 := by decide
  have k13 : ¬ jn 1 = jn 3 := by decide
  refine Pm_of h rfl rfl (fun n => ⟨rfl, rfl⟩) ⟨rfl, rfl⟩ (fun a ha => qf_put (by omega)) (fun a ha => ?_) (fun a ha => by rw [qf_put (by omega), qf_put (by omega)]; exact h.1 a ha) (fun a ha h8 => ⟨qf_put (by omega), qf_put (by omega), qf_put (by omega), qf_put (by omega)⟩)
  by_cases q : a = f
  · rw [q, qf_put8, h0]
    exact ⟨fun z => absurd z k13, fun z => absurd z k03⟩
  · rw [qf_put (fun z => q z.1)]
/-! wash -/
theorem jn_on (x : Int32) : x &&& (x ^^^ jg 1) = jn 0 := by
  have h := jand_not (x := x) (y := x)
  rw [show x &&& x = x from Int32.and_self] at h
  exact h
theorem own_bit (o s y : Int32) : o &&& (s ||| (y &&& ((o ||| s) ^^^ jg 1))) = o &&& s := by
  rw [jnot_or, jand_or]
  have h : o &&& (y &&& ((o ^^^ jg 1) &&& (s ^^^ jg 1))) = jn 0 := by
    rw [← Int32.and_assoc o y, jcomm o y, Int32.and_assoc y o, ← Int32.and_assoc o (o ^^^ jg 1), jn_on o, j0and, jand0]
  rw [h, jor0]
theorem wsh_k {L : LL} {t : Nat} {x : Int32} {a k : Nat} (h8 : ¬ k = 8) (h9 : ¬ k = 9) : qf (Lwsh L t x) a k = if a ∈ qt L t then Vwsh L x (yrunt L t x) a k else qf L a k := by
  show qf (Lclr (lq L (Wwsh L t x (yrunt L t x))) t) a k = _
  rw [clr_k h8 h9]
  rfl
theorem wsh_8 {L : LL} {t : Nat} {x : Int32} {a : Nat} : qf (Lwsh L t x) a 8 = if a ∈ qt L t then jn 0 else qf L a 8 := by
  show qf (Lclr (lq L (Wwsh L t x (yrunt L t x))) t) a 8 = _
  by_cases q : a ∈ qt L t
  · rw [if_pos q]
    exact (clr_in (L := lq L (Wwsh L t x (yrunt L t x))) (t := t) (g := a) (k := 8) q).trans rfl
  · rw [if_neg q]
    exact (clr_out (L := lq L (Wwsh L t x (yrunt L t x))) (t := t) (g := a) (k := 8) q).trans (if_neg q)
theorem Pm_wsh {L : LL} (h : PmL L) (g : qG L) {t : Nat} (ht : t < qT L) {x : Int32} : PmL (Lwsh L t x) := by
  have k03 : ¬ jn 0 = jn 3 := by decide
  have k13 : ¬ jn 1 = jn 3 := by decide
  have hm := (g.2.2.2.2.2.2.2.1 t ht).2.2
  refine Pm_of h rfl rfl (fun n => ⟨rfl, rfl⟩) ⟨rfl, rfl⟩ (fun a ha => ?_) (fun a ha => ?_) (fun a ha => ?_) (fun a ha h8 => ?_)
  · rw [wsh_k (by omega) (by omega)]
    by_cases q : a ∈ qt L t
    · rw [if_pos q]; rfl
    · rw [if_neg q]
  · rw [wsh_8]
    by_cases q : a ∈ qt L t
    · rw [if_pos q, ((hm a).mp q).2.1]
      exact ⟨fun z => absurd z k03, fun z => absurd z k13⟩
    · rw [if_neg q]
  · rw [wsh_k (by omega) (by omega), wsh_k (by omega) (by omega)]
    by_cases q : a ∈ qt L t
    · rw [if_pos q, if_pos q]
      show qf L a 1 &&& (qf L a 6 ||| ynew L a (yrunt L t x)) = jn 0
      unfold ynew
      rw [own_bit]
      exact h.1 a ha
    · rw [if_neg q, if_neg q]; exact h.1 a ha
  · have q : ¬ a ∈ qt L t := fun z => by
      have z2 := ((hm a).mp z).2.1
      rw [h8] at z2
      exact k13 z2.symm
    rw [wsh_k (by omega) (by omega), wsh_k (by omega) (by omega), wsh_k (by omega) (by omega), wsh_k (by omega) (by omega), if_neg q, if_neg q, if_neg q, if_neg q]
    exact ⟨rfl, rfl, rfl, rfl⟩
/-! iron, bleach, wind -/
theorem Pm_lf {L : LL} (h : PmL L) {f k : Nat} {x : Int32} (hk : k = 4 ∨ k = 5 ∨ k = 3) (h8 : ¬ qf L f 8 = jn 3) : PmL (lf L f k x) := by
  have e : ∀ a j, ¬ j = k → qf (lf L f k x) a j = qf L a j := fun a j hj => lf_ne (fun q => hj q.2)
  refine Pm_of h rfl rfl (fun n => ⟨rfl, rfl⟩) ⟨rfl, rfl⟩ (fun a ha => e a 0 (by omega)) (fun a ha => by rw [e a 8 (by omega)]) (fun a ha => by rw [e a 1 (by omega), e a 6 (by omega)]; exact h.1 a ha) (fun a ha z8 => ?_)
  have hne : ¬ a = f := fun q => h8 (by rw [← q]; exact z8)
  exact ⟨lf_ne (fun q => hne q.1), lf_ne (fun q => hne q.1), lf_ne (fun q => hne q.1), lf_ne (fun q => hne q.1)⟩
theorem Pm_ls {L : LL} (h : PmL L) {k : Nat} {x : Int32} (h2 : ¬ k = 2) (h3 : ¬ k = 3) : PmL (ls L k x) :=
  Pm_of h rfl rfl (fun n => ⟨rfl, rfl⟩) ⟨if_neg (fun q => h2 q.symm), if_neg (fun q => h3 q.symm)⟩ (fun a ha => rfl) (fun a ha => Iff.rfl) (fun a ha => h.1 a ha) (fun a ha _ => ⟨rfl, rfl, rfl, rfl⟩)
theorem Pm_ble {L : LL} (h : PmL L) {f : Nat} (h8 : qf L f 8 = jn 0) : PmL (Lble L f) := by
  have k03 : ¬ jn 0 = jn 3 := by decide
  have e : ∀ a j, ¬ j = 6 → ¬ j = 7 → qf (Lble L f) a j = qf L a j := fun a j h6 h7 => by
    show qf (lf (lf L f 6 (jn 0)) f 7 (qf L f 7 + jn 1)) a j = _
    rw [lf_ne (fun q => h7 q.2), lf_ne (fun q => h6 q.2)]
  have e6 : ∀ a, qf (Lble L f) a 6 = if a = f then jn 0 else qf L a 6 := fun a => by
    show qf (lf (lf L f 6 (jn 0)) f 7 (qf L f 7 + jn 1)) a 6 = _
    rw [lf_ne (by omega)]
    by_cases q : a = f
    · rw [q, lf_at, if_pos rfl]
    · rw [lf_ne (fun z => q z.1), if_neg q]
  refine Pm_of h rfl rfl (fun n => ⟨rfl, rfl⟩) ⟨rfl, rfl⟩ (fun a ha => e a 0 (by omega) (by omega)) (fun a ha => by rw [e a 8 (by omega) (by omega)]) (fun a ha => ?_) (fun a ha z8 => ?_)
  · rw [e a 1 (by omega) (by omega), e6]
    by_cases q : a = f
    · rw [if_pos q, jand0]
    · rw [if_neg q]; exact h.1 a ha
  · have hne : ¬ a = f := fun q => by rw [q, h8] at z8; exact k03 z8
    exact ⟨e a 3 (by omega) (by omega), e a 4 (by omega) (by omega), e a 5 (by omega) (by omega), by rw [e6, if_neg hne]⟩
/-! move -/
theorem Pm_mv {L : LL} (h : PmL L) {f : Nat} {w y : Int32} (h8 : ¬ qf L f 8 = jn 3) (hw : ¬ w = jn 3) : PmL (Lmv L f w y) := by
  have e : ∀ a j, ¬ j = 8 → ¬ j = 9 → qf (Lmv L f w y) a j = qf L a j := fun a j h8 h9 => by
    show qf (lf (lf L f 8 w) f 9 y) a j = _
    rw [lf_ne (fun q => h9 q.2), lf_ne (fun q => h8 q.2)]
  refine Pm_of h rfl rfl (fun n => ⟨rfl, rfl⟩) ⟨rfl, rfl⟩ (fun a ha => e a 0 (by omega) (by omega)) (fun a ha => ?_) (fun a ha => by rw [e a 1 (by omega) (by omega), e a 6 (by omega) (by omega)]; exact h.1 a ha) (fun a ha z8 => ⟨e a 3 (by omega) (by omega), e a 4 (by omega) (by omega), e a 5 (by omega) (by omega), e a 6 (by omega) (by omega)⟩)
  by_cases q : a = f
  · have e8 : qf (Lmv L f w y) f 8 = w := by
      show qf (lf (lf L f 8 w) f 9 y) f 8 = _
      rw [lf_ne (by omega), lf_at]
    rw [q, e8]
    exact ⟨fun z => absurd z hw, fun z => absurd z h8⟩
  · show qf (lf (lf L f 8 w) f 9 y) a 8 = jn 3 ↔ _
    rw [lf_ne (fun z => q z.1), lf_ne (fun z => q z.1)]
