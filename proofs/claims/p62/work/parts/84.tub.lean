/-! tubs: loops over a tub's flags, on both sides -/
theorem jfd_filter {α : Type} (op : α → Nat → α) (P : Nat → Prop) [DecidablePred P] (a : α) (n : Nat) : jfd (fun i x => if P i then op x i else x) a n = ((List.range n).filter (fun i => decide (P i))).foldl op a := by
  induction n with
  | zero => rfl
  | succ n ih_ =>
    rw [jfd_s, ih_, List.range_succ, List.filter_append, List.foldl_append]
    by_cases h_ : P n
    · rw [if_pos h_, show (List.filter (fun i => decide (P i)) [n]) = [n] from List.filter_cons_of_pos (p := fun i => decide (P i)) (a := n) (l := []) (decide_eq_true h_)]
      rfl
    · rw [if_neg h_, show (List.filter (fun i => decide (P i)) [n]) = [] from List.filter_cons_of_neg (p := fun i => decide (P i)) (a := n) (l := []) (fun h9_ => h_ (of_decide_eq_true h9_))]
      rfl
/-- one after another, in any order -/
def jrc {α : Type} (op : α → Nat → α) : Prop := ∀ z x y, op (op z x) y = op (op z y) x
theorem qt_perm {L : LL} (g : qG L) {t : Nat} (ht : t < qT L) : ((List.range (qF L)).filter (fun i => decide (qf L i 8 = jn 1 ∧ qf L i 9 = jn t))).Perm (qt L t) := by
  have h_ := g.2.2.2.2.2.2.2.1 t ht
  refine (List.perm_ext_iff_of_nodup (List.Pairwise.filter _ List.nodup_range) h_.2.1).mpr (fun a => ?_)
  rw [List.mem_filter, List.mem_range, decide_eq_true_eq, h_.2.2 a]
theorem qt_fold {α : Type} {L : LL} (g : qG L) {t : Nat} (ht : t < qT L) {op : α → Nat → α} (c : jrc op) (a : α) : jfd (fun i x => if qf L i 8 = jn 1 ∧ qf L i 9 = jn t then op x i else x) a (qF L) = (qt L t).foldl op a := by
  rw [jfd_filter op (fun i => qf L i 8 = jn 1 ∧ qf L i 9 = jn t)]
  exact List.Perm.foldl_eq' (qt_perm g ht) (fun x _ y _ z => c z x y) a
theorem qt_len {L : LL} (g : qG L) {t : Nat} (ht : t < qT L) : (qt L t).length ≤ 6 := by
  obtain ⟨m_, h1_, _, h2_⟩ := (g.2.2.2.2.2.2.2.1 t ht).1
  omega
theorem qt_lt {L : LL} (g : qG L) {t : Nat} (ht : t < qT L) {i f : Nat} (h : (qt L t)[i]? = some f) : f < qF L ∧ qf L f 8 = jn 1 ∧ qf L f 9 = jn t := ((g.2.2.2.2.2.2.2.1 t ht).2.2 f).mp (List.mem_of_getElem? h)
theorem foldl_one {l : List Nat} : ∀ (a : Nat), l.foldl (fun x _ => x + jn 1) (jn a) = jn (a + l.length) := by
  induction l with
  | nil => intro a; rfl
  | cons b l ih_ =>
    intro a
    show l.foldl _ (jn a + jn 1) = _
    rw [jn_add, ih_, List.length_cons]
    congr 1
    omega
theorem foldl_cg {α : Type} {op op2 : α → Nat → α} {l : List Nat} (h : ∀ f, f ∈ l → ∀ x, op x f = op2 x f) : ∀ a, l.foldl op a = l.foldl op2 a := by
  induction l with
  | nil => intro a; rfl
  | cons b l ih_ =>
    intro a
    show l.foldl op (op a b) = l.foldl op2 (op2 a b)
    rw [h b (List.mem_cons_self ..), ih_ (fun f hf => h f (List.mem_cons_of_mem _ hf))]
theorem jadd_rc {x y z : Int32} : x + y + z = x + z + y := by rw [Int32.add_assoc, Int32.add_comm y z, ← Int32.add_assoc]
theorem jor_rc {x y z : Int32} : (x ||| y) ||| z = (x ||| z) ||| y := by rw [Int32.or_assoc, Int32.or_comm y z, ← Int32.or_assoc]
theorem jmn_rc {x y z : Int32} : z_mn (z_mn x y) z = z_mn (z_mn x z) y := by
  unfold z_mn
  simp only [Int32.lt_iff_toInt_lt]
  have e_ : ∀ a b : Int32, a.toInt = b.toInt → a = b := fun a b h9_ => Int32.toInt_inj.mp h9_
  by_cases h1_ : y.toInt < x.toInt
  · by_cases h2_ : z.toInt < x.toInt
    · rw [if_pos h1_, if_pos h2_]
      by_cases h3_ : z.toInt < y.toInt
      · rw [if_pos h3_, if_neg (by omega)]
      · rw [if_neg h3_]
        by_cases h4_ : y.toInt < z.toInt
        · rw [if_pos h4_]
        · rw [if_neg h4_]
          exact e_ _ _ (by omega)
    · rw [if_pos h1_, if_neg h2_, if_pos h1_, if_neg (by omega)]
  · by_cases h2_ : z.toInt < x.toInt
    · rw [if_neg h1_, if_pos h2_, if_neg (by omega)]
    · rw [if_neg h1_, if_neg h2_, if_neg h1_]
/-- how many of a tub: its flags -/
theorem qct_tub {L : LL} (g : qG L) {t : Nat} (ht : t < qT L) : qct (fun f => qf L f 8 = jn 1 ∧ qf L f 9 = jn t) (qF L) = jn (qt L t).length := by
  have e_ : qct (fun f => qf L f 8 = jn 1 ∧ qf L f 9 = jn t) (qF L) = jfd (fun i x => if qf L i 8 = jn 1 ∧ qf L i 9 = jn t then x + jn 1 else x) (jn 0) (qF L) := jfd_congr (fun i hi x => (qct_if x).symm)
  rw [e_, qt_fold g ht (op := fun x _ => x + jn 1) (fun z x y => rfl), foldl_one, Nat.zero_add]
/-- the class's loop over a tub -/
theorem z_tub {α : Type} {l : List Nat} {f : α × Int32 → Option ((α × Int32) ⊕ (α × Int32))} (op : α → Nat → α) (a0 : α) (hn : l.length < 100000) (hs : ∀ i k, l[i]? = some k → ∀ a, f (a, jn i) = some (.inl (op a k, jn (i + 1)))) (he : ∀ a, f (a, jn l.length) = some (.inr (a, jn l.length))) : z_it f z_F (a0, jn 0) = some (l.foldl op a0, jn l.length) := by
  have h_ := z_for0 (f := f) (fun i => ((l.take i).foldl op a0, jn i)) l.length (r := (l.foldl op a0, jn l.length)) hn (fun i hi => ?_) ?_
  · exact h_
  · obtain ⟨k_, hk_⟩ : ∃ k, l[i]? = some k := ⟨l[i], List.getElem?_eq_getElem hi⟩
    show f ((l.take i).foldl op a0, jn i) = some (.inl ((l.take (i + 1)).foldl op a0, jn (i + 1)))
    rw [hs i k_ hk_, List.take_add_one, hk_, List.foldl_append]
    rfl
  · show f ((l.take l.length).foldl op a0, jn l.length) = _
    rw [he, List.take_length]
section YT
variable {L : LL} {B : Nat} {I : z_H} {s u : Nat}
theorem sq_many (h : qS L I s u) {t : Nat} (ht : t < qT L) : I (s + 14) t = jn (qt L t).length := (h.2.2.2.2.2.2.2.2.1 t ht).2.1
theorem sq_inTub (h : qS L I s u) (g : qG L) {t i f : Nat} (ht : t < qT L) (hf : (qt L t)[i]? = some f) : d_S_flagInTub s (jn t) (jn i) I = some (jn f) := by
  have h1_ := g.2.2.2.1
  have h2_ := qt_len g ht
  have h3_ := (List.getElem?_eq_some_iff.mp hf).1
  unfold d_S_flagInTub
  rw [jn_mul, jn_add, if_pos (by rw [jn_in (by omega)]; omega), jn_n (by omega), (h.2.2.2.2.2.2.2.2.1 t ht).2.2 i f hf]
theorem sq_tub (h : qS L I s u) (g : qG L) {t i f : Nat} (ht : t < qT L) (hf : (qt L t)[i]? = some f) : d_S_flagObjectInTub s (jn t) (jn i) I = some (s + 2 + f) := by
  have h1_ := g.2.2.2.1
  have h2_ := qt_len g ht
  have h3_ := (List.getElem?_eq_some_iff.mp hf).1
  have h4_ := (qt_lt g ht hf).1
  have h5_ := g.1
  unfold d_S_flagObjectInTub
  rw [jn_mul, jn_add, if_pos (by rw [jn_in (by omega)]; omega), jn_n (by omega), (h.2.2.2.2.2.2.2.2.1 t ht).2.2 i f hf, if_pos (by rw [jn_in (by omega)]; omega), jn_n (by omega)]
theorem sq_tin (g : qG L) {t : Nat} (ht : t < qT L) : z_in (jn t) 3 := by
  have h1_ := g.2.2.2.1
  rw [jn_in (by omega)]
  omega
theorem sq_tn (g : qG L) {t : Nat} (ht : t < qT L) : z_n (jn t) = t := by
  have h1_ := g.2.2.2.1
  exact jn_n (by omega)
theorem sq_tgo (h : qS L I s u) (g : qG L) {t i f : Nat} (ht : t < qT L) (hf : (qt L t)[i]? = some f) : jn i < I (s + 14) t := by
  have h2_ := qt_len g ht
  have h3_ := (List.getElem?_eq_some_iff.mp hf).1
  rw [sq_many h ht, jn_lt (by omega) (by omega)]
  exact h3_
theorem sq_tend (h : qS L I s u) (g : qG L) {t : Nat} (ht : t < qT L) : ¬ jn (qt L t).length < I (s + 14) t := by
  have h2_ := qt_len g ht
  rw [sq_many h ht, jn_lt (by omega) (by omega)]
  omega
/-- what a tub bears, its dirt, its colours, all that it carries, how many would be stained, what dirt a wash leaves -/
def ycare (L : LL) (t : Nat) : Int32 := (qt L t).foldl (fun a f => z_mn a (qf L f 2)) (jn 3)
def ydirt (L : LL) (t : Nat) : Int32 := (qt L t).foldl (fun a f => a + qf L f 3) (jn 0)
def ycols (L : LL) (t : Nat) : Int32 := (qt L t).foldl (fun a f => a ||| qf L f 1) (jn 0)
def ycarr (L : LL) (t : Nat) : Int32 := (qt L t).foldl (fun a f => a ||| (qf L f 1 ||| qf L f 6)) (jn 0)
def ynew (L : LL) (f : Nat) (x : Int32) : Int32 := x &&& ((qf L f 1 ||| qf L f 6) ^^^ (jg 1))
def ystn (L : LL) (t : Nat) (x : Int32) : Int32 := (qt L t).foldl (fun a f => a + (if ynew L f x = jn 0 then jn 0 else jn 1)) (jn 0)
def yaft (L : LL) (f : Nat) (h : Int32) : Int32 := z_mx (jn 0) ((qf L f 3 - jn 1) - (jn 2 * h))
def yleft (L : LL) (t : Nat) (h : Int32) : Int32 := (qt L t).foldl (fun a f => a + yaft L f h) (jn 0)
theorem sq_care (h : qS L I (s + 7) u) (g : qG L) {t : Nat} (ht : t < qT L) : d_L_greatestHeat s (jn t) I = some (ycare L t) := by
  have h1_ := qt_len g ht
  unfold d_L_greatestHeat
  refine (zb (z_tub (l := qt L t) (fun a f => z_mn a (qf L f 2)) (jn 3) (by omega) (fun i k hk a => ?_) (fun a => ?_))).trans rfl
  · show d_L_greatestHeat_2 s (jn t) I (a, jn i) = _
    unfold d_L_greatestHeat_2
    dsimp only
    rw [if_pos (sq_tin g ht), sq_tn g ht, if_pos (sq_tgo h g ht hk), sq_tub h g ht hk, ob_s, sq_f h (qt_lt g ht hk).1 (by omega), jn_add]
  · show d_L_greatestHeat_2 s (jn t) I (a, jn (qt L t).length) = _
    unfold d_L_greatestHeat_2
    dsimp only
    rw [if_pos (sq_tin g ht), sq_tn g ht, if_neg (sq_tend h g ht)]
theorem sq_dirtIn (h : qS L I (s + 7) u) (g : qG L) {t : Nat} (ht : t < qT L) : d_L_dirtIn s (jn t) I = some (ydirt L t) := by
  have h1_ := qt_len g ht
  unfold d_L_dirtIn
  refine (zb (z_tub (l := qt L t) (fun a f => a + qf L f 3) (jn 0) (by omega) (fun i k hk a => ?_) (fun a => ?_))).trans rfl
  · show d_L_dirtIn_2 s (jn t) I (a, jn i) = _
    unfold d_L_dirtIn_2
    dsimp only
    rw [if_pos (sq_tin g ht), sq_tn g ht, if_pos (sq_tgo h g ht hk), sq_tub h g ht hk, ob_s, sq_f h (qt_lt g ht hk).1 (by omega), jn_add]
  · show d_L_dirtIn_2 s (jn t) I (a, jn (qt L t).length) = _
    unfold d_L_dirtIn_2
    dsimp only
    rw [if_pos (sq_tin g ht), sq_tn g ht, if_neg (sq_tend h g ht)]
theorem sq_coloursIn (h : qS L I (s + 7) u) (g : qG L) {t : Nat} (ht : t < qT L) : d_L_coloursIn s (jn t) I = some (ycols L t) := by
  have h1_ := qt_len g ht
  unfold d_L_coloursIn
  refine (zb (z_tub (l := qt L t) (fun a f => a ||| qf L f 1) (jn 0) (by omega) (fun i k hk a => ?_) (fun a => ?_))).trans rfl
  · show d_L_coloursIn_2 s (jn t) I (a, jn i) = _
    unfold d_L_coloursIn_2
    dsimp only
    rw [if_pos (sq_tin g ht), sq_tn g ht, if_pos (sq_tgo h g ht hk), sq_tub h g ht hk, ob_s, sq_f h (qt_lt g ht hk).1 (by omega), jn_add]
  · show d_L_coloursIn_2 s (jn t) I (a, jn (qt L t).length) = _
    unfold d_L_coloursIn_2
    dsimp only
    rw [if_pos (sq_tin g ht), sq_tn g ht, if_neg (sq_tend h g ht)]
theorem sq_carried (h : qS L I s u) {f : Nat} (hf : f < qF L) : d_G_carried (s + 2 + f) I = some (qf L f 1 ||| qf L f 6) := by
  unfold d_G_carried
  rw [sq_f h hf (by omega), sq_f h hf (by omega)]
theorem sq_new (h : qS L I s u) {f : Nat} (hf : f < qF L) (x : Int32) : d_G_newStains (s + 2 + f) x I = some (ynew L f x) := by
  unfold d_G_newStains
  rw [sq_f h hf (by omega), sq_f h hf (by omega)]
  rfl
theorem sq_after (h : qS L I s u) {f : Nat} (hf : f < qF L) (x : Int32) : d_G_dirtAfterWash (s + 2 + f) x I = some (yaft L f x) := by
  unfold d_G_dirtAfterWash
  rw [sq_f h hf (by omega)]
  rfl
theorem sq_carriedIn (h : qS L I (s + 7) u) (g : qG L) {t : Nat} (ht : t < qT L) : d_L_carriedIn s (jn t) I = some (ycarr L t) := by
  have h1_ := qt_len g ht
  unfold d_L_carriedIn
  refine (zb (z_tub (l := qt L t) (fun a f => a ||| (qf L f 1 ||| qf L f 6)) (jn 0) (by omega) (fun i k hk a => ?_) (fun a => ?_))).trans rfl
  · show d_L_carriedIn_2 s (jn t) I (a, jn i) = _
    unfold d_L_carriedIn_2
    dsimp only
    rw [if_pos (sq_tin g ht), sq_tn g ht, if_pos (sq_tgo h g ht hk), sq_tub h g ht hk, ob_s, sq_carried h (qt_lt g ht hk).1, ob_s, jn_add]
  · show d_L_carriedIn_2 s (jn t) I (a, jn (qt L t).length) = _
    unfold d_L_carriedIn_2
    dsimp only
    rw [if_pos (sq_tin g ht), sq_tn g ht, if_neg (sq_tend h g ht)]
theorem qif_add {c : Prop} [Decidable c] (a : Int32) : (if c then a else a + jn 1) = a + (if c then jn 0 else jn 1) := by
  by_cases h_ : c
  · rw [if_pos h_, if_pos h_, jn_z]
  · rw [if_neg h_, if_neg h_]
theorem sq_stained (h : qS L I (s + 7) u) (g : qG L) {t : Nat} (ht : t < qT L) (x : Int32) : d_L_stainedBy s (jn t) x I = some (ystn L t x) := by
  have h1_ := qt_len g ht
  unfold d_L_stainedBy
  refine (zb (z_tub (l := qt L t) (fun a f => a + (if ynew L f x = jn 0 then jn 0 else jn 1)) (jn 0) (by omega) (fun i k hk a => ?_) (fun a => ?_))).trans rfl
  · show d_L_stainedBy_2 s (jn t) x I (a, jn i) = _
    unfold d_L_stainedBy_2
    dsimp only
    rw [if_pos (sq_tin g ht), sq_tn g ht, if_pos (sq_tgo h g ht hk), sq_tub h g ht hk, ob_s, sq_new h (qt_lt g ht hk).1, ob_s, ob_is, ob_s, qif_add, jn_add]
  · show d_L_stainedBy_2 s (jn t) x I (a, jn (qt L t).length) = _
    unfold d_L_stainedBy_2
    dsimp only
    rw [if_pos (sq_tin g ht), sq_tn g ht, if_neg (sq_tend h g ht)]
theorem sq_dirtLeft (h : qS L I (s + 7) u) (g : qG L) {t : Nat} (ht : t < qT L) (x : Int32) : d_L_dirtLeftIn s (jn t) x I = some (yleft L t x) := by
  have h1_ := qt_len g ht
  unfold d_L_dirtLeftIn
  refine (zb (z_tub (l := qt L t) (fun a f => a + yaft L f x) (jn 0) (by omega) (fun i k hk a => ?_) (fun a => ?_))).trans rfl
  · show d_L_dirtLeftIn_2 s (jn t) x I (a, jn i) = _
    unfold d_L_dirtLeftIn_2
    dsimp only
    rw [if_pos (sq_tin g ht), sq_tn g ht, if_pos (sq_tgo h g ht hk), sq_tub h g ht hk, ob_s, sq_after h (qt_lt g ht hk).1, ob_s, jn_add]
  · show d_L_dirtLeftIn_2 s (jn t) x I (a, jn (qt L t).length) = _
    unfold d_L_dirtLeftIn_2
    dsimp only
    rw [if_pos (sq_tin g ht), sq_tn g ht, if_neg (sq_tend h g ht)]
end YT
