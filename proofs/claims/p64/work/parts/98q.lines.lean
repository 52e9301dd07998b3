/-! the lines of the law's text, as the class reads them: by wip/gen/p64/j98q.py -/
def Lcs (r : Nat → Nat) : Nat → LL → LL
  | 0, L => L
  | c + 1, L => Lcol (Lcs r c L) (jn (r c))
def Lns (v : Nat → Nat → Nat) : Nat → LL → LL
  | 0, L => L
  | n + 1, L => Lnat (Lns v n L) (jn (v n 0)) (jn (v n 1)) (jn (v n 2))
def Lts (r : Nat → Nat) : Nat → LL → LL
  | 0, L => L
  | c + 1, L => Ltub (Lts r c L) (jn (r c))
def Lfs (vf : Nat → Nat → Nat) (mf : Nat → Int32) : Nat → LL → LL
  | 0, L => L
  | k + 1, L => Ladd (Lfs vf mf k L) (jn (vf k 0)) (mf k) (jn (vf k 2)) (jn (vf k 3))
theorem Lcs_d (r : Nat → Nat) (L : LL) : ∀ n, (qF (Lcs r n L) = qF L ∧ qC (Lcs r n L) = qC L + n ∧ qN (Lcs r n L) = qN L ∧ qT (Lcs r n L) = qT L)
  | 0 => ⟨rfl, rfl, rfl, rfl⟩
  | n + 1 => by
    have h := Lcs_d r L n
    refine ⟨h.1, ?_, h.2.2.1, h.2.2.2⟩
    show qC (Lcs r n L) + 1 = _
    omega
theorem Lns_d (v : Nat → Nat → Nat) (L : LL) : ∀ n, (qF (Lns v n L) = qF L ∧ qC (Lns v n L) = qC L ∧ qN (Lns v n L) = qN L + n ∧ qT (Lns v n L) = qT L)
  | 0 => ⟨rfl, rfl, rfl, rfl⟩
  | n + 1 => by
    have h := Lns_d v L n
    refine ⟨h.1, h.2.1, ?_, h.2.2.2⟩
    show qN (Lns v n L) + 1 = _
    omega
theorem Lts_d (r : Nat → Nat) (L : LL) : ∀ n, (qF (Lts r n L) = qF L ∧ qC (Lts r n L) = qC L ∧ qN (Lts r n L) = qN L ∧ qT (Lts r n L) = qT L + n)
  | 0 => ⟨rfl, rfl, rfl, rfl⟩
  | n + 1 => by
    have h := Lts_d r L n
    refine ⟨h.1, h.2.1, h.2.2.1, ?_⟩
    show qT (Lts r n L) + 1 = _
    omega
theorem Lfs_d (vf : Nat → Nat → Nat) (mf : Nat → Int32) (L : LL) : ∀ n, (qF (Lfs vf mf n L) = qF L + n ∧ qC (Lfs vf mf n L) = qC L ∧ qN (Lfs vf mf n L) = qN L ∧ qT (Lfs vf mf n L) = qT L)
  | 0 => ⟨rfl, rfl, rfl, rfl⟩
  | n + 1 => by
    have h := Lfs_d vf mf L n
    refine ⟨?_, h.2.1, h.2.2.1, h.2.2.2⟩
    show qF (Lfs vf mf n L) + 1 = _
    omega
section LINES
variable {N q f : Nat} {A : Nat → Int32} {r : List Nat} {L : LL}
theorem a_col {v : Nat} (h : Atx N A q ((zs_tx 21 ++ dg v) ++ r)) (hs : ES r) (hv : v ≤ 4) (hC : qC L < 6) : ∃ q2, Atx N A q2 r ∧ aLines N A (f + 1) q L = aLines N A f q2 (Lcol L (jn v)) := by
  rw [kw_t.2.1] at h
  simp only [List.cons_append, List.append_assoc, List.nil_append] at h
  obtain ⟨q1, h1, k1, w1, e1⟩ := ln_k (L := L) (f := f) h (k := 2) (by omega) (NB_dg v r)
  obtain ⟨n1, h2⟩ := aN_S (lo := 0) (hi := 4) h1 (by omega) (by omega) hv (by omega) hs
  refine ⟨_, h2, ?_⟩
  have e2 : aLine N A q1 L = .inr (nx N A (nx N A q1), Lcol L (jn v)) := by
    unfold aLine aColour
    rw [if_pos k1, if_pos (by rw [w1 2 (by omega) (by omega)]; rfl), if_neg (by omega), n1]
    rfl
  rw [e1, e2]
  rfl
theorem a_nat {x y z : Nat} (h : Atx N A q ((((((zs_tx 22 ++ dg x) ++ [32]) ++ dg y) ++ [32]) ++ dg z) ++ r)) (hs : ES r) (hx : x ≤ 16) (hy : 1 ≤ y ∧ y ≤ 16) (hz : z ≤ 9) (hN : qN L < 4) : ∃ q2, Atx N A q2 r ∧ aLines N A (f + 1) q L = aLines N A f q2 (Lnat L (jn x) (jn y) (jn z)) := by
  rw [kw_t.2.2.1] at h
  simp only [List.cons_append, List.append_assoc, List.nil_append] at h
  obtain ⟨q1, h1, k1, w1, e1⟩ := ln_k (L := L) (f := f) h (k := 3) (by omega) (NB_dg x _)
  obtain ⟨n1, h2⟩ := aN_B (lo := 0) (hi := 99) h1 (by omega) (by omega) (by omega) (by omega) (NB_dg y _)
  obtain ⟨n2, h3⟩ := aN_B (lo := 1) (hi := 99) h2 (by omega) hy.1 (by omega) (by omega) (NB_dg z _)
  obtain ⟨n3, h4⟩ := aN_S (lo := 0) (hi := 9) h3 (by omega) (by omega) hz (by omega) hs
  refine ⟨_, h4, ?_⟩
  have e2 : aLine N A q1 L = .inr (nx N A (nx N A (nx N A (nx N A q1))), Lnat L (jn x) (jn y) (jn z)) := by
    unfold aLine aNation
    rw [if_pos k1, if_neg (by rw [w1 2 (by omega) (by omega)]; decide), if_pos (by rw [w1 3 (by omega) (by omega)]; rfl), if_neg (by omega), n1, eb_r, n2, eb_r, n3]
    rfl
  rw [e1, e2]
  rfl
theorem a_tub {v : Nat} (h : Atx N A q ((zs_tx 23 ++ dg v) ++ r)) (hs : ES r) (hv : 1 ≤ v ∧ v ≤ 6) (hT : qT L < 3) : ∃ q2, Atx N A q2 r ∧ aLines N A (f + 1) q L = aLines N A f q2 (Ltub L (jn v)) := by
  rw [kw_t.2.2.2.1] at h
  simp only [List.cons_append, List.append_assoc, List.nil_append] at h
  obtain ⟨q1, h1, k1, w1, e1⟩ := ln_k (L := L) (f := f) h (k := 4) (by omega) (NB_dg v r)
  obtain ⟨n1, h2⟩ := aN_S (lo := 1) (hi := 6) h1 (by omega) hv.1 hv.2 (by omega) hs
  refine ⟨_, h2, ?_⟩
  have e2 : aLine N A q1 L = .inr (nx N A (nx N A q1), Ltub L (jn v)) := by
    unfold aLine aTub
    rw [if_pos k1, if_neg (by rw [w1 2 (by omega) (by omega)]; decide), if_neg (by rw [w1 3 (by omega) (by omega)]; decide), if_pos (by rw [w1 4 (by omega) (by omega)]; rfl), if_neg (by omega), n1]
    rfl
  rw [e1, e2]
  rfl
/-! a flag's colours -/
def clx : List Nat → List Nat → List Nat
  | [], r => r
  | [c], r => dg c ++ r
  | c :: c2 :: t, r => dg c ++ 32 :: clx (c2 :: t) r
def chk : Int32 → List Nat → Bool
  | _, [] => true
  | s, c :: t => decide ((s >>> (jn c &&& 31)) &&& jn 1 = jn 0) && chk (s ||| (jn 1 <<< (jn c &&& 31))) t
def fsx : Int32 → List Nat → Int32
  | s, [] => s
  | s, c :: t => fsx (s ||| (jn 1 <<< (jn c &&& 31))) t
def bts (m C : Nat) : List Nat := (List.range C).filter (fun c => decide (m / 2 ^ c % 2 = 1))
theorem bts_a : ∀ (C : Fin 5) (m : Fin 16), 1 ≤ m.val → m.val < 2 ^ C.val → (1 ≤ (bts m.val C.val).length ∧ (bts m.val C.val).length ≤ 4) ∧ chk (jn 0) (bts m.val C.val) = true ∧ fsx (jn 0) (bts m.val C.val) = jn m.val ∧ (bts m.val C.val).all (fun c => decide (c < C.val)) = true ∧ xbit (jn m.val) C.val = 32 :: clx (bts m.val C.val) [] := by decide +kernel
theorem clx_app : ∀ (t : List Nat) (r : List Nat), clx t r = clx t [] ++ r
  | [], r => rfl
  | [c], r => by show dg c ++ r = (dg c ++ []) ++ r; rw [List.append_nil]
  | c :: c2 :: t, r => by
    show dg c ++ 32 :: clx (c2 :: t) r = (dg c ++ 32 :: clx (c2 :: t) []) ++ r
    rw [clx_app (c2 :: t) r, List.append_assoc]
    rfl
theorem NB_clx {c : Nat} {t : List Nat} {r : List Nat} : NB (clx (c :: t) r) := by
  cases t with
  | nil => exact NB_dg c r
  | cons c2 t => exact NB_dg c _
theorem aC_x {s : Int32} {c C : Nat} (hC : 1 ≤ C ∧ C ≤ 4) (hc : c < C) {q2 : Nat} (hb : (s >>> (jn c &&& 31)) &&& jn 1 = jn 0) (hn : aNum N A (jn 0) (jn (C - 1)) q = .inr (jn c, q2)) : aCol N A (jn C - jn 1) s q = .inr (s ||| (jn 1 <<< (jn c &&& 31)), q2) := by
  unfold aCol
  rw [jn_sub hC.1, hn, eb_r]
  show (if (s >>> (jn c &&& 31)) &&& jn 1 = jn 0 then _ else _) = _
  rw [if_pos hb]
/-- the first colour, the others -/
theorem aC_all {C : Nat} (hC : 1 ≤ C ∧ C ≤ 4) (hs : ES r) : ∀ (t : List Nat) (c : Nat) (s : Int32) (q g : Nat), t.length ≤ g → Atx N A q (clx (c :: t) r) → chk s (c :: t) = true → (∀ x ∈ c :: t, x < C) → ∃ q2, Atx N A q2 r ∧ eb (aCol N A (jn C - jn 1) s q) (fun z => aCols N A (jn C - jn 1) g z.1 z.2) = .inr (fsx s (c :: t), q2) := by
  intro t
  induction t with
  | nil =>
    intro c s q g hg h hk hx
    have hc := hx c List.mem_cons_self
    have hk1 := (Bool.and_eq_true _ _ ▸ hk : _ ∧ _)
    obtain ⟨n1, h2⟩ := aN_S (lo := 0) (hi := C - 1) (v := c) (r := r) h (by omega) (by omega) (by omega) (by omega) hs
    refine ⟨_, h2, ?_⟩
    rw [aC_x hC hc (of_decide_eq_true hk1.1) n1, eb_r]
    show aCols N A (jn C - jn 1) g _ _ = _
    cases g with
    | zero => rfl
    | succ g =>
      show (if nx N A q < N ∧ pD A (nx N A q) = true then _ else _) = _
      rw [if_neg]
      · rfl
      · intro z
        rcases hs with hs | ⟨t9, hs⟩
        · have h3 := h2.1
          rw [hs, List.length_nil] at h3
          omega
        · rw [hs] at h2
          have h3 := h2.hd
          rw [pD_c h3.2.1 h3.2.2] at z
          exact absurd (of_decide_eq_true z.2) (by omega)
  | cons c2 t ih =>
    intro c s q g hg h hk hx
    have hc := hx c List.mem_cons_self
    have hk1 := (Bool.and_eq_true _ _ ▸ hk : _ ∧ _)
    obtain ⟨n1, h2⟩ := aN_B (lo := 0) (hi := C - 1) (v := c) (r := clx (c2 :: t) r) h (by omega) (by omega) (by omega) (by omega) NB_clx
    obtain ⟨g1, rfl⟩ : ∃ g1, g = g1 + 1 := ⟨g - 1, by rw [List.length_cons] at hg; omega⟩
    obtain ⟨q2, h3, e3⟩ := ih c2 (s ||| (jn 1 <<< (jn c &&& 31))) (nx N A q) g1 (by rw [List.length_cons] at hg; omega) h2 hk1.2 (fun x hx2 => hx x (List.mem_cons_of_mem _ hx2))
    refine ⟨q2, h3, ?_⟩
    rw [aC_x hC hc (of_decide_eq_true hk1.1) n1, eb_r]
    have hd : nx N A q < N ∧ pD A (nx N A q) = true := by
      obtain ⟨d, t9, e9, hd9⟩ := dg_c c2
      have hdd : d ≤ 57 := (dg_d (v := c2) (by have := hx c2 (List.mem_cons_of_mem _ List.mem_cons_self); omega) d (by rw [e9]; exact List.mem_cons_self)).2
      have h4 : ∃ t8, Atx N A (nx N A q) (d :: t8) := by
        cases t with
        | nil => exact ⟨t9 ++ r, by have h5 : Atx N A (nx N A q) (dg c2 ++ r) := h2; rw [e9] at h5; exact h5⟩
        | cons c3 t => exact ⟨t9 ++ 32 :: clx (c3 :: t) r, by have h5 : Atx N A (nx N A q) (dg c2 ++ 32 :: clx (c3 :: t) r) := h2; rw [e9] at h5; exact h5⟩
      obtain ⟨t8, h5⟩ := h4
      have h6 := h5.hd
      exact ⟨h6.1, by rw [pD_c h6.2.1 h6.2.2]; exact decide_eq_true ⟨hd9, hdd⟩⟩
    show (if nx N A q < N ∧ pD A (nx N A q) = true then _ else _) = _
    rw [if_pos hd]
    exact e3
theorem a_flag {x c d m C : Nat} (h : Atx N A q (((((((zs_tx 24 ++ dg x) ++ [32]) ++ dg c) ++ [32]) ++ dg d) ++ xbit (jn m) C) ++ r)) (hs : ES r) (hx : x < qN L) (hN : qN L ≤ 4) (hc : c ≤ 3) (hd : d ≤ 9) (hC : qC L = C) (hC4 : 1 ≤ C ∧ C ≤ 4) (hm : 1 ≤ m ∧ m < 2 ^ C) (hF : qF L < 12) : ∃ q2, Atx N A q2 r ∧ aLines N A (f + 1) q L = aLines N A f q2 (Ladd L (jn x) (jn m) (jn c) (jn d)) := by
  have p4 : 2 ^ C ≤ 2 ^ 4 := Nat.pow_le_pow_right (by omega) hC4.2
  obtain ⟨b1, b2, b3, b4, b5⟩ := bts_a ⟨C, by omega⟩ ⟨m, by omega⟩ hm.1 hm.2
  dsimp only at b1 b2 b3 b4 b5
  rw [b5, kw_t.2.2.2.2.1] at h
  have hall := List.all_eq_true.mp b4
  cases eb9 : bts m C with
  | nil => rw [eb9, List.length_nil] at b1; omega
  | cons c1 t =>
    rw [eb9] at h b1 b2 b3 hall
    simp only [List.cons_append, List.append_assoc, List.nil_append] at h
    rw [← clx_app (c1 :: t) r] at h
    obtain ⟨q1, h1, k1, w1, e1⟩ := ln_k (L := L) (f := f) h (k := 5) (by omega) (NB_dg x _)
    obtain ⟨n1, h2⟩ := aN_B (lo := 0) (hi := qN L - 1) h1 (by omega) (by omega) (by omega) (by omega) (NB_dg c _)
    obtain ⟨n2, h3⟩ := aN_B (lo := 0) (hi := 3) h2 (by omega) (by omega) hc (by omega) (NB_dg d _)
    obtain ⟨n3, h4⟩ := aN_B (lo := 0) (hi := 9) h3 (by omega) (by omega) hd (by omega) NB_clx
    obtain ⟨q5, h5, e5⟩ := aC_all hC4 hs t c1 (jn 0) _ 6 (by rw [List.length_cons] at b1; omega) h4 b2 (fun y hy => of_decide_eq_true (hall y hy))
    refine ⟨q5, h5, ?_⟩
    rw [b3] at e5
    have e2 : aLine N A q1 L = .inr (q5, Ladd L (jn x) (jn m) (jn c) (jn d)) := by
      obtain ⟨z9, e6, e7⟩ := eb_ok e5
      unfold aLine aFlag
      rw [if_pos k1, if_neg (by rw [w1 2 (by omega) (by omega)]; decide), if_neg (by rw [w1 3 (by omega) (by omega)]; decide), if_neg (by rw [w1 4 (by omega) (by omega)]; decide), if_pos (by rw [w1 5 (by omega) (by omega)]; rfl), if_neg (by omega), jn_sub (show 1 ≤ qN L by omega), n1, eb_r, n2, eb_r, n3, eb_r, hC, e6, eb_r, e7]
      rfl
    rw [e1, e2]
    rfl
theorem a_wind {v : Nat} (h : Atx N A q ((zs_tx 25 ++ dg v) ++ r)) (hs : ES r) (hv : v ≤ 9) : ∃ q2, Atx N A q2 r ∧ aLines N A (f + 1) q L = aLines N A f q2 (ls L 1 (jn v)) := by
  rw [kw_t.2.2.2.2.2.1] at h
  simp only [List.cons_append, List.append_assoc, List.nil_append] at h
  obtain ⟨q1, h1, k1, w1, e1⟩ := ln_k (L := L) (f := f) h (k := 9) (by omega) (NB_dg v r)
  obtain ⟨n1, h2⟩ := aN_S (lo := 0) (hi := 9) h1 (by omega) (by omega) hv (by omega) hs
  refine ⟨_, h2, ?_⟩
  have e2 : aLine N A q1 L = .inr (nx N A (nx N A q1), ls L 1 (jn v)) := by
    unfold aLine aWind
    rw [if_pos k1, if_neg (by rw [w1 2 (by omega) (by omega)]; decide), if_neg (by rw [w1 3 (by omega) (by omega)]; decide), if_neg (by rw [w1 4 (by omega) (by omega)]; decide), if_neg (by rw [w1 5 (by omega) (by omega)]; decide), if_neg (by rw [w1 6 (by omega) (by omega)]; decide), if_neg (by rw [w1 7 (by omega) (by omega)]; decide), if_neg (by rw [w1 8 (by omega) (by omega)]; decide), if_pos (by rw [w1 9 (by omega) (by omega)]; rfl), n1]
    rfl
  rw [e1, e2]
  rfl
theorem a_put {v : Nat} (h : Atx N A q (((zs_tx 26 ++ dg v) ++ zs_tx 27) ++ r)) (hs : ES r) (hv : v < qF L) (hF : qF L ≤ 12) (hv2 : v < 2) (hT : 1 ≤ qT L ∧ qT L ≤ 3) (hy : yput L v 0 = jn 0) : ∃ q2, Atx N A q2 r ∧ aLines N A (f + 1) q L = aLines N A f q2 (Lput L v 0) := by
  rw [kw_t.2.2.2.2.2.2.1, kw_t.2.2.2.2.2.2.2.1] at h
  simp only [List.cons_append, List.append_assoc, List.nil_append] at h
  obtain ⟨q1, h1, k1, w1, e1⟩ := ln_k (L := L) (f := f) h (k := 6) (by omega) (NB_dg v _)
  obtain ⟨n1, h2⟩ := aN_B (lo := 0) (hi := qF L - 1) h1 (by omega) (by omega) (by omega) (by omega) (NB_dg 0 _)
  obtain ⟨n2, h3⟩ := aN_S (lo := 0) (hi := qT L - 1) h2 (by omega) (by omega) (by omega) (by omega) hs
  refine ⟨_, h3, ?_⟩
  have e2 : aLine N A q1 L = .inr (nx N A (nx N A (nx N A q1)), Lput L v 0) := by
    unfold aLine aPut
    rw [if_pos k1, if_neg (by rw [w1 2 (by omega) (by omega)]; decide), if_neg (by rw [w1 3 (by omega) (by omega)]; decide), if_neg (by rw [w1 4 (by omega) (by omega)]; decide), if_neg (by rw [w1 5 (by omega) (by omega)]; decide), if_pos (by rw [w1 6 (by omega) (by omega)]; rfl), jn_sub (show 1 ≤ qF L by omega), n1, eb_r, jn_sub hT.1, n2, eb_r]
    show (if yput L (z_n (jn v)) (z_n (jn 0)) = jn 0 then _ else _) = _
    rw [jn_n (by omega), jn_n (by omega), if_pos hy]
  rw [e1, e2]
  rfl
theorem a_wash (h : Atx N A q (zs_tx 28)) (hT : 1 ≤ qT L ∧ qT L ≤ 3) (hy : ywash L 0 (jn 0) = jn 0) : ∃ q2, Atx N A q2 [] ∧ aLines N A (f + 1) q L = aLines N A f q2 (Lwsh L 0 (jn 0)) := by
  rw [kw_t.2.2.2.2.2.2.2.2] at h
  obtain ⟨q1, h1, k1, w1, e1⟩ := ln_k (L := L) (f := f) h (k := 7) (by omega) (NB_dg 0 _)
  obtain ⟨n1, h2⟩ := aN_B (lo := 0) (hi := qT L - 1) h1 (by omega) (by omega) (by omega) (by omega) (by have := NB_dg 0 []; rw [List.append_nil] at this; exact this)
  rw [← List.append_nil (dg 0)] at h2
  obtain ⟨n2, h3⟩ := aN_S (lo := 0) (hi := 3) h2 (by omega) (by omega) (by omega) (by omega) (Or.inl rfl)
  refine ⟨_, h3, ?_⟩
  have e2 : aLine N A q1 L = .inr (nx N A (nx N A (nx N A q1)), Lwsh L 0 (jn 0)) := by
    unfold aLine aWash
    rw [if_pos k1, if_neg (by rw [w1 2 (by omega) (by omega)]; decide), if_neg (by rw [w1 3 (by omega) (by omega)]; decide), if_neg (by rw [w1 4 (by omega) (by omega)]; decide), if_neg (by rw [w1 5 (by omega) (by omega)]; decide), if_neg (by rw [w1 6 (by omega) (by omega)]; decide), if_pos (by rw [w1 7 (by omega) (by omega)]; rfl), jn_sub hT.1, n1, eb_r, n2, eb_r]
    show (if ywash L (z_n (jn 0)) (jn 0) = jn 0 then _ else _) = _
    rw [jn_n (by omega), if_pos hy]
  rw [e1, e2]
  rfl
end LINES
section ROWSX
variable {N : Nat} {A : Nat → Int32}
theorem ES_k {k : Nat} (hk : 21 ≤ k ∧ k ≤ 28 ∧ ¬ k = 27) (r : List Nat) : ES (zs_tx k ++ r) := by
  have h := kw_t
  rcases (show k = 21 ∨ k = 22 ∨ k = 23 ∨ k = 24 ∨ k = 25 ∨ k = 26 ∨ k = 28 by omega) with e | e | e | e | e | e | e <;> rw [e]
  · rw [h.2.1]; exact Or.inr ⟨_, rfl⟩
  · rw [h.2.2.1]; exact Or.inr ⟨_, rfl⟩
  · rw [h.2.2.2.1]; exact Or.inr ⟨_, rfl⟩
  · rw [h.2.2.2.2.1]; exact Or.inr ⟨_, rfl⟩
  · rw [h.2.2.2.2.2.1]; exact Or.inr ⟨_, rfl⟩
  · rw [h.2.2.2.2.2.2.1]; exact Or.inr ⟨_, rfl⟩
  · rw [h.2.2.2.2.2.2.2.2]; exact Or.inr ⟨_, rfl⟩
theorem a_cols (r : Nat → Nat) : ∀ (n : Nat) (s : List Nat) (q f : Nat) (L : LL), qC L + n ≤ 6 → (∀ c, c < n → r c ≤ 4) → ES s → Atx N A q (xcol r n ++ s) → ∃ q2, Atx N A q2 s ∧ aLines N A (f + n) q L = aLines N A f q2 (Lcs r n L)
  | 0, s, q, f, L, _, _, _, h => ⟨q, h, rfl⟩
  | n + 1, s, q, f, L, h6, hr, hs, h => by
    have h0 : Atx N A q (xcol r n ++ ((zs_tx 21 ++ dg (r n)) ++ s)) := by
      have e : xcol r (n + 1) ++ s = xcol r n ++ ((zs_tx 21 ++ dg (r n)) ++ s) := by
        show (xcol r n ++ (zs_tx 21 ++ dg (r n))) ++ s = _
        rw [List.append_assoc]
      rw [← e]; exact h
    obtain ⟨q1, h1, e1⟩ := a_cols r n ((zs_tx 21 ++ dg (r n)) ++ s) q (f + 1) L (by omega) (fun c hc => hr c (by omega)) (by rw [List.append_assoc]; exact ES_k (by omega) _) h0
    obtain ⟨q2, h2, e2⟩ := a_col (L := Lcs r n L) (f := f) h1 hs (hr n (by omega)) (by rw [(Lcs_d r L n).2.1]; omega)
    refine ⟨q2, h2, ?_⟩
    rw [show f + (n + 1) = f + 1 + n by omega, e1, e2]
    rfl
theorem a_nats (v : Nat → Nat → Nat) : ∀ (n : Nat) (s : List Nat) (q f : Nat) (L : LL), qN L + n ≤ 4 → (∀ c, c < n → v c 0 ≤ 16 ∧ (1 ≤ v c 1 ∧ v c 1 ≤ 16) ∧ v c 2 ≤ 9) → ES s → Atx N A q (xnat v n ++ s) → ∃ q2, Atx N A q2 s ∧ aLines N A (f + n) q L = aLines N A f q2 (Lns v n L)
  | 0, s, q, f, L, _, _, _, h => ⟨q, h, rfl⟩
  | n + 1, s, q, f, L, h6, hr, hs, h => by
    have h0 : Atx N A q (xnat v n ++ ((((((zs_tx 22 ++ dg (v n 0)) ++ [32]) ++ dg (v n 1)) ++ [32]) ++ dg (v n 2)) ++ s)) := by
      have e : xnat v (n + 1) ++ s = xnat v n ++ ((((((zs_tx 22 ++ dg (v n 0)) ++ [32]) ++ dg (v n 1)) ++ [32]) ++ dg (v n 2)) ++ s) := by
        show (xnat v n ++ _) ++ s = _
        rw [List.append_assoc]
      rw [← e]; exact h
    obtain ⟨q1, h1, e1⟩ := a_nats v n _ q (f + 1) L (by omega) (fun c hc => hr c (by omega)) (by simp only [List.append_assoc]; exact ES_k (by omega) _) h0
    have h3 := hr n (by omega)
    obtain ⟨q2, h2, e2⟩ := a_nat (L := Lns v n L) (f := f) h1 hs h3.1 h3.2.1 h3.2.2 (by rw [(Lns_d v L n).2.2.1]; omega)
    refine ⟨q2, h2, ?_⟩
    rw [show f + (n + 1) = f + 1 + n by omega, e1, e2]
    rfl
theorem a_tubs (r : Nat → Nat) : ∀ (n : Nat) (s : List Nat) (q f : Nat) (L : LL), qT L + n ≤ 3 → (∀ c, c < n → 1 ≤ r c ∧ r c ≤ 4) → ES s → Atx N A q (xtub r n ++ s) → ∃ q2, Atx N A q2 s ∧ aLines N A (f + n) q L = aLines N A f q2 (Lts r n L)
  | 0, s, q, f, L, _, _, _, h => ⟨q, h, rfl⟩
  | n + 1, s, q, f, L, h6, hr, hs, h => by
    have h0 : Atx N A q (xtub r n ++ ((zs_tx 23 ++ dg (r n)) ++ s)) := by
      have e : xtub r (n + 1) ++ s = xtub r n ++ ((zs_tx 23 ++ dg (r n)) ++ s) := by
        show (xtub r n ++ (zs_tx 23 ++ dg (r n))) ++ s = _
        rw [List.append_assoc]
      rw [← e]; exact h
    obtain ⟨q1, h1, e1⟩ := a_tubs r n _ q (f + 1) L (by omega) (fun c hc => hr c (by omega)) (by rw [List.append_assoc]; exact ES_k (by omega) _) h0
    have h3 := hr n (by omega)
    obtain ⟨q2, h2, e2⟩ := a_tub (L := Lts r n L) (f := f) h1 hs ⟨h3.1, by omega⟩ (by rw [(Lts_d r L n).2.2.2]; omega)
    refine ⟨q2, h2, ?_⟩
    rw [show f + (n + 1) = f + 1 + n by omega, e1, e2]
    rfl
theorem a_flags (C : Nat) (hC4 : 1 ≤ C ∧ C ≤ 4) (vf : Nat → Nat → Nat) (mf : Nat → Int32) : ∀ (n : Nat) (s : List Nat) (q f : Nat) (L : LL), qF L + n ≤ 12 → qC L = C → qN L ≤ 4 → (∀ k, k < n → vf k 0 + 1 ≤ qN L ∧ vf k 2 ≤ 3 ∧ vf k 3 ≤ 9 ∧ ∃ m, 1 ≤ m ∧ m < 2 ^ C ∧ mf k = jn m) → ES s → Atx N A q (xflg C vf mf n ++ s) → ∃ q2, Atx N A q2 s ∧ aLines N A (f + n) q L = aLines N A f q2 (Lfs vf mf n L)
  | 0, s, q, f, L, _, _, _, _, _, h => ⟨q, h, rfl⟩
  | n + 1, s, q, f, L, h6, hC, hN, hr, hs, h => by
    obtain ⟨b1, b2, b3, m, m1, m2, m3⟩ := hr n (by omega)
    have h0 : Atx N A q (xflg C vf mf n ++ (((((((zs_tx 24 ++ dg (vf n 0)) ++ [32]) ++ dg (vf n 2)) ++ [32]) ++ dg (vf n 3)) ++ xbit (jn m) C) ++ s)) := by
      have e : xflg C vf mf (n + 1) ++ s = xflg C vf mf n ++ (((((((zs_tx 24 ++ dg (vf n 0)) ++ [32]) ++ dg (vf n 2)) ++ [32]) ++ dg (vf n 3)) ++ xbit (mf n) C) ++ s) := by
        show (xflg C vf mf n ++ _) ++ s = _
        rw [List.append_assoc]
      rw [← m3, ← e]; exact h
    obtain ⟨q1, h1, e1⟩ := a_flags C hC4 vf mf n _ q (f + 1) L (by omega) hC hN (fun c hc => hr c (by omega)) (by simp only [List.append_assoc]; exact ES_k (by omega) _) h0
    have hd := Lfs_d vf mf L n
    obtain ⟨q2, h2, e2⟩ := a_flag (L := Lfs vf mf n L) (f := f) h1 hs (by rw [hd.2.2.1]; omega) (by rw [hd.2.2.1]; exact hN) b2 b3 (by rw [hd.2.1]; exact hC) hC4 ⟨m1, m2⟩ (by rw [hd.1]; omega)
    refine ⟨q2, h2, ?_⟩
    rw [show f + (n + 1) = f + 1 + n by omega, e1, e2, ← m3]
    rfl
end ROWSX
