/-! tokens of the law's text: by wip/gen/p64/j98p.py -/
def Atx (N : Nat) (A : Nat → Int32) (q : Nat) (r : List Nat) : Prop := q + r.length = N ∧ (∀ i, i < r.length → A (q + i) = jn (r.getD i 0)) ∧ ∀ c ∈ r, c < 128
/-- what follows begins with no blank; ends, or begins with a semicolon -/
def NB (r : List Nat) : Prop := ∀ c, r.head? = some c → ¬ c = 32
def ES (r : List Nat) : Prop := r = [] ∨ ∃ t, r = 59 :: t
theorem NB_c {c : Nat} {t : List Nat} (h : ¬ c = 32) : NB (c :: t) := fun c2 h2 => by
  have h3 : c = c2 := Option.some.inj h2
  rw [← h3]; exact h
theorem NB_nil : NB [] := fun c h => by cases h
theorem ES.nb {r : List Nat} (h : ES r) : NB r := by
  rcases h with h | ⟨t, h⟩
  · rw [h]; exact NB_nil
  · rw [h]; exact NB_c (by omega)
theorem dg_c (v : Nat) : ∃ c t, dg v = c :: t ∧ 48 ≤ c := by
  unfold dg
  by_cases h : v < 10
  · exact ⟨_, _, if_pos h, by omega⟩
  · exact ⟨_, _, if_neg h, by omega⟩
theorem NB_dg (v : Nat) (r : List Nat) : NB (dg v ++ r) := by
  obtain ⟨c, t, e, hc⟩ := dg_c v
  rw [e]
  exact NB_c (by omega)
section TOKS
variable {N q : Nat} {A : Nat → Int32} {u r : List Nat}
theorem Atx.app (h : Atx N A q (u ++ r)) : Atx N A (q + u.length) r := by
  obtain ⟨h1, h2, h3⟩ := h
  rw [List.length_append] at h1 h2
  refine ⟨by omega, fun i hi => ?_, fun c hc => h3 c (List.mem_append_right _ hc)⟩
  have h4 := h2 (u.length + i) (by omega)
  rw [Nat.add_assoc, h4, List.getD_eq_getElem?_getD, List.getD_eq_getElem?_getD, List.getElem?_append_right (by omega), Nat.add_sub_cancel_left]
theorem Atx.lef (h : Atx N A q (u ++ r)) {i : Nat} (hi : i < u.length) : A (q + i) = jn (u.getD i 0) ∧ u.getD i 0 < 128 := by
  obtain ⟨h1, h2, h3⟩ := h
  have h4 := h2 i (by rw [List.length_append]; omega)
  rw [List.getD_eq_getElem?_getD, List.getElem?_append_left hi, ← List.getD_eq_getElem?_getD] at h4
  exact ⟨h4, h3 _ (List.mem_append_left _ (gdm hi))⟩
theorem Atx.hd {c : Nat} (h : Atx N A q (c :: r)) : q < N ∧ A q = jn c ∧ c < 128 := by
  obtain ⟨h1, h2, h3⟩ := h
  rw [List.length_cons] at h1
  exact ⟨by omega, h2 0 (by rw [List.length_cons]; omega), h3 c List.mem_cons_self⟩
theorem Atx.tl {c : Nat} (h : Atx N A q (c :: r)) : Atx N A (q + 1) r := Atx.app (u := [c]) h
theorem jcl : ∀ c : Fin 128, decide (¬ jn c.val < jn 97 ∧ ¬ jn 122 < jn c.val) = decide (97 ≤ c.val ∧ c.val ≤ 122) ∧ decide (¬ jn c.val < jn 48 ∧ ¬ jn 57 < jn c.val) = decide (48 ≤ c.val ∧ c.val ≤ 57) ∧ decide (jn c.val = jn 32) = decide (c.val = 32) := by decide +kernel
theorem pL_c {k c : Nat} (h : A k = jn c) (hc : c < 128) : pL A k = decide (97 ≤ c ∧ c ≤ 122) := by
  unfold pL
  rw [h]
  exact (jcl ⟨c, hc⟩).1
theorem pD_c {k c : Nat} (h : A k = jn c) (hc : c < 128) : pD A k = decide (48 ≤ c ∧ c ≤ 57) := by
  unfold pD
  rw [h]
  exact (jcl ⟨c, hc⟩).2.1
theorem pB_c {k c : Nat} (h : A k = jn c) (hc : c < 128) : pB A k = decide (c = 32) := by
  unfold pB
  rw [h]
  exact (jcl ⟨c, hc⟩).2.2
theorem jrun_eq {P : Nat → Bool} {m : Nat} (h : q + m ≤ N) (h1 : ∀ i, i < m → P (q + i) = true) (h2 : q + m = N ∨ P (q + m) = false) : jrun P N q = q + m := by
  have hle := jrun_le (P := P) (N := N) (p := q) (by omega)
  by_cases a1 : jrun P N q < q + m
  · have b1 := jrun_at (P := P) (N := N) (p := q) (by omega) (by omega)
    have b2 := h1 (jrun P N q - q) (by omega)
    rw [show q + (jrun P N q - q) = jrun P N q by omega, b1] at b2
    cases b2
  · by_cases a2 : q + m < jrun P N q
    · have b1 := jrun_in (P := P) (N := N) (p := q) (j := q + m) (by omega) a2
      rcases h2 with h2 | h2
      · omega
      · rw [h2] at b1; cases b1
    · omega
theorem Atx.run (cp : Nat → Bool) (P : Nat → Bool) (hP : ∀ k c, A k = jn c → c < 128 → P k = cp c) (h : Atx N A q (u ++ r)) (hu : ∀ c ∈ u, cp c = true) (hr : ∀ c, r.head? = some c → cp c = false) : jrun P N q = q + u.length := by
  have h1 := h.1
  rw [List.length_append] at h1
  refine jrun_eq (by omega) (fun i hi => ?_) ?_
  · obtain ⟨a1, a2⟩ := h.lef hi
    rw [hP _ _ a1 a2]
    exact hu _ (gdm hi)
  · have ha := h.app
    cases r with
    | nil => exact Or.inl (by rw [List.length_nil] at h1; omega)
    | cons c t =>
      obtain ⟨b1, b2, b3⟩ := ha.hd
      exact Or.inr (by rw [hP _ _ b2 b3]; exact hr c rfl)
theorem tS_0 (h : Atx N A q r) (hb : NB r) : tS N A q = q := by
  have k := Atx.run (u := []) (r := r) (fun c => decide (c = 32)) (pB A) (fun k c h1 h2 => pB_c h1 h2) h (fun c hc => absurd hc List.not_mem_nil) (fun c hc => decide_eq_false (hb c hc))
  exact k
theorem tS_1 (h : Atx N A q (32 :: r)) (hb : NB r) : tS N A q = q + 1 := by
  have k := Atx.run (u := [32]) (r := r) (fun c => decide (c = 32)) (pB A) (fun k c h1 h2 => pB_c h1 h2) h (fun c hc => by rw [List.mem_singleton.mp hc]; rfl) (fun c hc => decide_eq_false (hb c hc))
  exact k
theorem tok_w (h : Atx N A q (u ++ 32 :: r)) (hu : 1 ≤ u.length ∧ u.length ≤ 6) (hl : ∀ c ∈ u, 97 ≤ c ∧ c ≤ 122) (hb : NB r) : tK N A q = 2 ∧ tE N A q = q + u.length ∧ Atx N A (nx N A q) r := by
  have h1 := h.1
  rw [List.length_append, List.length_cons] at h1
  have k := Atx.run (u := u) (r := 32 :: r) (fun c => decide (97 ≤ c ∧ c ≤ 122)) (pL A) (fun k c h1 h2 => pL_c h1 h2) h (fun c hc => decide_eq_true (hl c hc)) (fun c hc => by
    have h3 : 32 = c := Option.some.inj hc
    rw [← h3]; rfl)
  have l0 := h.lef (i := 0) (by omega)
  have p0 : pL A q = true := by
    rw [pL_c (k := q) l0.1 l0.2]
    exact decide_eq_true (hl _ (gdm (by omega)))
  have e : tE N A q = q + u.length := by
    unfold tE
    rw [if_pos (by omega), if_pos p0, k]
  have ha := h.app
  refine ⟨?_, e, ?_⟩
  · unfold tK
    rw [if_pos (by omega), if_pos p0, e, if_neg (by omega)]
  · unfold nx
    rw [e, tS_1 ha hb]
    exact ha.tl
theorem tok_n (h : Atx N A q (u ++ r)) (hu : 1 ≤ u.length ∧ u.length ≤ 2) (hl : ∀ c ∈ u, 48 ≤ c ∧ c ≤ 57) (hb : ∀ c, r.head? = some c → ¬ (48 ≤ c ∧ c ≤ 57)) : tK N A q = 3 ∧ tE N A q = q + u.length := by
  have h1 := h.1
  rw [List.length_append] at h1
  have k := Atx.run (u := u) (r := r) (fun c => decide (48 ≤ c ∧ c ≤ 57)) (pD A) (fun k c h1 h2 => pD_c h1 h2) h (fun c hc => decide_eq_true (hl c hc)) (fun c hc => decide_eq_false (hb c hc))
  have l0 := h.lef (i := 0) (by omega)
  have c0 := hl _ (gdm (l := u) (i := 0) (by omega))
  have p0 : pL A q = false := by
    rw [pL_c (k := q) l0.1 l0.2]
    exact decide_eq_false (by omega)
  have p1 : pD A q = true := by
    rw [pD_c (k := q) l0.1 l0.2]
    exact decide_eq_true c0
  have e : tE N A q = q + u.length := by
    unfold tE
    rw [if_pos (by omega), p0, if_neg (by decide), if_pos p1, k]
  refine ⟨?_, e⟩
  unfold tK
  rw [if_pos (by omega), p0, if_neg (by decide), if_pos p1, e, if_neg (by omega)]
theorem tok_s (h : Atx N A q (59 :: r)) (hb : NB r) : tK N A q = 4 ∧ Atx N A (nx N A q) r := by
  obtain ⟨h1, h2, -⟩ := h.hd
  have p0 : pL A q = false := pL_c h2 (by omega)
  have p1 : pD A q = false := pD_c h2 (by omega)
  have e : tE N A q = q + 1 := by
    unfold tE
    rw [if_pos h1, p0, if_neg (by decide), p1, if_neg (by decide)]
  constructor
  · unfold tK
    rw [if_pos h1, p0, if_neg (by decide), p1, if_neg (by decide), h2, if_pos rfl]
  · unfold nx
    rw [e, tS_0 h.tl hb]
    exact h.tl
theorem tok_e (h : Atx N A q []) : tK N A q = 1 := by
  have h1 := h.1
  rw [List.length_nil] at h1
  unfold tK
  rw [if_neg (by omega)]
/-! numbers -/
theorem dg_d {v : Nat} (h : v < 17) : ∀ c ∈ dg v, 48 ≤ c ∧ c ≤ 57 := by
  have k : ∀ v : Fin 17, (dg v.val).all (fun c => decide (48 ≤ c ∧ c ≤ 57)) = true := by decide
  exact fun c hc => of_decide_eq_true (List.all_eq_true.mp (k ⟨v, h⟩) c hc)
theorem dg_v {v : Nat} (h : v < 17) {g : Nat → Int32} (hg : ∀ i, i < (dg v).length → g i = jn ((dg v).getD i 0)) : jfd (fun i x => ((x * jn 10) + g i) - jn 48) (jn 0) (dg v).length = jn v := by
  by_cases h9 : v < 10
  · have e : dg v = [48 + v] := if_pos h9
    rw [e] at hg ⊢
    have g0 : g 0 = jn (48 + v) := hg 0 (Nat.zero_lt_succ _)
    show ((jn 0 * jn 10) + g 0) - jn 48 = jn v
    rw [g0]
    have k : ∀ v : Fin 17, ((jn 0 * jn 10) + jn (48 + v.val)) - jn 48 = jn v.val := by decide +kernel
    exact k ⟨v, h⟩
  · have e : dg v = [48 + v / 10, 48 + v % 10] := if_neg h9
    rw [e] at hg ⊢
    have g0 : g 0 = jn (48 + v / 10) := hg 0 (Nat.zero_lt_succ _)
    have g1 : g 1 = jn (48 + v % 10) := hg 1 (Nat.lt_succ_self _)
    show ((((jn 0 * jn 10) + g 0) - jn 48) * jn 10 + g 1) - jn 48 = jn v
    rw [g0, g1]
    have k : ∀ v : Fin 17, ((((jn 0 * jn 10) + jn (48 + v.val / 10)) - jn 48) * jn 10 + jn (48 + v.val % 10)) - jn 48 = jn v.val := by decide +kernel
    exact k ⟨v, h⟩
theorem dg_l {v : Nat} : 1 ≤ (dg v).length ∧ (dg v).length ≤ 2 := by
  obtain ⟨c, t, e, -⟩ := dg_c v
  refine ⟨?_, dg_len v⟩
  rw [e, List.length_cons]; omega
theorem aN_x {v lo hi : Nat} (h : Atx N A q (dg v ++ r)) (hv : v < 17) (h1 : lo ≤ v) (h2 : v ≤ hi) (h3 : hi < 1000) (hb : ∀ c, r.head? = some c → ¬ (48 ≤ c ∧ c ≤ 57)) : aNum N A (jn lo) (jn hi) q = .inr (jn v, nx N A q) ∧ tE N A q = q + (dg v).length := by
  obtain ⟨k1, k2⟩ := tok_n h dg_l (dg_d hv) hb
  have e : tV N A q = jn v := by
    unfold tV tW
    rw [k2, Nat.add_sub_cancel_left]
    exact dg_v hv (fun i hi => (h.lef hi).1)
  refine ⟨?_, k2⟩
  unfold aNum
  rw [if_pos k1, e, if_neg (by rw [jn_lt (by omega) (by omega)]; omega), if_neg (by rw [jn_lt (by omega) (by omega)]; omega)]
theorem aN_B {v lo hi : Nat} (h : Atx N A q (dg v ++ 32 :: r)) (hv : v < 17) (h1 : lo ≤ v) (h2 : v ≤ hi) (h3 : hi < 1000) (hb : NB r) : aNum N A (jn lo) (jn hi) q = .inr (jn v, nx N A q) ∧ Atx N A (nx N A q) r := by
  obtain ⟨k1, k2⟩ := aN_x h hv h1 h2 h3 (fun c hc => by
    have h3 : 32 = c := Option.some.inj hc
    omega)
  refine ⟨k1, ?_⟩
  unfold nx
  rw [k2, tS_1 h.app hb]
  exact h.app.tl
theorem aN_S {v lo hi : Nat} (h : Atx N A q (dg v ++ r)) (hv : v < 17) (h1 : lo ≤ v) (h2 : v ≤ hi) (h3 : hi < 1000) (hs : ES r) : aNum N A (jn lo) (jn hi) q = .inr (jn v, nx N A q) ∧ Atx N A (nx N A q) r := by
  obtain ⟨k1, k2⟩ := aN_x h hv h1 h2 h3 (fun c hc => by
    rcases hs with hs | ⟨t, hs⟩
    · rw [hs] at hc; cases hc
    · rw [hs] at hc
      have h3 : 59 = c := Option.some.inj hc
      omega)
  refine ⟨k1, ?_⟩
  unfold nx
  rw [k2, tS_0 h.app hs.nb]
  exact h.app
/-! words -/
theorem kw_a : ∀ k : Fin 11, 1 ≤ k.val → (1 ≤ zs_ln k.val ∧ zs_ln k.val ≤ 6) ∧ (zs_tx k.val).all (fun c => decide (97 ≤ c ∧ c ≤ 122)) = true ∧ ∀ i : Fin 6, i.val < zs_ln k.val → zs_ch k.val (jn i.val) = jn ((zs_tx k.val).getD i.val 0) := by decide +kernel
theorem kw_d : ∀ k k2 : Fin 11, 1 ≤ k.val → 1 ≤ k2.val → ¬ k = k2 → zs_ln k.val = zs_ln k2.val → ∃ i : Fin 6, i.val < zs_ln k.val ∧ ¬ jn ((zs_tx k.val).getD i.val 0) = zs_ch k2.val (jn i.val) := by decide +kernel
theorem tWd_is {k k2 : Nat} (h : Atx N A q (zs_tx k ++ 32 :: r)) (hk : 1 ≤ k ∧ k ≤ 10) (hk2 : 1 ≤ k2 ∧ k2 ≤ 10) (hb : NB r) : tWd N A q k2 = decide (k2 = k) := by
  have a := kw_a ⟨k, by omega⟩ hk.1
  have e := (tok_w h (by rw [zs_txl]; exact a.1) (fun c hc => of_decide_eq_true (List.all_eq_true.mp a.2.1 c hc)) hb).2.1
  unfold tWd
  rw [e, Nat.add_sub_cancel_left, zs_txl]
  have a1 := a.1.2
  dsimp only at a1
  by_cases q9 : k2 = k
  · rw [q9]
    rw [decide_eq_true (show k = k from rfl)]
    refine decide_eq_true ⟨rfl, fun i hi => ?_⟩
    rw [(h.lef (i := i) (by rw [zs_txl]; exact hi)).1]
    exact (a.2.2 ⟨i, by omega⟩ hi).symm
  · rw [decide_eq_false q9]
    refine decide_eq_false (fun z => ?_)
    obtain ⟨z1, z2⟩ := z
    obtain ⟨i, i1, i2⟩ := kw_d ⟨k, by omega⟩ ⟨k2, by omega⟩ hk.1 hk2.1 (fun z => q9 (congrArg (fun f : Fin 11 => f.val) z).symm) z1
    have i3 : i.val < zs_ln k := i1
    have z3 := z2 i.val (by omega)
    rw [(h.lef (i := i.val) (by rw [zs_txl]; exact i1)).1] at z3
    exact i2 z3
theorem tok_k {k : Nat} (h : Atx N A q (zs_tx k ++ 32 :: r)) (hk : 1 ≤ k ∧ k ≤ 10) (hb : NB r) : tK N A q = 2 ∧ Atx N A (nx N A q) r := by
  have a := kw_a ⟨k, by omega⟩ hk.1
  have e := tok_w h (by rw [zs_txl]; exact a.1) (fun c hc => of_decide_eq_true (List.all_eq_true.mp a.2.1 c hc)) hb
  exact ⟨e.1, e.2.2⟩
theorem kw_t : zs_tx 20 = zs_tx 1 ++ [32] ∧ zs_tx 21 = 59 :: (zs_tx 2 ++ [32]) ∧ zs_tx 22 = 59 :: (zs_tx 3 ++ [32]) ∧ zs_tx 23 = 59 :: (zs_tx 4 ++ [32]) ∧ zs_tx 24 = 59 :: (zs_tx 5 ++ [32]) ∧ zs_tx 25 = 59 :: (zs_tx 9 ++ [32]) ∧ zs_tx 26 = 59 :: (zs_tx 6 ++ [32]) ∧ zs_tx 27 = 32 :: dg 0 ∧ zs_tx 28 = 59 :: (zs_tx 7 ++ 32 :: (dg 0 ++ 32 :: dg 0)) := by decide +kernel
theorem NB_kw {k : Nat} (hk : 1 ≤ k ∧ k ≤ 10) (r : List Nat) : NB (zs_tx k ++ r) := by
  have a := kw_a ⟨k, by omega⟩ hk.1
  have a1 := a.1.1
  dsimp only at a1
  cases e : zs_tx k with
  | nil => have b := zs_txl k; rw [e, List.length_nil] at b; omega
  | cons c t =>
    have b := of_decide_eq_true (List.all_eq_true.mp a.2.1 c (by show c ∈ zs_tx k; rw [e]; exact List.mem_cons_self))
    exact NB_c (by omega)
/-- a line begins: its semicolon and its word -/
theorem ln_k {L : LL} {f k : Nat} (h : Atx N A q (59 :: (zs_tx k ++ 32 :: r))) (hk : 2 ≤ k ∧ k ≤ 10) (hb : NB r) : ∃ q1, Atx N A (nx N A q1) r ∧ tK N A q1 = 2 ∧ (∀ k2, 1 ≤ k2 → k2 ≤ 10 → tWd N A q1 k2 = decide (k2 = k)) ∧ aLines N A (f + 1) q L = eb (aLine N A q1 L) fun z => aLines N A f z.1 z.2 := by
  obtain ⟨s1, s2⟩ := tok_s h (NB_kw ⟨by omega, hk.2⟩ _)
  obtain ⟨s3, s4⟩ := tok_k s2 ⟨by omega, hk.2⟩ hb
  refine ⟨nx N A q, s4, s3, fun k2 h1 h2 => tWd_is s2 ⟨by omega, hk.2⟩ ⟨h1, h2⟩ hb, ?_⟩
  show (if tK N A q = 4 then _ else _) = _
  rw [if_pos s1]
end TOKS
