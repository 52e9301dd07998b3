/-! tokens: where they begin and end; how both sides read the next -/
def jrun (P : Nat → Bool) (N p : Nat) : Nat := jfst (fun i => !P i) (N - p) p
theorem jrun_le {P : Nat → Bool} {N p : Nat} (h : p ≤ N) : p ≤ jrun P N p ∧ jrun P N p ≤ N := by
  have k_ := jfst_le (P := fun i => !P i) (N - p) p
  unfold jrun
  omega
theorem jrun_in {P : Nat → Bool} {N p j : Nat} (h1 : p ≤ j) (h2 : j < jrun P N p) : P j = true := by
  have k_ := jfst_lt (P := fun i => !P i) (N - p) p j h1 h2
  cases e_ : P j with
  | true => rfl
  | false => rw [e_] at k_; cases k_
theorem jrun_at {P : Nat → Bool} {N p : Nat} (h : p ≤ N) (h2 : jrun P N p < N) : P (jrun P N p) = false := by
  have k_ := jfst_at (P := fun i => !P i) (N - p) p (by unfold jrun at h2; omega)
  unfold jrun
  cases e_ : P (jfst (fun i => !P i) (N - p) p) with
  | false => rfl
  | true => rw [e_] at k_; cases k_
def pB (A : Nat → Int32) (k : Nat) : Bool := decide (A k = jn 32)
def pL (A : Nat → Int32) (k : Nat) : Bool := decide (¬ A k < jn 97 ∧ ¬ jn 122 < A k)
def pD (A : Nat → Int32) (k : Nat) : Bool := decide (¬ A k < jn 48 ∧ ¬ jn 57 < A k)
/-- where the next token begins; where the one at q ends; its kind (0 none, 1 end, 2 word, 3 number, 4 semicolon), its value -/
def tS (N : Nat) (A : Nat → Int32) (p : Nat) : Nat := jrun (pB A) N p
def tE (N : Nat) (A : Nat → Int32) (q : Nat) : Nat := if q < N then (if pL A q = true then jrun (pL A) N q else if pD A q = true then jrun (pD A) N q else q + 1) else q
def tK (N : Nat) (A : Nat → Int32) (q : Nat) : Nat := if q < N then (if pL A q = true then (if 6 < tE N A q - q then 0 else 2) else if pD A q = true then (if 2 < tE N A q - q then 0 else 3) else if A q = jn 59 then 4 else 0) else 1
def tW (A : Nat → Int32) (q n : Nat) : Int32 := jfd (fun i v => ((v * jn 10) + A (q + i)) - jn 48) (jn 0) n
def tV (N : Nat) (A : Nat → Int32) (q : Nat) : Int32 := tW A q (tE N A q - q)
def nx (N : Nat) (A : Nat → Int32) (q : Nat) : Nat := tS N A (tE N A q)
theorem tE_le {N : Nat} {A : Nat → Int32} {q : Nat} (h : q ≤ N) : q ≤ tE N A q ∧ tE N A q ≤ N := by
  unfold tE
  have k1_ := jrun_le (P := pL A) h
  have k2_ := jrun_le (P := pD A) h
  by_cases h1_ : q < N
  · rw [if_pos h1_]
    by_cases h2_ : pL A q = true
    · rw [if_pos h2_]; exact k1_
    · rw [if_neg h2_]
      by_cases h3_ : pD A q = true
      · rw [if_pos h3_]; exact k2_
      · rw [if_neg h3_]; omega
  · rw [if_neg h1_]; omega
theorem tE_gt {N : Nat} {A : Nat → Int32} {q : Nat} (h : q < N) : q < tE N A q := by
  have s_ : ∀ P : Nat → Bool, P q = true → q < jrun P N q := fun P hP => by
    have k_ := (jrun_le (P := P) (Nat.le_of_lt h)).1
    rcases Nat.lt_or_ge q (jrun P N q) with w_ | w_
    · exact w_
    · have e_ : jrun P N q = q := by omega
      have k2_ := jrun_at (P := P) (Nat.le_of_lt h) (by omega)
      rw [e_, hP] at k2_
      cases k2_
  unfold tE
  rw [if_pos h]
  by_cases h2_ : pL A q = true
  · rw [if_pos h2_]; exact s_ _ h2_
  · rw [if_neg h2_]
    by_cases h3_ : pD A q = true
    · rw [if_pos h3_]; exact s_ _ h3_
    · rw [if_neg h3_]; omega
theorem nx_le {N : Nat} {A : Nat → Int32} {q : Nat} (h : q ≤ N) : q ≤ nx N A q ∧ nx N A q ≤ N := by
  have k1_ := tE_le (A := A) h
  have k2_ := jrun_le (P := pB A) k1_.2
  unfold nx tS
  omega
theorem nx_gt {N : Nat} {A : Nat → Int32} {q : Nat} (h : q < N) : q < nx N A q := by
  have k1_ := tE_gt (A := A) h
  have k2_ := jrun_le (P := pB A) (tE_le (A := A) (Nat.le_of_lt h)).2
  unfold nx tS
  omega
theorem tK_lt {N : Nat} {A : Nat → Int32} {q : Nat} (h : ¬ tK N A q = 1) : q < N := by
  unfold tK at h
  by_cases h1_ : q < N
  · exact h1_
  · rw [if_neg h1_] at h
    exact absurd rfl h
section TKC
variable {N p q : Nat} {A : Nat → Int32} {I : z_H} {a : Nat}
theorem sp_let (h3 : I 54 3 = jn N) (hN : N ≤ 500) (hA : ∀ k, k < N → I 1 k = A k) {k : Nat} (hk : k ≤ N) : d_P_isLetterAt a (jn k) I = some (if k < N ∧ pL A k = true then jn 1 else jn 0) := by
  unfold d_P_isLetterAt
  rw [h3]
  by_cases k_ : k < N
  · rw [if_pos (by rw [jn_lt (by omega) (by omega)]; exact k_), if_pos (show z_in (jn k) 500 by rw [jn_in (by omega)]; omega), jn_n (by omega), hA k k_]
    by_cases c_ : A k < jn 97
    · rw [if_pos c_, ob_s, if_pos (Or.inl rfl), if_neg (fun q_ => by
        have k2_ := q_.2
        unfold pL at k2_
        rw [decide_eq_true_eq] at k2_
        exact k2_.1 c_)]
    · rw [if_neg c_, if_pos (show z_in (jn k) 500 by rw [jn_in (by omega)]; omega)]
      by_cases c2_ : jn 122 < A k
      · rw [if_pos c2_, ob_s, if_pos (Or.inl rfl), if_neg (fun q_ => by
          have k2_ := q_.2
          unfold pL at k2_
          rw [decide_eq_true_eq] at k2_
          exact k2_.2 c2_)]
      · rw [if_neg c2_, ob_s, if_pos (Or.inr rfl), if_pos ⟨k_, by unfold pL; rw [decide_eq_true_eq]; exact ⟨c_, c2_⟩⟩]
  · rw [if_neg (by rw [jn_lt (by omega) (by omega)]; exact k_), ob_s, if_pos (Or.inl rfl), if_neg (fun q_ => k_ q_.1)]
theorem sp_dig (h3 : I 54 3 = jn N) (hN : N ≤ 500) (hA : ∀ k, k < N → I 1 k = A k) {k : Nat} (hk : k ≤ N) : d_P_isDigitAt a (jn k) I = some (if k < N ∧ pD A k = true then jn 1 else jn 0) := by
  unfold d_P_isDigitAt
  rw [h3]
  by_cases k_ : k < N
  · rw [if_pos (by rw [jn_lt (by omega) (by omega)]; exact k_), if_pos (show z_in (jn k) 500 by rw [jn_in (by omega)]; omega), jn_n (by omega), hA k k_]
    by_cases c_ : A k < jn 48
    · rw [if_pos c_, ob_s, if_pos (Or.inl rfl), if_neg (fun q_ => by
        have k2_ := q_.2
        unfold pD at k2_
        rw [decide_eq_true_eq] at k2_
        exact k2_.1 c_)]
    · rw [if_neg c_, if_pos (show z_in (jn k) 500 by rw [jn_in (by omega)]; omega)]
      by_cases c2_ : jn 57 < A k
      · rw [if_pos c2_, ob_s, if_pos (Or.inl rfl), if_neg (fun q_ => by
          have k2_ := q_.2
          unfold pD at k2_
          rw [decide_eq_true_eq] at k2_
          exact k2_.2 c2_)]
      · rw [if_neg c2_, ob_s, if_pos (Or.inr rfl), if_pos ⟨k_, by unfold pD; rw [decide_eq_true_eq]; exact ⟨c_, c2_⟩⟩]
  · rw [if_neg (by rw [jn_lt (by omega) (by omega)]; exact k_), ob_s, if_pos (Or.inl rfl), if_neg (fun q_ => k_ q_.1)]
theorem sp_skip (h3 : I 54 3 = jn N) (h4 : I 54 4 = jn p) (hp : p ≤ N) (hN : N ≤ 500) (hA : ∀ k, k < N → I 1 k = A k) : ∃ J, d_P_skipBlanks a I = some J ∧ (∀ b, ¬ b = 54 → J b = I b) ∧ (∀ k, ¬ k = 4 → J 54 k = I 54 k) ∧ J 54 4 = jn (tS N A p) := by
  have le_ := jrun_le (P := pB A) hp
  have z9_ : ∃ r, z_it (d_P_skipBlanks_2) z_F I = some r ∧ ((∀ b, ¬ b = 54 → r b = I b) ∧ (∀ k, ¬ k = 4 → r 54 k = I 54 k) ∧ r 54 4 = jn (tS N A p)) := by
    refine z_inv (fun (i : Nat) (s : z_H) => (∀ b, ¬ b = 54 → s b = I b) ∧ (∀ k, ¬ k = 4 → s 54 k = I 54 k) ∧ s 54 4 = jn (p + i)) (fun (r : z_H) => (∀ b, ¬ b = 54 → r b = I b) ∧ (∀ k, ¬ k = 4 → r 54 k = I 54 k) ∧ r 54 4 = jn (tS N A p)) (n := tS N A p - p) (by unfold tS; omega) ⟨fun _ _ => rfl, fun _ _ => rfl, h4⟩ (fun i s hi hs => ?_) (fun s hs => ?_)
    · unfold tS at hi
      obtain ⟨e1_, e2_, e3_⟩ := hs
      have b_ := jrun_in (P := pB A) (N := N) (p := p) (j := p + i) (by omega) (by omega)
      unfold pB at b_
      rw [decide_eq_true_eq] at b_
      unfold d_P_skipBlanks_2
      rw [e3_, e2_ 3 (by omega), h3, if_pos (by rw [jn_lt (by omega) (by omega)]; omega), if_pos (by rw [jn_in (by omega)]; omega), jn_n (by omega), if_pos (show s 1 (p + i) = jn 32 by rw [e1_ 1 (by omega), hA _ (by omega)]; exact b_)]
      refine ⟨_, rfl, fun b hb => by rw [ju_na hb]; exact e1_ b hb, fun k hk => by rw [ju_ne (fun q_ => hk q_.2)]; exact e2_ k hk, by rw [ju_at, jn_add]; rfl⟩
    · obtain ⟨e1_, e2_, e3_⟩ := hs
      have q_ : p + (tS N A p - p) = tS N A p := by unfold tS; omega
      rw [q_] at e3_
      unfold d_P_skipBlanks_2
      rw [e3_, e2_ 3 (by omega), h3]
      refine ⟨s, ?_, e1_, e2_, e3_⟩
      unfold tS
      by_cases l_ : jrun (pB A) N p < N
      · have b_ := jrun_at hp l_
        rw [if_pos (by rw [jn_lt (by omega) (by omega)]; exact l_), if_pos (by rw [jn_in (by omega)]; omega), jn_n (by omega), if_neg (show ¬ s 1 (jrun (pB A) N p) = jn 32 by
          rw [e1_ 1 (by omega), hA _ l_]
          intro k_
          unfold pB at b_
          rw [decide_eq_false_iff_not] at b_
          exact b_ k_)]
      · rw [if_neg (by rw [jn_lt (by omega) (by omega)]; exact l_)]
  obtain ⟨r_, e_, h_⟩ := z9_
  refine ⟨r_, ?_, h_⟩
  unfold d_P_skipBlanks
  rw [e_, ob_s]
theorem sp_lets (h3 : I 54 3 = jn N) (h4 : I 54 4 = jn q) (hq : q ≤ N) (hN : N ≤ 500) (hA : ∀ k, k < N → I 1 k = A k) : ∃ J, z_it (d_P_next_36 a) z_F I = some J ∧ (∀ b, ¬ b = 54 → J b = I b) ∧ (∀ k, ¬ k = 4 → J 54 k = I 54 k) ∧ J 54 4 = jn (jrun (pL A) N q) := by
  have le_ := jrun_le (P := pL A) hq
  refine z_inv (fun (i : Nat) (s : z_H) => (∀ b, ¬ b = 54 → s b = I b) ∧ (∀ k, ¬ k = 4 → s 54 k = I 54 k) ∧ s 54 4 = jn (q + i)) (fun (r : z_H) => (∀ b, ¬ b = 54 → r b = I b) ∧ (∀ k, ¬ k = 4 → r 54 k = I 54 k) ∧ r 54 4 = jn (jrun (pL A) N q)) (n := jrun (pL A) N q - q) (by omega) ⟨fun _ _ => rfl, fun _ _ => rfl, h4⟩ (fun i s hi hs => ?_) (fun s hs => ?_)
  · obtain ⟨e1_, e2_, e3_⟩ := hs
    have b_ := jrun_in (P := pL A) (N := N) (p := q) (j := q + i) (by omega) (by omega)
    have s3_ : s 54 3 = jn N := (e2_ 3 (by omega)).trans h3
    unfold d_P_next_36
    rw [e3_, s3_, if_pos (by rw [jn_lt (by omega) (by omega)]; omega), sp_let (A := A) s3_ hN (fun k hk => by rw [e1_ 1 (by omega)]; exact hA k hk) (by omega), ob_s, if_pos (show q + i < N ∧ pL A (q + i) = true from ⟨by omega, b_⟩), if_neg (show ¬ jn 1 = jn 0 by decide)]
    refine ⟨_, rfl, fun b hb => by rw [ju_na hb]; exact e1_ b hb, fun k hk => by rw [ju_ne (fun q_ => hk q_.2)]; exact e2_ k hk, by rw [ju_at, jn_add]; rfl⟩
  · obtain ⟨e1_, e2_, e3_⟩ := hs
    have q_ : q + (jrun (pL A) N q - q) = jrun (pL A) N q := by omega
    rw [q_] at e3_
    have s3_ : s 54 3 = jn N := (e2_ 3 (by omega)).trans h3
    unfold d_P_next_36
    rw [e3_, s3_]
    refine ⟨s, ?_, e1_, e2_, e3_⟩
    by_cases l_ : jrun (pL A) N q < N
    · have b_ := jrun_at hq l_
      rw [if_pos (by rw [jn_lt (by omega) (by omega)]; exact l_), sp_let (A := A) s3_ hN (fun k hk => by rw [e1_ 1 (by omega)]; exact hA k hk) (by omega), ob_s, if_neg (show ¬ (jrun (pL A) N q < N ∧ pL A (jrun (pL A) N q) = true) from fun k_ => by rw [b_] at k_; exact Bool.noConfusion k_.2), if_pos rfl]
    · rw [if_neg (by rw [jn_lt (by omega) (by omega)]; exact l_)]
theorem sp_digs (h3 : I 54 3 = jn N) (h4 : I 54 4 = jn q) (h7 : I 54 7 = jn 0) (hq : q ≤ N) (hN : N ≤ 500) (hA : ∀ k, k < N → I 1 k = A k) : ∃ J, z_it (d_P_next_26 a) z_F I = some J ∧ (∀ b, ¬ b = 54 → J b = I b) ∧ (∀ k, ¬ k = 4 → ¬ k = 7 → J 54 k = I 54 k) ∧ J 54 4 = jn (jrun (pD A) N q) ∧ J 54 7 = tW A q (jrun (pD A) N q - q) := by
  have le_ := jrun_le (P := pD A) hq
  refine z_inv (fun (i : Nat) (s : z_H) => (∀ b, ¬ b = 54 → s b = I b) ∧ (∀ k, ¬ k = 4 → ¬ k = 7 → s 54 k = I 54 k) ∧ s 54 4 = jn (q + i) ∧ s 54 7 = tW A q i) (fun (r : z_H) => (∀ b, ¬ b = 54 → r b = I b) ∧ (∀ k, ¬ k = 4 → ¬ k = 7 → r 54 k = I 54 k) ∧ r 54 4 = jn (jrun (pD A) N q) ∧ r 54 7 = tW A q (jrun (pD A) N q - q)) (n := jrun (pD A) N q - q) (by omega) ⟨fun _ _ => rfl, fun _ _ _ => rfl, h4, h7⟩ (fun i s hi hs => ?_) (fun s hs => ?_)
  · obtain ⟨e1_, e2_, e3_, e4_⟩ := hs
    have b_ := jrun_in (P := pD A) (N := N) (p := q) (j := q + i) (by omega) (by omega)
    have s3_ : s 54 3 = jn N := (e2_ 3 (by omega) (by omega)).trans h3
    unfold d_P_next_26
    rw [e3_, s3_, if_pos (by rw [jn_lt (by omega) (by omega)]; omega), sp_dig (A := A) s3_ hN (fun k hk => by rw [e1_ 1 (by omega)]; exact hA k hk) (by omega), ob_s, if_pos (show q + i < N ∧ pD A (q + i) = true from ⟨by omega, b_⟩), if_neg (show ¬ jn 1 = jn 0 by decide), if_pos (show z_in (jn (q + i)) 500 by rw [jn_in (by omega)]; omega), ob_s]
    refine ⟨_, rfl, fun b hb => by rw [ju_na hb, ju_na hb]; exact e1_ b hb, fun k hk hk2 => by rw [ju_ne (fun q_ => hk q_.2), ju_ne (fun q_ => hk2 q_.2)]; exact e2_ k hk hk2, ?_, ?_⟩
    · rw [ju_at, ju_ne (by omega), e3_, jn_add]; rfl
    · rw [ju_ne (by omega), ju_at, e4_, jn_n (by omega), e1_ 1 (by omega), hA _ (by omega)]
      rfl
  · obtain ⟨e1_, e2_, e3_, e4_⟩ := hs
    have q_ : q + (jrun (pD A) N q - q) = jrun (pD A) N q := by omega
    rw [q_] at e3_
    have s3_ : s 54 3 = jn N := (e2_ 3 (by omega) (by omega)).trans h3
    unfold d_P_next_26
    rw [e3_, s3_]
    refine ⟨s, ?_, e1_, e2_, e3_, e4_⟩
    by_cases l_ : jrun (pD A) N q < N
    · have b_ := jrun_at hq l_
      rw [if_pos (by rw [jn_lt (by omega) (by omega)]; exact l_), sp_dig (A := A) s3_ hN (fun k hk => by rw [e1_ 1 (by omega)]; exact hA k hk) (by omega), ob_s, if_neg (show ¬ (jrun (pD A) N q < N ∧ pD A (jrun (pD A) N q) = true) from fun k_ => by rw [b_] at k_; exact Bool.noConfusion k_.2), if_pos rfl]
    · rw [if_neg (by rw [jn_lt (by omega) (by omega)]; exact l_)]
theorem sp_failed0 (h : I 54 0 = jn 0) : d_P_failed I = some (jn 0) := by
  unfold d_P_failed
  rw [h, if_pos rfl, ob_s, if_pos (Or.inl rfl)]
theorem sp_failed1 (h : ¬ I 54 0 = jn 0) : d_P_failed I = some (jn 1) := by
  unfold d_P_failed
  rw [if_neg h, ob_s, if_pos (Or.inr rfl)]
theorem sp_fail0 (h : I 54 0 = jn 0) (x : Int32) : d_P_fail x I = some (ev_u2 (ev_u2 I 54 0 x) 54 1 (I 54 6)) := by
  unfold d_P_fail
  rw [h, if_pos rfl, ob_s, ju_ne (by omega)]
theorem sp_fail1 (h : ¬ I 54 0 = jn 0) (x : Int32) : d_P_fail x I = some I := by
  unfold d_P_fail
  rw [if_neg h, ob_s]
theorem sp_next1 (h : ¬ I 54 0 = jn 0) : d_P_next a I = some I := by
  unfold d_P_next
  rw [sp_failed1 h, ob_s, if_neg (show ¬ jn 1 = jn 0 by decide)]
/-- the next token, in the class -/
theorem sp_next (h0 : I 54 0 = jn 0) (h3 : I 54 3 = jn N) (h4 : I 54 4 = jn p) (hp : p ≤ N) (hN : N ≤ 500) (hA : ∀ k, k < N → I 1 k = A k) : ∃ J, d_P_next a I = some J ∧ (∀ b, ¬ b = 54 → J b = I b) ∧ J 54 3 = jn N ∧ J 54 6 = jn (tS N A p) ∧ (∃ p2, tS N A p ≤ p2 ∧ p2 ≤ N ∧ J 54 4 = jn p2) ∧ (tK N A (tS N A p) = 0 → J 54 0 = jn 1 ∧ J 54 1 = jn (tS N A p)) ∧ (¬ tK N A (tS N A p) = 0 → J 54 0 = jn 0 ∧ J 54 1 = I 54 1 ∧ J 54 4 = jn (tE N A (tS N A p)) ∧ J 54 5 = jn (tK N A (tS N A p) - 1) ∧ (tK N A (tS N A p) = 3 → J 54 7 = tV N A (tS N A p))) := by
  have qle_ : tS N A p ≤ N := (jrun_le (P := pB A) hp).2
  obtain ⟨K_, e_, f1_, f2_, f3_⟩ := sp_skip (a := a) h3 h4 hp hN hA
  generalize tS N A p = q_ at qle_ f3_ ⊢
  have tle_ := tE_le (A := A) qle_
  unfold d_P_next
  rw [sp_failed0 h0, ob_s, if_pos rfl, e_, ob_s]
  have k1_ : ∃ K1, K1 = ev_u2 K_ 54 6 (K_ 54 4) := ⟨_, rfl⟩
  obtain ⟨K1_, eK_⟩ := k1_
  rw [← eK_]
  have g1_ : ∀ b, ¬ b = 54 → K1_ b = I b := fun b hb => by rw [eK_, ju_na hb, f1_ b hb]
  have c0_ : K1_ 54 0 = jn 0 := by rw [eK_, ju_ne (by omega), f2_ 0 (by omega)]; exact h0
  have c1_ : K1_ 54 1 = I 54 1 := by rw [eK_, ju_ne (by omega), f2_ 1 (by omega)]
  have c3_ : K1_ 54 3 = jn N := by rw [eK_, ju_ne (by omega), f2_ 3 (by omega)]; exact h3
  have c4_ : K1_ 54 4 = jn q_ := by rw [eK_, ju_ne (by omega)]; exact f3_
  have c6_ : K1_ 54 6 = jn q_ := by rw [eK_, ju_at]; exact f3_
  have cA_ : ∀ k, k < N → K1_ 1 k = A k := fun k hk => by rw [g1_ 1 (by omega)]; exact hA k hk
  clear eK_
  rw [c3_, c4_]
  by_cases l_ : q_ < N
  · rw [if_pos (show jn q_ < jn N by rw [jn_lt (by omega) (by omega)]; exact l_), sp_let (A := A) c3_ hN cA_ (by omega), ob_s]
    by_cases pl_ : pL A q_ = true
    · have te_ : tE N A q_ = jrun (pL A) N q_ := by unfold tE; rw [if_pos l_, if_pos pl_]
      have tk_ : tK N A q_ = if 6 < tE N A q_ - q_ then 0 else 2 := by unfold tK; rw [if_pos l_, if_pos pl_]
      have u_ : ∀ k, ¬ k = 5 → ev_u2 K1_ 54 5 (jn 1) 54 k = K1_ 54 k := fun k hk => ju_ne (fun q2_ => hk q2_.2)
      obtain ⟨J_, j1_, j2_, j3_, j4_⟩ := sp_lets (a := a) (I := ev_u2 K1_ 54 5 (jn 1)) (A := A) ((u_ 3 (by omega)).trans c3_) ((u_ 4 (by omega)).trans c4_) qle_ hN (fun k hk => by rw [ju_na (by omega)]; exact cA_ k hk)
      have J5_ : J_ 54 5 = jn 1 := by rw [j3_ 5 (by omega), ju_at]
      have J6_ : J_ 54 6 = jn q_ := by rw [j3_ 6 (by omega), u_ 6 (by omega)]; exact c6_
      have J0_ : J_ 54 0 = jn 0 := by rw [j3_ 0 (by omega), u_ 0 (by omega)]; exact c0_
      have J1_ : J_ 54 1 = I 54 1 := by rw [j3_ 1 (by omega), u_ 1 (by omega)]; exact c1_
      have J3_ : J_ 54 3 = jn N := by rw [j3_ 3 (by omega), u_ 3 (by omega)]; exact c3_
      have Jf_ : ∀ b, ¬ b = 54 → J_ b = I b := fun b hb => by rw [j2_ b hb, ju_na hb, g1_ b hb]
      rw [if_pos (show q_ < N ∧ pL A q_ = true from ⟨l_, pl_⟩), if_neg (show ¬ jn 1 = jn 0 by decide), j1_, ob_s, ob_s, J5_, if_pos rfl, ob_s, j4_, J6_, ← te_, jn_sub tle_.1]
      by_cases m_ : 6 < tE N A q_ - q_
      · rw [if_pos (show jn 6 < jn (tE N A q_ - q_) by rw [jn_lt (by omega) (by omega)]; exact m_), sp_fail0 J0_, ob_s, ob_s]
        rw [if_pos m_] at tk_
        refine ⟨_, rfl, fun b hb => by rw [ju_na hb, ju_na hb]; exact Jf_ b hb, by rw [ju_ne (by omega), ju_ne (by omega)]; exact J3_, by rw [ju_ne (by omega), ju_ne (by omega)]; exact J6_, ⟨_, (jrun_le (P := pL A) qle_).1, (jrun_le (P := pL A) qle_).2, by rw [ju_ne (by omega), ju_ne (by omega)]; exact j4_⟩, fun _ => ⟨by rw [ju_ne (by omega), ju_at], by rw [ju_at]; exact J6_⟩, fun k_ => absurd tk_ k_⟩
      · rw [if_neg (show ¬ jn 6 < jn (tE N A q_ - q_) by rw [jn_lt (by omega) (by omega)]; exact m_), ob_s]
        rw [if_neg m_] at tk_
        refine ⟨_, rfl, Jf_, J3_, J6_, ⟨_, (jrun_le (P := pL A) qle_).1, (jrun_le (P := pL A) qle_).2, j4_⟩, fun k_ => by omega, fun _ => ⟨J0_, J1_, by rw [te_]; exact j4_, by rw [tk_]; exact J5_, fun k_ => by omega⟩⟩
    · rw [if_neg (show ¬ (q_ < N ∧ pL A q_ = true) from fun k_ => pl_ k_.2), if_pos rfl, sp_dig (A := A) c3_ hN cA_ (by omega), ob_s]
      by_cases pd_ : pD A q_ = true
      · have te_ : tE N A q_ = jrun (pD A) N q_ := by unfold tE; rw [if_pos l_, if_neg pl_, if_pos pd_]
        have tk_ : tK N A q_ = if 2 < tE N A q_ - q_ then 0 else 3 := by unfold tK; rw [if_pos l_, if_neg pl_, if_pos pd_]
        have u_ : ∀ k, ¬ k = 5 → ¬ k = 7 → ev_u2 (ev_u2 K1_ 54 5 (jn 2)) 54 7 (jn 0) 54 k = K1_ 54 k := fun k hk hk2 => by rw [ju_ne (fun q2_ => hk2 q2_.2), ju_ne (fun q2_ => hk q2_.2)]
        obtain ⟨J_, j1_, j2_, j3_, j4_, j5_⟩ := sp_digs (a := a) (I := ev_u2 (ev_u2 K1_ 54 5 (jn 2)) 54 7 (jn 0)) (A := A) ((u_ 3 (by omega) (by omega)).trans c3_) ((u_ 4 (by omega) (by omega)).trans c4_) (ju_at ..) qle_ hN (fun k hk => by rw [ju_na (by omega), ju_na (by omega)]; exact cA_ k hk)
        have J5_ : J_ 54 5 = jn 2 := by rw [j3_ 5 (by omega) (by omega), ju_ne (by omega), ju_at]
        have J6_ : J_ 54 6 = jn q_ := by rw [j3_ 6 (by omega) (by omega), u_ 6 (by omega) (by omega)]; exact c6_
        have J0_ : J_ 54 0 = jn 0 := by rw [j3_ 0 (by omega) (by omega), u_ 0 (by omega) (by omega)]; exact c0_
        have J1_ : J_ 54 1 = I 54 1 := by rw [j3_ 1 (by omega) (by omega), u_ 1 (by omega) (by omega)]; exact c1_
        have J3_ : J_ 54 3 = jn N := by rw [j3_ 3 (by omega) (by omega), u_ 3 (by omega) (by omega)]; exact c3_
        have Jf_ : ∀ b, ¬ b = 54 → J_ b = I b := fun b hb => by rw [j2_ b hb, ju_na hb, ju_na hb, g1_ b hb]
        rw [if_pos (show q_ < N ∧ pD A q_ = true from ⟨l_, pd_⟩), if_neg (show ¬ jn 1 = jn 0 by decide), j1_, ob_s, ob_s, J5_, if_neg (show ¬ jn 2 = jn 1 by decide), ob_s, j4_, J6_, ← te_, jn_sub tle_.1]
        by_cases m_ : 2 < tE N A q_ - q_
        · rw [if_pos (show jn 2 < jn (tE N A q_ - q_) by rw [jn_lt (by omega) (by omega)]; exact m_), sp_fail0 J0_, ob_s, ob_s]
          rw [if_pos m_] at tk_
          refine ⟨_, rfl, fun b hb => by rw [ju_na hb, ju_na hb]; exact Jf_ b hb, by rw [ju_ne (by omega), ju_ne (by omega)]; exact J3_, by rw [ju_ne (by omega), ju_ne (by omega)]; exact J6_, ⟨_, (jrun_le (P := pD A) qle_).1, (jrun_le (P := pD A) qle_).2, by rw [ju_ne (by omega), ju_ne (by omega)]; exact j4_⟩, fun _ => ⟨by rw [ju_ne (by omega), ju_at], by rw [ju_at]; exact J6_⟩, fun k_ => absurd tk_ k_⟩
        · rw [if_neg (show ¬ jn 2 < jn (tE N A q_ - q_) by rw [jn_lt (by omega) (by omega)]; exact m_), ob_s]
          rw [if_neg m_] at tk_
          refine ⟨_, rfl, Jf_, J3_, J6_, ⟨_, (jrun_le (P := pD A) qle_).1, (jrun_le (P := pD A) qle_).2, j4_⟩, fun k_ => by omega, fun _ => ⟨J0_, J1_, by rw [te_]; exact j4_, by rw [tk_]; exact J5_, fun _ => ?_⟩⟩
          unfold tV
          rw [te_]
          exact j5_
      · have te_ : tE N A q_ = q_ + 1 := by unfold tE; rw [if_pos l_, if_neg pl_, if_neg pd_]
        have tk_ : tK N A q_ = if A q_ = jn 59 then 4 else 0 := by unfold tK; rw [if_pos l_, if_neg pl_, if_neg pd_]
        rw [if_neg (show ¬ (q_ < N ∧ pD A q_ = true) from fun k_ => pd_ k_.2), if_pos rfl, if_pos (show z_in (jn q_) 500 by rw [jn_in (by omega)]; omega), jn_n (by omega), cA_ q_ l_]
        by_cases s_ : A q_ = jn 59
        · rw [if_pos s_] at tk_
          rw [if_pos s_, ob_s, ob_s, ju_ne (i := 4) (j := 5) (by omega), ju_at, if_neg (show ¬ jn 3 = jn 1 by decide), ob_s, ju_at, ju_ne (by omega), c4_, jn_add, ju_ne (by omega), ju_ne (by omega), c6_, jn_sub (by omega), if_neg (show ¬ jn 2 < jn (q_ + 1 - q_) by rw [jn_lt (by omega) (by omega)]; omega), ob_s]
          refine ⟨_, rfl, fun b hb => by rw [ju_na hb, ju_na hb, g1_ b hb], by rw [ju_ne (by omega), ju_ne (by omega)]; exact c3_, by rw [ju_ne (by omega), ju_ne (by omega)]; exact c6_, ⟨q_ + 1, by omega, by omega, by rw [ju_at]⟩, fun k_ => by omega, fun _ => ⟨by rw [ju_ne (by omega), ju_ne (by omega)]; exact c0_, by rw [ju_ne (by omega), ju_ne (by omega)]; exact c1_, by rw [ju_at, te_], by rw [ju_ne (by omega), ju_at, tk_], fun k_ => by omega⟩⟩
        · rw [if_neg s_] at tk_
          rw [if_neg s_, sp_fail0 c0_, ob_s, ob_s]
          have t5_ : ev_u2 (ev_u2 K1_ 54 0 (jn 1)) 54 1 (K1_ 54 6) 54 4 - ev_u2 (ev_u2 K1_ 54 0 (jn 1)) 54 1 (K1_ 54 6) 54 6 = jn 0 := by
            rw [ju_ne (by omega), ju_ne (by omega), ju_ne (by omega), ju_ne (by omega), c4_, c6_, jn_sub (Nat.le_refl _), Nat.sub_self]
          have res_ : ∃ J, some (ev_u2 (ev_u2 K1_ 54 0 (jn 1)) 54 1 (K1_ 54 6)) = some J ∧ (∀ b, ¬ b = 54 → J b = I b) ∧ J 54 3 = jn N ∧ J 54 6 = jn q_ ∧ (∃ p2, q_ ≤ p2 ∧ p2 ≤ N ∧ J 54 4 = jn p2) ∧ (tK N A q_ = 0 → J 54 0 = jn 1 ∧ J 54 1 = jn q_) ∧ (¬ tK N A q_ = 0 → J 54 0 = jn 0 ∧ J 54 1 = I 54 1 ∧ J 54 4 = jn (tE N A q_) ∧ J 54 5 = jn (tK N A q_ - 1) ∧ (tK N A q_ = 3 → J 54 7 = tV N A q_)) :=
            ⟨_, rfl, fun b hb => by rw [ju_na hb, ju_na hb, g1_ b hb], by rw [ju_ne (by omega), ju_ne (by omega)]; exact c3_, by rw [ju_ne (by omega), ju_ne (by omega)]; exact c6_, ⟨q_, Nat.le_refl _, qle_, by rw [ju_ne (by omega), ju_ne (by omega)]; exact c4_⟩, fun _ => ⟨by rw [ju_ne (by omega), ju_at], by rw [ju_at]; exact c6_⟩, fun k_ => absurd tk_ k_⟩
          by_cases k5_ : ev_u2 (ev_u2 K1_ 54 0 (jn 1)) 54 1 (K1_ 54 6) 54 5 = jn 1
          · rw [if_pos k5_, ob_s, t5_, if_neg (show ¬ jn 6 < jn 0 by decide), ob_s]
            exact res_
          · rw [if_neg k5_, ob_s, t5_, if_neg (show ¬ jn 2 < jn 0 by decide), ob_s]
            exact res_
  · have te_ : tE N A q_ = q_ := by unfold tE; rw [if_neg l_]
    have tk_ : tK N A q_ = 1 := by unfold tK; rw [if_neg l_]
    rw [if_neg (show ¬ jn q_ < jn N by rw [jn_lt (by omega) (by omega)]; exact l_), ob_s, ju_at, if_neg (show ¬ jn 0 = jn 1 by decide), ob_s, ju_ne (by omega), ju_ne (by omega), c4_, c6_, jn_sub (Nat.le_refl _), Nat.sub_self, if_neg (show ¬ jn 2 < jn 0 by decide), ob_s]
    refine ⟨_, rfl, fun b hb => by rw [ju_na hb, g1_ b hb], by rw [ju_ne (by omega)]; exact c3_, by rw [ju_ne (by omega)]; exact c6_, ⟨q_, Nat.le_refl _, qle_, by rw [ju_ne (by omega)]; exact c4_⟩, fun k_ => by omega, fun _ => ⟨by rw [ju_ne (by omega)]; exact c0_, by rw [ju_ne (by omega)]; exact c1_, by rw [ju_ne (by omega), te_]; exact c4_, by rw [ju_at, tk_], fun k_ => by omega⟩⟩
end TKC
