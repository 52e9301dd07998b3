/-! what a run answers, for every script -/
theorem ev_eps {P : (Nat → Int32) → Bool} (h : P (Classical.epsilon (fun X => P X = false)) = true) : ∀ X, P X = true := by
  intro X
  cases hP : P X with
  | true => rfl
  | false => exact absurd (h.symm.trans (Classical.epsilon_spec (p := fun X => P X = false) ⟨X, hP⟩)) (by decide)
def ev_fin (y : Option ev_R) : Bool := match y with
  | some (.inl (some (.int x)), w1) => decide (x = 1) && (decide (w_c w1 ≤ 600002) && decide (w_z w1 ≤ 7302232))
  | _ => false
theorem ev_fin_of {y : Option ev_R} (h : ev_fin y = true) : ∃ w1 : ev_W, y = some (.inl (some (.int 1)), w1) ∧ w_c w1 ≤ 600002 ∧ w_z w1 ≤ 7302232 := by
  unfold ev_fin at h
  split at h
  · rename_i x w1
    simp only [Bool.and_eq_true, decide_eq_true_eq] at h
    obtain ⟨rfl, h2, h3⟩ := h
    exact ⟨w1, rfl, h2, h3⟩
  · cases h
def ev_bhc (c : Int32) (pc : Nat) (ls : ev_L) (st : List Value) (w : ev_W) : Option (Nat × List Value × ev_W) := bif Nat.beq pc 38 then (match (ls[0]? : Option (Option Value)), (ls[5]? : Option (Option Value)) with
  | some (some (.ref a)), some (some (.int x)) => bif Nat.beq a ev_S && decide (x = 0) then some (45, .int c :: st, w) else none
  | _, _ => none) else none
theorem ev_bhc_ok {D : va_G} {cy : Nat → ClassId} {base : Nat} {ext : Nat → Nat} {SL : Nat} {SX : Nat → Int32} {l : Launch} {c : Int32} (hSL : SL = 6) (hSX : SX 0 &&& 63 = c) (pc : Nat) (ls : ev_L) (st : List Value) (w : ev_W) (q : Nat × List Value × ev_W) (h : ev_bhc c pc ls st w = some q) (o : Option Value ⊕ Nat) (w1 : ev_W) (hs : ev_Snd D cy base ext SL SX l ev_LAW q.1 ls q.2.1 q.2.2 o w1) : ev_Snd D cy base ext SL SX l ev_LAW pc ls st w o w1 := by
  unfold ev_bhc at h
  obtain ⟨hb, h⟩ := ev_cond h
  have hp := Nat.eq_of_beq_eq_true hb
  subst hp
  split at h
  · rename_i h0 h5
    obtain ⟨hb, h⟩ := ev_cond h
    obtain ⟨hb, h⟩ := ev_cond h
    simp only [Bool.and_eq_true, decide_eq_true_eq] at hb
    have ha := Nat.eq_of_beq_eq_true hb.1
    subst ha
    have hx := hb.2
    subst hx
    cases h
    exact ev_x_op hSL hSX h0 h5 hs
  · cases h
def ev_okc (c : Nat) (X : Nat → Int32) : Bool := ev_fin (evk (ev_bhc (Int32.ofNat c)) 100000 ev_LAW 0 (ev_in 9 [.ref ev_S]) [] (ev_w0 6 X))
def ev_oks (L : Nat) (X : Nat → Int32) : Bool := ev_fin (ev 100000 ev_LAW 0 (ev_in 9 [.ref ev_S]) [] (ev_w0 L X))
set_option maxRecDepth 1000000 in
theorem ev_ok_s0 : ∀ X, ev_oks 0 X = true := ev_eps (by decide +kernel)
set_option maxRecDepth 1000000 in
theorem ev_ok_s1 : ∀ X, ev_oks 1 X = true := ev_eps (by decide +kernel)
set_option maxRecDepth 1000000 in
theorem ev_ok_s2 : ∀ X, ev_oks 2 X = true := ev_eps (by decide +kernel)
set_option maxRecDepth 1000000 in
theorem ev_ok_s3 : ∀ X, ev_oks 3 X = true := ev_eps (by decide +kernel)
set_option maxRecDepth 1000000 in
theorem ev_ok_s4 : ∀ X, ev_oks 4 X = true := ev_eps (by decide +kernel)
set_option maxRecDepth 1000000 in
theorem ev_ok_s5 : ∀ X, ev_oks 5 X = true := ev_eps (by decide +kernel)
