/-! rules, one an instruction, by wip/gen/zr.py -/
abbrev z_H : Type := Nat → Nat → Int32
/-- the script's length and ints, the launch -/
abbrev z_G : Type := Nat × (Nat → Int32) × Launch
/-- from this place the machine comes to that end -/
def z_R (G : z_G) (j pc : Nat) (ls : ev_L) (st : List Value) (w : ev_W) (o : Option Value ⊕ Nat) (w1 : ev_W) : Prop := ∀ (D : va_G) (cy : Nat → ClassId) (base : Nat) (ext : Nat → Nat), ev_Snd D cy base ext G.1 G.2.1 G.2.2 j pc ls st w o w1
/-- so does a call of a method -/
def z_K (G : z_G) (j : Nat) (as : List Value) (w : ev_W) (o : Option Value ⊕ Nat) (w1 : ev_W) : Prop := ∀ (D : va_G) (cy : Nat → ClassId) (base : Nat) (ext : Nat → Nat) (e2 : ev_ME), ev_me j = some e2 → ev_Con D cy base ext G.1 G.2.1 G.2.2 e2 as w o w1 ∧ w_c w ≤ w_c w1 ∧ w_z w ≤ w_z w1
/-- the world with other numbers -/
def z_w (w : ev_W) (I : z_H) : ev_W := (w.1, w.2.1, w.2.2.1, w.2.2.2.1, w.2.2.2.2.1, w.2.2.2.2.2.1, I, w.2.2.2.2.2.2.2.1, w.2.2.2.2.2.2.2.2.1, w.2.2.2.2.2.2.2.2.2)
theorem z_w_w (w : ev_W) : z_w w (w_I w) = w := rfl
def z_i (j pc : Nat) : Option (Instr × Nat) := match ev_look2 j pc ev_thr with
  | some _ => none
  | none => ev_cd j pc
def z_is (j pc : Nat) (f : ev_ME → Instr → Nat → Bool) : Bool := match z_i j pc, ev_mel j with
  | some q, some z => ev_lok q.2 q.1 && f z q.1 q.2
  | _, _ => false
theorem z_is_of {j pc : Nat} {f : ev_ME → Instr → Nat → Bool} (h : z_is j pc f = true) : ∃ z0 ins n, ev_mel j = some z0 ∧ z_i j pc = some (ins, n) ∧ ev_lok n ins = true ∧ f z0 ins n = true := by
  unfold z_is at h
  split at h
  · rename_i q z hq hz
    simp only [Bool.and_eq_true] at h
    exact ⟨z, q.1, q.2, hz, hq, h.1, h.2⟩
  · cases h
theorem z_i_cd {j pc : Nat} {q : Instr × Nat} (h : z_i j pc = some q) : ev_look2 j pc ev_thr = none ∧ ev_cd j pc = some q := by
  unfold z_i at h
  split at h
  · cases h
  · rename_i h1
    exact ⟨h1, h⟩
def z_all (l : List Bool) : Bool := match l with
  | [] => true
  | b :: t => b && z_all t
theorem z_cons {b : Bool} {t : List Bool} (h : z_all (b :: t) = true) : b = true ∧ z_all t = true := Bool.and_eq_true_iff.mp h
theorem z_dec {j pc : Nat} {z0 : ev_ME} {ins : Instr} {n : Nat} (hz : ev_mel j = some z0) (hi : z_i j pc = some (ins, n)) : decode (ev_by z0) pc = .ok (ins, n) := ev_cd_ok hz (z_i_cd hi).2
theorem z_step {G : z_G} {j pc pc' : Nat} {ls ls' : ev_L} {st st' : List Value} {w w' : ev_W} {o : Option Value ⊕ Nat} {w1 : ev_W} {z0 : ev_ME} {ins : Instr} {n : Nat} (hz : ev_mel j = some z0) (hi : z_i j pc = some (ins, n)) (hn : ev_lok n ins = true)
    (hb : ∀ (go : Nat → Nat → ev_L → List Value → ev_W → Option ev_R) (cal : Nat → List Value → ev_W → Option ev_R), ev_ins go cal j z0 pc ls w st n ins = go j pc' ls' st' w') (h : z_R G j pc' ls' st' w' o w1) : z_R G j pc ls st w o w1 := by
  classical
  intro D cy base ext
  refine ev_s_ins (go := fun a b c d f => if a = j ∧ b = pc' ∧ c = ls' ∧ d = st' ∧ f = w' then some (o, w1) else none) (cal := fun _ _ _ => none) (fun a b c d f o2 w2 hg => ?_) (fun j2 e2 as w2 o2 w3 _ hc => (by cases hc)) hz (z_dec hz hi) hn (by rw [hb]; exact if_pos ⟨rfl, rfl, rfl, rfl, rfl⟩)
  split at hg
  · rename_i q
    obtain ⟨rfl, rfl, rfl, rfl, rfl⟩ := q
    cases hg
    exact h D cy base ext
  · cases hg
/-- a step that ends -/
theorem z_stop {G : z_G} {j pc : Nat} {ls : ev_L} {st : List Value} {w : ev_W} {o : Option Value ⊕ Nat} {w1 : ev_W} {z0 : ev_ME} {ins : Instr} {n : Nat} (hz : ev_mel j = some z0) (hi : z_i j pc = some (ins, n)) (hn : ev_lok n ins = true)
    (hb : ∀ (go : Nat → Nat → ev_L → List Value → ev_W → Option ev_R) (cal : Nat → List Value → ev_W → Option ev_R), ev_ins go cal j z0 pc ls w st n ins = some (o, w1)) : z_R G j pc ls st w o w1 := by
  intro D cy base ext
  exact ev_s_ins (go := fun _ _ _ _ _ => none) (cal := fun _ _ _ => none) (fun a b c d f o2 w2 hg => (by cases hg)) (fun j2 e2 as w2 o2 w3 _ hc => (by cases hc)) hz (z_dec hz hi) hn (hb _ _)
theorem z_con {G : z_G} (hl : G.2.2.stackTraces = false) {j : Nat} {as : List Value} {w : ev_W} {o : Option Value ⊕ Nat} {w1 : ev_W} {ml : Nat} (hm : ((ev_me j).map ev_ml) = some ml) (hc : as.all (fun v => Nat.beq v.category 1) = true) (hn : Nat.ble as.length ml = true) (h : z_R G j 0 (ev_in ml as) [] w o w1) : z_K G j as w o w1 := by
  intro D cy base ext e2 he
  rw [he] at hm
  cases Option.some.inj hm
  exact ⟨ev_con he hl (fun v hv => Nat.eq_of_beq_eq_true (List.all_eq_true.mp hc v hv)) (Nat.le_of_ble_eq_true hn) (h D cy base ext), (h D cy base ext).1, (h D cy base ext).2.1⟩
/-! what a run of a program's text says -/
theorem z_pos {c : Prop} [Decidable c] {α : Type} {a b y : α} (hc : c) (h : (if c then a else b) = y) : a = y := by rw [if_pos hc] at h; exact h
theorem z_neg {c : Prop} [Decidable c] {α : Type} {a b y : α} (hc : ¬ c) (h : (if c then a else b) = y) : b = y := by rw [if_neg hc] at h; exact h
theorem z_gd {c : Prop} [Decidable c] {α : Type} {a : Option α} {y : α} (h : (if c then a else none) = some y) : c ∧ a = some y := by
  by_cases hc : c
  · rw [if_pos hc] at h; exact ⟨hc, h⟩
  · rw [if_neg hc] at h; cases h
theorem z_bind {α β : Type} {x : Option α} {f : α → Option β} {y : β} (h : x.bind f = some y) : ∃ v, x = some v ∧ f v = some y := by
  cases x with
  | none => cases h
  | some v => exact ⟨v, rfl, h⟩
theorem z_inj {α : Type} {a b : α} (h : some a = some b) : a = b := Option.some.inj h
/-- a loop: its body goes on or ends -/
def z_it {σ ρ : Type} (f : σ → Option (σ ⊕ ρ)) : Nat → σ → Option ρ
  | 0, _ => none
  | n + 1, s => match f s with
    | some (.inl s') => z_it f n s'
    | some (.inr r) => some r
    | none => none
theorem z_it_s {σ ρ : Type} {f : σ → Option (σ ⊕ ρ)} {n : Nat} {s : σ} {r : ρ} (h : z_it f (n + 1) s = some r) : (∃ s', f s = some (.inl s') ∧ z_it f n s' = some r) ∨ f s = some (.inr r) := by
  unfold z_it at h
  split at h
  · rename_i s' hs; exact Or.inl ⟨s', hs, h⟩
  · rename_i r' hr; cases h; exact Or.inr hr
  · cases h
/-- what the machine does along a loop, from what it does along its body -/
theorem z_loop {σ ρ : Type} {f : σ → Option (σ ⊕ ρ)} {X : σ → ρ → Prop} (hb : ∀ s r, (∀ s', f s = some (.inl s') → X s' r) → (f s = some (.inl s) → False) ∨ True → (∃ s', f s = some (.inl s')) → X s r) (he : ∀ s r, f s = some (.inr r) → X s r) : ∀ (n : Nat) (s : σ) (r : ρ), z_it f n s = some r → X s r := by
  intro n
  induction n with
  | zero => intro s r h; cases h
  | succ n ih =>
    intro s r h
    rcases z_it_s h with ⟨s', h1, h2⟩ | h1
    · exact hb s r (fun s9 h9 => by rw [h1] at h9; cases h9; exact ih _ _ h2) (Or.inr trivial) ⟨s', h1⟩
    · exact he s r h1
abbrev z_in (i : Int32) (n : Nat) : Prop := ev_ok i n = true
abbrev z_n (i : Int32) : Nat := i.toNatClampNeg
def z_mx (x y : Int32) : Int32 := if x < y then y else x
def z_mn (x y : Int32) : Int32 := if y < x then y else x
def z_ab (x : Int32) : Int32 := if 0 ≤ x then x else 0 - x
section ZRUL
variable {G : z_G} {j pc n : Nat} {ls : ev_L} {st r : List Value} {w : ev_W} {I : z_H} {o : Option Value ⊕ Nat} {w1 : ev_W} {t : List Bool}
def zf_cst (pc : Nat) (x : Int32) (n : Nat) (z : ev_ME) (ins : Instr) (_ : Nat) : Bool := match ins with
  | .iconst k => decide (Int32.ofInt k = x) && Nat.beq n (pc + 1)
  | .bipush k => decide ((Int8.ofInt k).toInt32 = x) && Nat.beq n (pc + 2)
  | .sipush k => decide ((Int16.ofInt k).toInt32 = x) && Nat.beq n (pc + 3)
  | _ => false
theorem z_cst {x : Int32} (h : z_all (z_is j pc (zf_cst pc x n) :: t) = true) (k : z_all t = true → z_R G j n ls (.int x :: st) w o w1) : z_R G j pc ls st w o w1 := by
  obtain ⟨h1, h2⟩ := z_cons h
  obtain ⟨z0, ins, len, hz, hi, hl, hf⟩ := z_is_of h1
  unfold zf_cst at hf
  split at hf
  · simp only [Bool.and_eq_true, decide_eq_true_eq] at hf
    obtain ⟨rfl, h4⟩ := hf
    cases Nat.eq_of_beq_eq_true h4
    exact z_step hz hi hl (fun go cal => rfl) (k h2)
  · simp only [Bool.and_eq_true, decide_eq_true_eq] at hf
    obtain ⟨rfl, h4⟩ := hf
    cases Nat.eq_of_beq_eq_true h4
    exact z_step hz hi hl (fun go cal => rfl) (k h2)
  · simp only [Bool.and_eq_true, decide_eq_true_eq] at hf
    obtain ⟨rfl, h4⟩ := hf
    cases Nat.eq_of_beq_eq_true h4
    exact z_step hz hi hl (fun go cal => rfl) (k h2)
  · cases hf
def zf_iload (pc k n : Nat) (z : ev_ME) (ins : Instr) (_ : Nat) : Bool := match ins with
  | .iload_n q => Nat.beq q k && Nat.beq n (pc + 1)
  | .iload q => Nat.beq q k && Nat.beq n (pc + 2)
  | _ => false
theorem z_iload {x : Int32} {k : Nat} (h : z_all (z_is j pc (zf_iload pc k n) :: t) = true) (hv : ls[k]? = some (some (.int x))) (kk : z_all t = true → z_R G j n ls (.int x :: st) w o w1) : z_R G j pc ls st w o w1 := by
  obtain ⟨h1, h2⟩ := z_cons h
  obtain ⟨z0, ins, len, hz, hi, hl, hf⟩ := z_is_of h1
  unfold zf_iload at hf
  split at hf
  · rename_i q
    simp only [Bool.and_eq_true] at hf
    have e1 := Nat.eq_of_beq_eq_true hf.1
    cases Nat.eq_of_beq_eq_true hf.2
    rw [← e1] at hv
    exact z_step hz hi hl (fun go cal => by show ev_ld go j pc ls w q 1 0 st = _; unfold ev_ld; rw [hv]; rfl) (kk h2)
  · rename_i q
    simp only [Bool.and_eq_true] at hf
    have e1 := Nat.eq_of_beq_eq_true hf.1
    cases Nat.eq_of_beq_eq_true hf.2
    rw [← e1] at hv
    exact z_step hz hi hl (fun go cal => by show ev_ld go j pc ls w q 2 0 st = _; unfold ev_ld; rw [hv]; rfl) (kk h2)
  · cases hf
def zf_aload (pc k n : Nat) (z : ev_ME) (ins : Instr) (_ : Nat) : Bool := match ins with
  | .aload_n q => Nat.beq q k && Nat.beq n (pc + 1)
  | .aload q => Nat.beq q k && Nat.beq n (pc + 2)
  | _ => false
theorem z_aload {x : Nat} {k : Nat} (h : z_all (z_is j pc (zf_aload pc k n) :: t) = true) (hv : ls[k]? = some (some (.ref x))) (kk : z_all t = true → z_R G j n ls (.ref x :: st) w o w1) : z_R G j pc ls st w o w1 := by
  obtain ⟨h1, h2⟩ := z_cons h
  obtain ⟨z0, ins, len, hz, hi, hl, hf⟩ := z_is_of h1
  unfold zf_aload at hf
  split at hf
  · rename_i q
    simp only [Bool.and_eq_true] at hf
    have e1 := Nat.eq_of_beq_eq_true hf.1
    cases Nat.eq_of_beq_eq_true hf.2
    rw [← e1] at hv
    exact z_step hz hi hl (fun go cal => by show ev_ld go j pc ls w q 1 1 st = _; unfold ev_ld; rw [hv]; rfl) (kk h2)
  · rename_i q
    simp only [Bool.and_eq_true] at hf
    have e1 := Nat.eq_of_beq_eq_true hf.1
    cases Nat.eq_of_beq_eq_true hf.2
    rw [← e1] at hv
    exact z_step hz hi hl (fun go cal => by show ev_ld go j pc ls w q 2 1 st = _; unfold ev_ld; rw [hv]; rfl) (kk h2)
  · cases hf
def zf_istore (pc k n : Nat) (z : ev_ME) (ins : Instr) (_ : Nat) : Bool := match ins with
  | .istore_n q => Nat.beq q k && Nat.beq n (pc + 1)
  | .istore q => Nat.beq q k && Nat.beq n (pc + 2)
  | _ => false
theorem z_istore {x : Int32} {k : Nat} (h : z_all (z_is j pc (zf_istore pc k n) :: t) = true) (hv : Nat.blt k ls.length = true) (hc : ev_c1 ls k = true) (kk : z_all t = true → z_R G j n (ls.set k (some (.int x))) r w o w1) : z_R G j pc ls (.int x :: r) w o w1 := by
  obtain ⟨h1, h2⟩ := z_cons h
  obtain ⟨z0, ins, len, hz, hi, hl, hf⟩ := z_is_of h1
  have hv2 : k < ls.length := Nat.le_of_ble_eq_true hv
  unfold zf_istore at hf
  split at hf
  · rename_i q
    simp only [Bool.and_eq_true] at hf
    have e1 := Nat.eq_of_beq_eq_true hf.1
    cases Nat.eq_of_beq_eq_true hf.2
    subst e1
    exact z_step hz hi hl (fun go cal => by show ev_st1 go j pc ls w q 1 (.int x) r = _; unfold ev_st1; rw [decide_eq_true hv2, hc]; rfl) (kk h2)
  · rename_i q
    simp only [Bool.and_eq_true] at hf
    have e1 := Nat.eq_of_beq_eq_true hf.1
    cases Nat.eq_of_beq_eq_true hf.2
    subst e1
    exact z_step hz hi hl (fun go cal => by show ev_st1 go j pc ls w q 2 (.int x) r = _; unfold ev_st1; rw [decide_eq_true hv2, hc]; rfl) (kk h2)
  · cases hf
def zf_astore (pc k n : Nat) (z : ev_ME) (ins : Instr) (_ : Nat) : Bool := match ins with
  | .astore_n q => Nat.beq q k && Nat.beq n (pc + 1)
  | .astore q => Nat.beq q k && Nat.beq n (pc + 2)
  | _ => false
theorem z_astore {x : Nat} {k : Nat} (h : z_all (z_is j pc (zf_astore pc k n) :: t) = true) (hv : Nat.blt k ls.length = true) (hc : ev_c1 ls k = true) (kk : z_all t = true → z_R G j n (ls.set k (some (.ref x))) r w o w1) : z_R G j pc ls (.ref x :: r) w o w1 := by
  obtain ⟨h1, h2⟩ := z_cons h
  obtain ⟨z0, ins, len, hz, hi, hl, hf⟩ := z_is_of h1
  have hv2 : k < ls.length := Nat.le_of_ble_eq_true hv
  unfold zf_astore at hf
  split at hf
  · rename_i q
    simp only [Bool.and_eq_true] at hf
    have e1 := Nat.eq_of_beq_eq_true hf.1
    cases Nat.eq_of_beq_eq_true hf.2
    subst e1
    exact z_step hz hi hl (fun go cal => by show ev_st1 go j pc ls w q 1 (.ref x) r = _; unfold ev_st1; rw [decide_eq_true hv2, hc]; rfl) (kk h2)
  · rename_i q
    simp only [Bool.and_eq_true] at hf
    have e1 := Nat.eq_of_beq_eq_true hf.1
    cases Nat.eq_of_beq_eq_true hf.2
    subst e1
    exact z_step hz hi hl (fun go cal => by show ev_st1 go j pc ls w q 2 (.ref x) r = _; unfold ev_st1; rw [decide_eq_true hv2, hc]; rfl) (kk h2)
  · cases hf
def zf_iinc (pc k : Nat) (x : Int32) (n : Nat) (z : ev_ME) (ins : Instr) (_ : Nat) : Bool := match ins with
  | .iinc q v => Nat.beq q k && decide (Int32.ofInt v = x) && Nat.beq n (pc + 3)
  | _ => false
theorem z_iinc {x y : Int32} {k : Nat} (h : z_all (z_is j pc (zf_iinc pc k x n) :: t) = true) (hv : ls[k]? = some (some (.int y))) (hc : ev_c1 ls k = true) (kk : z_all t = true → z_R G j n (ls.set k (some (.int (y + x)))) st w o w1) : z_R G j pc ls st w o w1 := by
  obtain ⟨h1, h2⟩ := z_cons h
  obtain ⟨z0, ins, len, hz, hi, hl, hf⟩ := z_is_of h1
  unfold zf_iinc at hf
  split at hf
  · rename_i q v
    simp only [Bool.and_eq_true, decide_eq_true_eq] at hf
    obtain ⟨⟨h3, rfl⟩, h4⟩ := hf
    have e1 := Nat.eq_of_beq_eq_true h3
    cases Nat.eq_of_beq_eq_true h4
    subst e1
    exact z_step hz hi hl (fun go cal => by
      show (match ls[q]? with
        | some (some (.int x)) => bif ev_c1 ls q then go j (pc + 3) (ev_sto ls q (.int (x + Int32.ofInt v))) st w else none
        | _ => none) = _
      rw [hv]
      show (bif ev_c1 ls q then go j (pc + 3) (ev_sto ls q (.int (y + Int32.ofInt v))) st w else none) = _
      rw [hc]
      rfl) (kk h2)
  · cases hf
def zf_iadd (pc n : Nat) (z : ev_ME) (ins : Instr) (_ : Nat) : Bool := match ins with
  | .iadd => Nat.beq n (pc + 1)
  | _ => false
theorem z_iadd {x y : Int32} (h : z_all (z_is j pc (zf_iadd pc n) :: t) = true)  (kk : z_all t = true → z_R G j n ls (.int (x + y) :: r) w o w1) : z_R G j pc ls (.int y :: .int x :: r) w o w1 := by
  obtain ⟨h1, h2⟩ := z_cons h
  obtain ⟨z0, ins, len, hz, hi, hl, hf⟩ := z_is_of h1
  unfold zf_iadd at hf
  split at hf
  · cases Nat.eq_of_beq_eq_true hf
    exact z_step hz hi hl (fun go cal => rfl) (kk h2)
  · cases hf
def zf_isub (pc n : Nat) (z : ev_ME) (ins : Instr) (_ : Nat) : Bool := match ins with
  | .isub => Nat.beq n (pc + 1)
  | _ => false
theorem z_isub {x y : Int32} (h : z_all (z_is j pc (zf_isub pc n) :: t) = true)  (kk : z_all t = true → z_R G j n ls (.int (x - y) :: r) w o w1) : z_R G j pc ls (.int y :: .int x :: r) w o w1 := by
  obtain ⟨h1, h2⟩ := z_cons h
  obtain ⟨z0, ins, len, hz, hi, hl, hf⟩ := z_is_of h1
  unfold zf_isub at hf
  split at hf
  · cases Nat.eq_of_beq_eq_true hf
    exact z_step hz hi hl (fun go cal => rfl) (kk h2)
  · cases hf
def zf_imul (pc n : Nat) (z : ev_ME) (ins : Instr) (_ : Nat) : Bool := match ins with
  | .imul => Nat.beq n (pc + 1)
  | _ => false
theorem z_imul {x y : Int32} (h : z_all (z_is j pc (zf_imul pc n) :: t) = true)  (kk : z_all t = true → z_R G j n ls (.int (x * y) :: r) w o w1) : z_R G j pc ls (.int y :: .int x :: r) w o w1 := by
  obtain ⟨h1, h2⟩ := z_cons h
  obtain ⟨z0, ins, len, hz, hi, hl, hf⟩ := z_is_of h1
  unfold zf_imul at hf
  split at hf
  · cases Nat.eq_of_beq_eq_true hf
    exact z_step hz hi hl (fun go cal => rfl) (kk h2)
  · cases hf
def zf_iand (pc n : Nat) (z : ev_ME) (ins : Instr) (_ : Nat) : Bool := match ins with
  | .iand => Nat.beq n (pc + 1)
  | _ => false
theorem z_iand {x y : Int32} (h : z_all (z_is j pc (zf_iand pc n) :: t) = true)  (kk : z_all t = true → z_R G j n ls (.int (x &&& y) :: r) w o w1) : z_R G j pc ls (.int y :: .int x :: r) w o w1 := by
  obtain ⟨h1, h2⟩ := z_cons h
  obtain ⟨z0, ins, len, hz, hi, hl, hf⟩ := z_is_of h1
  unfold zf_iand at hf
  split at hf
  · cases Nat.eq_of_beq_eq_true hf
    exact z_step hz hi hl (fun go cal => rfl) (kk h2)
  · cases hf
def zf_ior (pc n : Nat) (z : ev_ME) (ins : Instr) (_ : Nat) : Bool := match ins with
  | .ior => Nat.beq n (pc + 1)
  | _ => false
theorem z_ior {x y : Int32} (h : z_all (z_is j pc (zf_ior pc n) :: t) = true)  (kk : z_all t = true → z_R G j n ls (.int (x ||| y) :: r) w o w1) : z_R G j pc ls (.int y :: .int x :: r) w o w1 := by
  obtain ⟨h1, h2⟩ := z_cons h
  obtain ⟨z0, ins, len, hz, hi, hl, hf⟩ := z_is_of h1
  unfold zf_ior at hf
  split at hf
  · cases Nat.eq_of_beq_eq_true hf
    exact z_step hz hi hl (fun go cal => rfl) (kk h2)
  · cases hf
def zf_ixor (pc n : Nat) (z : ev_ME) (ins : Instr) (_ : Nat) : Bool := match ins with
  | .ixor => Nat.beq n (pc + 1)
  | _ => false
theorem z_ixor {x y : Int32} (h : z_all (z_is j pc (zf_ixor pc n) :: t) = true)  (kk : z_all t = true → z_R G j n ls (.int (x ^^^ y) :: r) w o w1) : z_R G j pc ls (.int y :: .int x :: r) w o w1 := by
  obtain ⟨h1, h2⟩ := z_cons h
  obtain ⟨z0, ins, len, hz, hi, hl, hf⟩ := z_is_of h1
  unfold zf_ixor at hf
  split at hf
  · cases Nat.eq_of_beq_eq_true hf
    exact z_step hz hi hl (fun go cal => rfl) (kk h2)
  · cases hf
def zf_ishl (pc n : Nat) (z : ev_ME) (ins : Instr) (_ : Nat) : Bool := match ins with
  | .ishl => Nat.beq n (pc + 1)
  | _ => false
theorem z_ishl {x y : Int32} (h : z_all (z_is j pc (zf_ishl pc n) :: t) = true)  (kk : z_all t = true → z_R G j n ls (.int (x <<< (y &&& 31)) :: r) w o w1) : z_R G j pc ls (.int y :: .int x :: r) w o w1 := by
  obtain ⟨h1, h2⟩ := z_cons h
  obtain ⟨z0, ins, len, hz, hi, hl, hf⟩ := z_is_of h1
  unfold zf_ishl at hf
  split at hf
  · cases Nat.eq_of_beq_eq_true hf
    exact z_step hz hi hl (fun go cal => rfl) (kk h2)
  · cases hf
def zf_ishr (pc n : Nat) (z : ev_ME) (ins : Instr) (_ : Nat) : Bool := match ins with
  | .ishr => Nat.beq n (pc + 1)
  | _ => false
theorem z_ishr {x y : Int32} (h : z_all (z_is j pc (zf_ishr pc n) :: t) = true)  (kk : z_all t = true → z_R G j n ls (.int (x >>> (y &&& 31)) :: r) w o w1) : z_R G j pc ls (.int y :: .int x :: r) w o w1 := by
  obtain ⟨h1, h2⟩ := z_cons h
  obtain ⟨z0, ins, len, hz, hi, hl, hf⟩ := z_is_of h1
  unfold zf_ishr at hf
  split at hf
  · cases Nat.eq_of_beq_eq_true hf
    exact z_step hz hi hl (fun go cal => rfl) (kk h2)
  · cases hf
def zf_idiv (pc n : Nat) (z : ev_ME) (ins : Instr) (_ : Nat) : Bool := match ins with
  | .idiv => Nat.beq n (pc + 1)
  | _ => false
theorem z_idiv {x y : Int32} (h : z_all (z_is j pc (zf_idiv pc n) :: t) = true) (hy : ¬ y = 0) (kk : z_all t = true → z_R G j n ls (.int (x / y) :: r) w o w1) : z_R G j pc ls (.int y :: .int x :: r) w o w1 := by
  obtain ⟨h1, h2⟩ := z_cons h
  obtain ⟨z0, ins, len, hz, hi, hl, hf⟩ := z_is_of h1
  unfold zf_idiv at hf
  split at hf
  · cases Nat.eq_of_beq_eq_true hf
    exact z_step hz hi hl (fun go cal => by show (bif decide (y = 0) then none else _) = _; rw [decide_eq_false hy]; rfl) (kk h2)
  · cases hf
def zf_irem (pc n : Nat) (z : ev_ME) (ins : Instr) (_ : Nat) : Bool := match ins with
  | .irem => Nat.beq n (pc + 1)
  | _ => false
theorem z_irem {x y : Int32} (h : z_all (z_is j pc (zf_irem pc n) :: t) = true) (hy : ¬ y = 0) (kk : z_all t = true → z_R G j n ls (.int (x - x / y * y) :: r) w o w1) : z_R G j pc ls (.int y :: .int x :: r) w o w1 := by
  obtain ⟨h1, h2⟩ := z_cons h
  obtain ⟨z0, ins, len, hz, hi, hl, hf⟩ := z_is_of h1
  unfold zf_irem at hf
  split at hf
  · cases Nat.eq_of_beq_eq_true hf
    exact z_step hz hi hl (fun go cal => by show (bif decide (y = 0) then none else _) = _; rw [decide_eq_false hy]; rfl) (kk h2)
  · cases hf
def zf_i2l (pc n : Nat) (z : ev_ME) (ins : Instr) (_ : Nat) : Bool := match ins with
  | .i2l => Nat.beq n (pc + 1)
  | _ => false
theorem z_i2l {x : Int32} (h : z_all (z_is j pc (zf_i2l pc n) :: t) = true)  (kk : z_all t = true → z_R G j n ls (.long x.toInt64 :: r) w o w1) : z_R G j pc ls (.int x :: r) w o w1 := by
  obtain ⟨h1, h2⟩ := z_cons h
  obtain ⟨z0, ins, len, hz, hi, hl, hf⟩ := z_is_of h1
  unfold zf_i2l at hf
  split at hf
  · cases Nat.eq_of_beq_eq_true hf
    exact z_step hz hi hl (fun go cal => rfl) (kk h2)
  · cases hf
def zf_i2b (pc n : Nat) (z : ev_ME) (ins : Instr) (_ : Nat) : Bool := match ins with
  | .i2b => Nat.beq n (pc + 1)
  | _ => false
theorem z_i2b {x : Int32} (h : z_all (z_is j pc (zf_i2b pc n) :: t) = true)  (kk : z_all t = true → z_R G j n ls (.int x.toInt8.toInt32 :: r) w o w1) : z_R G j pc ls (.int x :: r) w o w1 := by
  obtain ⟨h1, h2⟩ := z_cons h
  obtain ⟨z0, ins, len, hz, hi, hl, hf⟩ := z_is_of h1
  unfold zf_i2b at hf
  split at hf
  · cases Nat.eq_of_beq_eq_true hf
    exact z_step hz hi hl (fun go cal => rfl) (kk h2)
  · cases hf
def zf_i2f (pc n : Nat) (z : ev_ME) (ins : Instr) (_ : Nat) : Bool := match ins with
  | .i2f => Nat.beq n (pc + 1)
  | _ => false
theorem z_i2f {x : Int32} (h : z_all (z_is j pc (zf_i2f pc n) :: t) = true)  (kk : z_all t = true → z_R G j n ls (.float (FP.i2f x) :: r) w o w1) : z_R G j pc ls (.int x :: r) w o w1 := by
  obtain ⟨h1, h2⟩ := z_cons h
  obtain ⟨z0, ins, len, hz, hi, hl, hf⟩ := z_is_of h1
  unfold zf_i2f at hf
  split at hf
  · cases Nat.eq_of_beq_eq_true hf
    exact z_step hz hi hl (fun go cal => rfl) (kk h2)
  · cases hf
def zf_i2d (pc n : Nat) (z : ev_ME) (ins : Instr) (_ : Nat) : Bool := match ins with
  | .i2d => Nat.beq n (pc + 1)
  | _ => false
theorem z_i2d {x : Int32} (h : z_all (z_is j pc (zf_i2d pc n) :: t) = true)  (kk : z_all t = true → z_R G j n ls (.double (FP.i2d x) :: r) w o w1) : z_R G j pc ls (.int x :: r) w o w1 := by
  obtain ⟨h1, h2⟩ := z_cons h
  obtain ⟨z0, ins, len, hz, hi, hl, hf⟩ := z_is_of h1
  unfold zf_i2d at hf
  split at hf
  · cases Nat.eq_of_beq_eq_true hf
    exact z_step hz hi hl (fun go cal => rfl) (kk h2)
  · cases hf
def zf_lcmp (pc n : Nat) (z : ev_ME) (ins : Instr) (_ : Nat) : Bool := match ins with
  | .lcmp => Nat.beq n (pc + 1)
  | _ => false
theorem z_lcmp {x y : Int64} (h : z_all (z_is j pc (zf_lcmp pc n) :: t) = true)  (kk : z_all t = true → z_R G j n ls (.int (lg_cmp x y) :: r) w o w1) : z_R G j pc ls (.long y :: .long x :: r) w o w1 := by
  obtain ⟨h1, h2⟩ := z_cons h
  obtain ⟨z0, ins, len, hz, hi, hl, hf⟩ := z_is_of h1
  unfold zf_lcmp at hf
  split at hf
  · cases Nat.eq_of_beq_eq_true hf
    exact z_step hz hi hl (fun go cal => rfl) (kk h2)
  · cases hf
def zf_dupi (pc n : Nat) (z : ev_ME) (ins : Instr) (_ : Nat) : Bool := match ins with
  | .dup => Nat.beq n (pc + 1)
  | _ => false
theorem z_dupi {x : Int32} (h : z_all (z_is j pc (zf_dupi pc n) :: t) = true)  (kk : z_all t = true → z_R G j n ls (.int x :: .int x :: r) w o w1) : z_R G j pc ls (.int x :: r) w o w1 := by
  obtain ⟨h1, h2⟩ := z_cons h
  obtain ⟨z0, ins, len, hz, hi, hl, hf⟩ := z_is_of h1
  unfold zf_dupi at hf
  split at hf
  · cases Nat.eq_of_beq_eq_true hf
    exact z_step hz hi hl (fun go cal => rfl) (kk h2)
  · cases hf
def zf_dupr (pc n : Nat) (z : ev_ME) (ins : Instr) (_ : Nat) : Bool := match ins with
  | .dup => Nat.beq n (pc + 1)
  | _ => false
theorem z_dupr {x : Nat} (h : z_all (z_is j pc (zf_dupr pc n) :: t) = true)  (kk : z_all t = true → z_R G j n ls (.ref x :: .ref x :: r) w o w1) : z_R G j pc ls (.ref x :: r) w o w1 := by
  obtain ⟨h1, h2⟩ := z_cons h
  obtain ⟨z0, ins, len, hz, hi, hl, hf⟩ := z_is_of h1
  unfold zf_dupr at hf
  split at hf
  · cases Nat.eq_of_beq_eq_true hf
    exact z_step hz hi hl (fun go cal => rfl) (kk h2)
  · cases hf
def zf_popi (pc n : Nat) (z : ev_ME) (ins : Instr) (_ : Nat) : Bool := match ins with
  | .pop => Nat.beq n (pc + 1)
  | _ => false
theorem z_popi {x : Int32} (h : z_all (z_is j pc (zf_popi pc n) :: t) = true)  (kk : z_all t = true → z_R G j n ls (r) w o w1) : z_R G j pc ls (.int x :: r) w o w1 := by
  obtain ⟨h1, h2⟩ := z_cons h
  obtain ⟨z0, ins, len, hz, hi, hl, hf⟩ := z_is_of h1
  unfold zf_popi at hf
  split at hf
  · cases Nat.eq_of_beq_eq_true hf
    exact z_step hz hi hl (fun go cal => rfl) (kk h2)
  · cases hf
def zf_dup2 (pc n : Nat) (z : ev_ME) (ins : Instr) (_ : Nat) : Bool := match ins with
  | .dup2 => Nat.beq n (pc + 1)
  | _ => false
theorem z_dup2 {x : Int32} {a : Nat} (h : z_all (z_is j pc (zf_dup2 pc n) :: t) = true)  (kk : z_all t = true → z_R G j n ls (.int x :: .ref a :: .int x :: .ref a :: r) w o w1) : z_R G j pc ls (.int x :: .ref a :: r) w o w1 := by
  obtain ⟨h1, h2⟩ := z_cons h
  obtain ⟨z0, ins, len, hz, hi, hl, hf⟩ := z_is_of h1
  unfold zf_dup2 at hf
  split at hf
  · cases Nat.eq_of_beq_eq_true hf
    exact z_step hz hi hl (fun go cal => rfl) (kk h2)
  · cases hf
def zf_fc0 (pc n : Nat) (z : ev_ME) (ins : Instr) (_ : Nat) : Bool := match ins with
  | .fconst q => Nat.beq q 0 && Nat.beq n (pc + 1)
  | _ => false
theorem z_fc0 (h : z_all (z_is j pc (zf_fc0 pc n) :: t) = true) (kk : z_all t = true → z_R G j n ls (.float FP.fconst0 :: st) w o w1) : z_R G j pc ls st w o w1 := by
  obtain ⟨h1, h2⟩ := z_cons h
  obtain ⟨z0, ins, len, hz, hi, hl, hf⟩ := z_is_of h1
  unfold zf_fc0 at hf
  split at hf
  · rename_i q
    simp only [Bool.and_eq_true] at hf
    cases Nat.eq_of_beq_eq_true hf.2
    have e1 : q = 0 := Fin.ext (Nat.eq_of_beq_eq_true hf.1)
    subst e1
    exact z_step hz hi hl (fun go cal => rfl) (kk h2)
  · cases hf
def zf_dc0 (pc n : Nat) (z : ev_ME) (ins : Instr) (_ : Nat) : Bool := match ins with
  | .dconst q => Nat.beq q 0 && Nat.beq n (pc + 1)
  | _ => false
theorem z_dc0 (h : z_all (z_is j pc (zf_dc0 pc n) :: t) = true) (kk : z_all t = true → z_R G j n ls (.double FP.dconst0 :: st) w o w1) : z_R G j pc ls st w o w1 := by
  obtain ⟨h1, h2⟩ := z_cons h
  obtain ⟨z0, ins, len, hz, hi, hl, hf⟩ := z_is_of h1
  unfold zf_dc0 at hf
  split at hf
  · rename_i q
    simp only [Bool.and_eq_true] at hf
    cases Nat.eq_of_beq_eq_true hf.2
    have e1 : q = 0 := Fin.ext (Nat.eq_of_beq_eq_true hf.1)
    subst e1
    exact z_step hz hi hl (fun go cal => rfl) (kk h2)
  · cases hf
def zf_goto (pc n : Nat) (z : ev_ME) (ins : Instr) (_ : Nat) : Bool := match ins with
  | .goto off => (match ev_jmp pc off with | some q => Nat.beq q n | none => false)
  | _ => false
theorem z_goto (h : z_all (z_is j pc (zf_goto pc n) :: t) = true) (kk : z_all t = true → z_R G j n ls st w o w1) : z_R G j pc ls st w o w1 := by
  obtain ⟨h1, h2⟩ := z_cons h
  obtain ⟨z0, ins, len, hz, hi, hl, hf⟩ := z_is_of h1
  unfold zf_goto at hf
  split at hf
  · rename_i off
    split at hf
    · rename_i q hq
      cases Nat.eq_of_beq_eq_true hf
      exact z_step hz hi hl (fun go cal => by show (match ev_jmp pc off with | some q => go j q ls st w | none => none) = _; rw [hq]) (kk h2)
    · cases hf
  · cases hf
def zf_if1 (c : ClassFile.Cond) (pc q n : Nat) (z : ev_ME) (ins : Instr) (_ : Nat) : Bool := match ins with
  | .ifCond c2 off => decide (c2 = c) && (Nat.beq n (pc + 3) && (match ev_jmp pc off with | some q2 => Nat.beq q2 q | none => false))
  | _ => false
theorem z_if1 {c : ClassFile.Cond} {q : Nat} {x : Int32} (h : z_all (z_is j pc (zf_if1 c pc q n) :: t) = true) (kt : ev_t1 c x = true → z_all t = true → z_R G j q ls r w o w1) (kf : ev_t1 c x = false → z_all t = true → z_R G j n ls r w o w1) : z_R G j pc ls (.int x :: r) w o w1 := by
  obtain ⟨h1, h2⟩ := z_cons h
  obtain ⟨z0, ins, len, hz, hi, hl, hf⟩ := z_is_of h1
  unfold zf_if1 at hf
  split at hf
  · rename_i c2 off
    simp only [Bool.and_eq_true, decide_eq_true_eq] at hf
    obtain ⟨rfl, h4, h5⟩ := hf
    cases Nat.eq_of_beq_eq_true h4
    split at h5
    · rename_i q2 hq
      cases Nat.eq_of_beq_eq_true h5
      cases hc : ev_t1 c2 x with
      | true => exact z_step hz hi hl (fun go cal => by show ev_br go j pc ls w (ev_t1 c2 x) off r = _; unfold ev_br; rw [hq, hc]; rfl) (kt hc h2)
      | false => exact z_step hz hi hl (fun go cal => by show ev_br go j pc ls w (ev_t1 c2 x) off r = _; unfold ev_br; rw [hq, hc]; rfl) (kf hc h2)
    · cases h5
  · cases hf
def zf_if2 (c : ClassFile.Cond) (pc q n : Nat) (z : ev_ME) (ins : Instr) (_ : Nat) : Bool := match ins with
  | .if_icmp c2 off => decide (c2 = c) && (Nat.beq n (pc + 3) && (match ev_jmp pc off with | some q2 => Nat.beq q2 q | none => false))
  | _ => false
theorem z_if2 {c : ClassFile.Cond} {q : Nat} {x y : Int32} (h : z_all (z_is j pc (zf_if2 c pc q n) :: t) = true) (kt : ev_t2 c x y = true → z_all t = true → z_R G j q ls r w o w1) (kf : ev_t2 c x y = false → z_all t = true → z_R G j n ls r w o w1) : z_R G j pc ls (.int y :: .int x :: r) w o w1 := by
  obtain ⟨h1, h2⟩ := z_cons h
  obtain ⟨z0, ins, len, hz, hi, hl, hf⟩ := z_is_of h1
  unfold zf_if2 at hf
  split at hf
  · rename_i c2 off
    simp only [Bool.and_eq_true, decide_eq_true_eq] at hf
    obtain ⟨rfl, h4, h5⟩ := hf
    cases Nat.eq_of_beq_eq_true h4
    split at h5
    · rename_i q2 hq
      cases Nat.eq_of_beq_eq_true h5
      cases hc : ev_t2 c2 x y with
      | true => exact z_step hz hi hl (fun go cal => by show ev_br go j pc ls w (ev_t2 c2 x y) off r = _; unfold ev_br; rw [hq, hc]; rfl) (kt hc h2)
      | false => exact z_step hz hi hl (fun go cal => by show ev_br go j pc ls w (ev_t2 c2 x y) off r = _; unfold ev_br; rw [hq, hc]; rfl) (kf hc h2)
    · cases h5
  · cases hf
theorem z_nlt {x y : Int32} (h : decide (y ≤ x) = true) : ¬ x < y := Int32.not_lt.mpr (of_decide_eq_true h)
theorem z_lt {x y : Int32} (h : decide (y ≤ x) = false) : x < y := Int32.not_le.mp (of_decide_eq_false h)
theorem z_if_eq {q : Nat} {x : Int32} (h : z_all (z_is j pc (zf_if1 .eq pc q n) :: t) = true) (kt : x = 0 → z_all t = true → z_R G j q ls r w o w1) (kf : ¬ x = 0 → z_all t = true → z_R G j n ls r w o w1) : z_R G j pc ls (.int x :: r) w o w1 := z_if1 h (fun q => kt (of_decide_eq_true q)) (fun q => kf (of_decide_eq_false q))
theorem z_if_lt {q : Nat} {x : Int32} (h : z_all (z_is j pc (zf_if1 .lt pc q n) :: t) = true) (kt : x < 0 → z_all t = true → z_R G j q ls r w o w1) (kf : ¬ x < 0 → z_all t = true → z_R G j n ls r w o w1) : z_R G j pc ls (.int x :: r) w o w1 := z_if1 h (fun q => kt (of_decide_eq_true q)) (fun q => kf (of_decide_eq_false q))
theorem z_if_gt {q : Nat} {x : Int32} (h : z_all (z_is j pc (zf_if1 .gt pc q n) :: t) = true) (kt : 0 < x → z_all t = true → z_R G j q ls r w o w1) (kf : ¬ 0 < x → z_all t = true → z_R G j n ls r w o w1) : z_R G j pc ls (.int x :: r) w o w1 := z_if1 h (fun q => kt (of_decide_eq_true q)) (fun q => kf (of_decide_eq_false q))
theorem z_if_ne {q : Nat} {x : Int32} (h : z_all (z_is j pc (zf_if1 .ne pc q n) :: t) = true) (kt : ¬ x = 0 → z_all t = true → z_R G j q ls r w o w1) (kf : x = 0 → z_all t = true → z_R G j n ls r w o w1) : z_R G j pc ls (.int x :: r) w o w1 := z_if1 h (fun q => kt (of_decide_eq_true q)) (fun q => kf (Decidable.not_not.mp (of_decide_eq_false q)))
theorem z_if_ge {q : Nat} {x : Int32} (h : z_all (z_is j pc (zf_if1 .ge pc q n) :: t) = true) (kt : ¬ x < 0 → z_all t = true → z_R G j q ls r w o w1) (kf : x < 0 → z_all t = true → z_R G j n ls r w o w1) : z_R G j pc ls (.int x :: r) w o w1 := z_if1 h (fun q => kt (z_nlt q)) (fun q => kf (z_lt q))
theorem z_if_le {q : Nat} {x : Int32} (h : z_all (z_is j pc (zf_if1 .le pc q n) :: t) = true) (kt : ¬ 0 < x → z_all t = true → z_R G j q ls r w o w1) (kf : 0 < x → z_all t = true → z_R G j n ls r w o w1) : z_R G j pc ls (.int x :: r) w o w1 := z_if1 h (fun q => kt (z_nlt q)) (fun q => kf (z_lt q))
theorem z_ic_eq {q : Nat} {x y : Int32} (h : z_all (z_is j pc (zf_if2 .eq pc q n) :: t) = true) (kt : x = y → z_all t = true → z_R G j q ls r w o w1) (kf : ¬ x = y → z_all t = true → z_R G j n ls r w o w1) : z_R G j pc ls (.int y :: .int x :: r) w o w1 := z_if2 h (fun q => kt (of_decide_eq_true q)) (fun q => kf (of_decide_eq_false q))
theorem z_ic_lt {q : Nat} {x y : Int32} (h : z_all (z_is j pc (zf_if2 .lt pc q n) :: t) = true) (kt : x < y → z_all t = true → z_R G j q ls r w o w1) (kf : ¬ x < y → z_all t = true → z_R G j n ls r w o w1) : z_R G j pc ls (.int y :: .int x :: r) w o w1 := z_if2 h (fun q => kt (of_decide_eq_true q)) (fun q => kf (of_decide_eq_false q))
theorem z_ic_gt {q : Nat} {x y : Int32} (h : z_all (z_is j pc (zf_if2 .gt pc q n) :: t) = true) (kt : y < x → z_all t = true → z_R G j q ls r w o w1) (kf : ¬ y < x → z_all t = true → z_R G j n ls r w o w1) : z_R G j pc ls (.int y :: .int x :: r) w o w1 := z_if2 h (fun q => kt (of_decide_eq_true q)) (fun q => kf (of_decide_eq_false q))
theorem z_ic_ne {q : Nat} {x y : Int32} (h : z_all (z_is j pc (zf_if2 .ne pc q n) :: t) = true) (kt : ¬ x = y → z_all t = true → z_R G j q ls r w o w1) (kf : x = y → z_all t = true → z_R G j n ls r w o w1) : z_R G j pc ls (.int y :: .int x :: r) w o w1 := z_if2 h (fun q => kt (of_decide_eq_true q)) (fun q => kf (Decidable.not_not.mp (of_decide_eq_false q)))
theorem z_ic_ge {q : Nat} {x y : Int32} (h : z_all (z_is j pc (zf_if2 .ge pc q n) :: t) = true) (kt : ¬ x < y → z_all t = true → z_R G j q ls r w o w1) (kf : x < y → z_all t = true → z_R G j n ls r w o w1) : z_R G j pc ls (.int y :: .int x :: r) w o w1 := z_if2 h (fun q => kt (z_nlt q)) (fun q => kf (z_lt q))
theorem z_ic_le {q : Nat} {x y : Int32} (h : z_all (z_is j pc (zf_if2 .le pc q n) :: t) = true) (kt : ¬ y < x → z_all t = true → z_R G j q ls r w o w1) (kf : y < x → z_all t = true → z_R G j n ls r w o w1) : z_R G j pc ls (.int y :: .int x :: r) w o w1 := z_if2 h (fun q => kt (z_nlt q)) (fun q => kf (z_lt q))
/-! switches -/
def z_sw (l : List (Int32 × Nat)) (d : Nat) (x : Int32) : Nat := match l with
  | [] => d
  | q :: t => if x = q.1 then q.2 else z_sw t d x
theorem z_sw_p {c x : Int32} {q d : Nat} {l : List (Int32 × Nat)} (h : x = c) : z_sw ((c, q) :: l) d x = q := if_pos h
theorem z_sw_n {c x : Int32} {q d : Nat} {l : List (Int32 × Nat)} (h : ¬ x = c) : z_sw ((c, q) :: l) d x = z_sw l d x := if_neg h
def z_tgs (pc : Nat) (c : Nat) : List Int → List (Int32 × Nat) → Bool
  | [], [] => true
  | off :: r, q :: l => decide (Int32.ofNat c = q.1) && (match ev_jmp pc off with | some q2 => Nat.beq q2 q.2 | none => false) && z_tgs pc (c + 1) r l
  | _, _ => false
/-- a tableswitch from 0 (or another small number) on -/
def zf_tsw (pc lo : Nat) (l : List (Int32 × Nat)) (d : Nat) (z : ev_ME) (ins : Instr) (_ : Nat) : Bool := match ins with
  | .tableswitch dd lo2 hi offs => decide (lo2 = (lo : Int)) && (decide (hi + 1 = ((lo + offs.toList.length : Nat) : Int)) && ((match ev_jmp pc dd with | some q2 => Nat.beq q2 d | none => false) && (z_tgs pc lo offs.toList l && Nat.ble (lo + offs.toList.length) 1000)))
  | _ => false
theorem z_tgs_of {pc : Nat} {d : Nat} {x : Int32} : ∀ {l : List (Int32 × Nat)} {offs : List Int} {c : Nat}, z_tgs pc c offs l = true → c + offs.length ≤ 1000 → ((x.toInt < c ∨ (c + offs.length : Nat) ≤ x.toInt) → z_sw l d x = d) ∧ (∀ i, i < offs.length → x.toInt = ((c + i : Nat) : Int) → ∃ off, offs[i]? = some off ∧ ev_jmp pc off = some (z_sw l d x))
  | [], [], c, h, hc => ⟨fun _ => rfl, fun i hi => absurd hi (Nat.not_lt_zero i)⟩
  | [], _ :: _, c, h, hc => by cases h
  | _ :: _, [], c, h, hc => by cases h
  | q :: l, off :: r, c, h, hc => by
    unfold z_tgs at h
    simp only [Bool.and_eq_true, decide_eq_true_eq] at h
    obtain ⟨⟨h1, h2⟩, h3⟩ := h
    have hc2 : c + 1 + r.length ≤ 1000 := by rw [List.length_cons] at hc; omega
    obtain ⟨i1, i2⟩ := z_tgs_of (d := d) (x := x) h3 hc2
    have hcc : (Int32.ofNat c).toInt = (c : Int) := Int32.toInt_ofNat_of_lt (by have : c < 1000 := (by rw [List.length_cons] at hc; omega); show c < 2147483648; omega)
    have hne : x.toInt ≠ (c : Int) → ¬ x = q.1 := fun h9 h8 => h9 (by rw [h8, ← h1, hcc])
    refine ⟨fun h9 => ?_, fun i hi h9 => ?_⟩
    · rw [List.length_cons] at h9
      unfold z_sw
      rw [if_neg (hne (by omega))]
      exact i1 (by omega)
    · cases i with
      | zero =>
        have e : x = q.1 := by rw [← h1]; exact Int32.toInt_inj.mp (by rw [hcc, h9]; simp)
        split at h2
        · rename_i q2 hq2
          have e2 := Nat.eq_of_beq_eq_true h2
          refine ⟨off, rfl, ?_⟩
          unfold z_sw
          rw [if_pos e, hq2, e2]
        · cases h2
      | succ i =>
        rw [List.length_cons] at hi
        obtain ⟨off2, e1, e2⟩ := i2 i (by omega) (by rw [h9]; omega)
        refine ⟨off2, e1, ?_⟩
        unfold z_sw
        rw [if_neg (hne (by rw [h9]; omega))]
        exact e2
theorem z_tsw {lo d : Nat} {l : List (Int32 × Nat)} {x : Int32} (h : z_all (z_is j pc (zf_tsw pc lo l d) :: t) = true) (kk : z_R G j (z_sw l d x) ls r w o w1) : z_R G j pc ls (.int x :: r) w o w1 := by
  obtain ⟨h1, h2⟩ := z_cons h
  obtain ⟨z0, ins, len, hz, hi, hl, hf⟩ := z_is_of h1
  unfold zf_tsw at hf
  split at hf
  · rename_i dd lo2 hi2 offs
    simp only [Bool.and_eq_true, decide_eq_true_eq] at hf
    obtain ⟨rfl, h4, h5, h6, h7⟩ := hf
    split at h5
    · rename_i q2 hq
      cases Nat.eq_of_beq_eq_true h5
      obtain ⟨g1, g2⟩ := z_tgs_of (d := d) (x := x) h6 (Nat.le_of_ble_eq_true h7)
      by_cases hx : x.toInt < (lo : Int) ∨ hi2 < x.toInt
      · refine z_step hz hi hl (fun go cal => ?_) (by rw [g1 (by omega)] at kk; exact kk)
        show (bif decide (x.toInt < (lo : Int)) || decide (hi2 < x.toInt) then (match ev_jmp pc dd with | some q => go j q ls r w | none => none) else _) = _
        have e9 : (decide (x.toInt < (lo : Int)) || decide (hi2 < x.toInt)) = true := by
          rw [Bool.or_eq_true, decide_eq_true_eq, decide_eq_true_eq]; exact hx
        rw [e9, hq]
        rfl
      · have hx1 : (lo : Int) ≤ x.toInt := by omega
        obtain ⟨i, hi9⟩ : ∃ i : Nat, x.toInt = ((lo + i : Nat) : Int) := ⟨(x.toInt - lo).toNat, by omega⟩
        obtain ⟨off, e1, e2⟩ := g2 i (by omega) hi9
        refine z_step hz hi hl (fun go cal => ?_) kk
        show (bif decide (x.toInt < (lo : Int)) || decide (hi2 < x.toInt) then _ else (match offs[(x.toInt - (lo : Int)).toNat]? with
          | some off => (match ev_jmp pc off with | some q => go j q ls r w | none => none)
          | none => none)) = _
        have e9 : (decide (x.toInt < (lo : Int)) || decide (hi2 < x.toInt)) = false := by
          rw [Bool.or_eq_false_iff, decide_eq_false_iff_not, decide_eq_false_iff_not]; omega
        have e8 : (x.toInt - (lo : Int)).toNat = i := by omega
        have e7 : offs[i]? = some off := by rw [← Array.getElem?_toList]; exact e1
        rw [e9, e8, e7]
        show (match ev_jmp pc off with | some q => go j q ls r w | none => none) = _
        rw [e2]
    · cases h5
  · cases hf
/-! fields -/
def zf_geti (pc ci k n : Nat) (z : ev_ME) (ins : Instr) (_ : Nat) : Bool := match ins with
  | .getfield ix => Nat.beq n (pc + 3) && (Nat.ble (ev_fty ci k) 1 && (match ev_look2 (ev_own1 z) ix ev_flt with | some q => Nat.beq q.1 ci && Nat.beq q.2 k | none => false))
  | _ => false
theorem z_geti {ci k a : Nat} (h : z_all (z_is j pc (zf_geti pc ci k n) :: t) = true) (ha : a < w_n w) (hk : w_K w a = ci) (kk : z_all t = true → z_R G j n ls (.int (I a k) :: r) (z_w w I) o w1) : z_R G j pc ls (.ref a :: r) (z_w w I) o w1 := by
  obtain ⟨h1, h2⟩ := z_cons h
  obtain ⟨z0, ins, len, hz, hi, hl, hf⟩ := z_is_of h1
  unfold zf_geti at hf
  split at hf
  · rename_i ix
    simp only [Bool.and_eq_true] at hf
    obtain ⟨h4, h5, h6⟩ := hf
    cases Nat.eq_of_beq_eq_true h4
    split at h6
    · rename_i q hq
      simp only [Bool.and_eq_true] at h6
      have e1 := Nat.eq_of_beq_eq_true h6.1
      have e2 := Nat.eq_of_beq_eq_true h6.2
      subst e1; subst e2
      refine z_step hz hi hl (fun go cal => ?_) (kk h2)
      show ev_getf go j z0 pc ls (z_w w I) ix (.ref a :: r) = _
      unfold ev_getf
      dsimp only
      rw [hq]
      dsimp only
      rw [show (decide (a < w_n (z_w w I)) && Nat.beq (w_K (z_w w I) a) q.1) = true from by rw [Bool.and_eq_true]; exact ⟨decide_eq_true ha, by rw [show w_K (z_w w I) a = q.1 from hk]; exact Nat.beq_refl _⟩]
      have h7 := Nat.le_of_ble_eq_true h5
      show (match ev_fty q.1 q.2 with
        | 2 => _
        | 0 => _
        | 1 => _
        | _ => _) = _
      rcases (show ev_fty q.1 q.2 = 0 ∨ ev_fty q.1 q.2 = 1 from by omega) with e | e
      · rw [e]; rfl
      · rw [e]; rfl
    · cases h6
  · cases hf
def zf_getr (pc ci k n : Nat) (z : ev_ME) (ins : Instr) (_ : Nat) : Bool := match ins with
  | .getfield ix => Nat.beq n (pc + 3) && (Nat.beq (ev_fty ci k) 2 && (match ev_look2 (ev_own1 z) ix ev_flt with | some q => Nat.beq q.1 ci && Nat.beq q.2 k | none => false))
  | _ => false
theorem z_getr {ci k a b : Nat} (h : z_all (z_is j pc (zf_getr pc ci k n) :: t) = true) (ha : a < w_n w) (hk : w_K w a = ci) (hr : w_R w a k = some b) (kk : z_all t = true → z_R G j n ls (.ref b :: r) w o w1) : z_R G j pc ls (.ref a :: r) w o w1 := by
  obtain ⟨h1, h2⟩ := z_cons h
  obtain ⟨z0, ins, len, hz, hi, hl, hf⟩ := z_is_of h1
  unfold zf_getr at hf
  split at hf
  · rename_i ix
    simp only [Bool.and_eq_true] at hf
    obtain ⟨h4, h5, h6⟩ := hf
    cases Nat.eq_of_beq_eq_true h4
    split at h6
    · rename_i q hq
      simp only [Bool.and_eq_true] at h6
      have e1 := Nat.eq_of_beq_eq_true h6.1
      have e2 := Nat.eq_of_beq_eq_true h6.2
      subst e1; subst e2
      refine z_step hz hi hl (fun go cal => ?_) (kk h2)
      show ev_getf go j z0 pc ls w ix (.ref a :: r) = _
      unfold ev_getf
      dsimp only
      rw [hq]
      dsimp only
      rw [show (decide (a < w_n w) && Nat.beq (w_K w a) q.1) = true from by rw [Bool.and_eq_true]; exact ⟨decide_eq_true ha, by rw [hk]; exact Nat.beq_refl _⟩]
      rw [Nat.eq_of_beq_eq_true h5, hr]
      rfl
    · cases h6
  · cases hf
def z_pfb (z : ev_ME) (ci k : Nat) : Bool := ev_pfok z (ci, k)
def zf_puti (pc ci k n : Nat) (z : ev_ME) (ins : Instr) (_ : Nat) : Bool := match ins with
  | .putfield ix => Nat.beq n (pc + 3) && (Nat.beq (ev_fty ci k) 0 && (ev_pfok z (ci, k) && (match ev_look2 (ev_own1 z) ix ev_flt with | some q => Nat.beq q.1 ci && Nat.beq q.2 k | none => false)))
  | _ => false
theorem z_puti {ci k a : Nat} {x : Int32} (h : z_all (z_is j pc (zf_puti pc ci k n) :: t) = true) (ha : a < w_n w) (hk : w_K w a = ci) (kk : z_all t = true → z_R G j n ls r (z_w w (ev_u2 I a k x)) o w1) : z_R G j pc ls (.int x :: .ref a :: r) (z_w w I) o w1 := by
  obtain ⟨h1, h2⟩ := z_cons h
  obtain ⟨z0, ins, len, hz, hi, hl, hf⟩ := z_is_of h1
  unfold zf_puti at hf
  split at hf
  · rename_i ix
    simp only [Bool.and_eq_true] at hf
    obtain ⟨h4, h5, h7, h6⟩ := hf
    cases Nat.eq_of_beq_eq_true h4
    split at h6
    · rename_i q hq
      simp only [Bool.and_eq_true] at h6
      have e1 := Nat.eq_of_beq_eq_true h6.1
      have e2 := Nat.eq_of_beq_eq_true h6.2
      subst e1; subst e2
      refine z_step hz hi hl (fun go cal => ?_) (kk h2)
      show ev_putf go j z0 pc ls (z_w w I) ix (.int x :: .ref a :: r) = _
      unfold ev_putf
      dsimp only
      rw [hq]
      dsimp only
      rw [show (decide (a < w_n (z_w w I)) && (Nat.beq (w_K (z_w w I) a) q.1 && ev_pfok z0 q)) = true from by rw [Bool.and_eq_true, Bool.and_eq_true]; exact ⟨decide_eq_true ha, by rw [show w_K (z_w w I) a = q.1 from hk]; exact Nat.beq_refl _, h7⟩]
      rw [Nat.eq_of_beq_eq_true h5]
      rfl
    · cases h6
  · cases hf
def zf_putz (pc ci k n : Nat) (z : ev_ME) (ins : Instr) (_ : Nat) : Bool := match ins with
  | .putfield ix => Nat.beq n (pc + 3) && (Nat.beq (ev_fty ci k) 1 && (ev_pfok z (ci, k) && (match ev_look2 (ev_own1 z) ix ev_flt with | some q => Nat.beq q.1 ci && Nat.beq q.2 k | none => false)))
  | _ => false
theorem z_putz {ci k a : Nat} {x : Int32} (h : z_all (z_is j pc (zf_putz pc ci k n) :: t) = true) (ha : a < w_n w) (hk : w_K w a = ci) (hx : x = 0 ∨ x = 1) (kk : z_all t = true → z_R G j n ls r (z_w w (ev_u2 I a k x)) o w1) : z_R G j pc ls (.int x :: .ref a :: r) (z_w w I) o w1 := by
  obtain ⟨h1, h2⟩ := z_cons h
  obtain ⟨z0, ins, len, hz, hi, hl, hf⟩ := z_is_of h1
  unfold zf_putz at hf
  split at hf
  · rename_i ix
    simp only [Bool.and_eq_true] at hf
    obtain ⟨h4, h5, h7, h6⟩ := hf
    cases Nat.eq_of_beq_eq_true h4
    split at h6
    · rename_i q hq
      simp only [Bool.and_eq_true] at h6
      have e1 := Nat.eq_of_beq_eq_true h6.1
      have e2 := Nat.eq_of_beq_eq_true h6.2
      subst e1; subst e2
      refine z_step hz hi hl (fun go cal => ?_) (kk h2)
      show ev_putf go j z0 pc ls (z_w w I) ix (.int x :: .ref a :: r) = _
      unfold ev_putf
      dsimp only
      rw [hq]
      dsimp only
      rw [show (decide (a < w_n (z_w w I)) && (Nat.beq (w_K (z_w w I) a) q.1 && ev_pfok z0 q)) = true from by rw [Bool.and_eq_true, Bool.and_eq_true]; exact ⟨decide_eq_true ha, by rw [show w_K (z_w w I) a = q.1 from hk]; exact Nat.beq_refl _, h7⟩]
      rw [Nat.eq_of_beq_eq_true h5]
      show (bif decide (x = 0 ∨ x = 1) then _ else none) = _
      rw [decide_eq_true hx]
      rfl
    · cases h6
  · cases hf
def zf_putr (pc ci k n : Nat) (z : ev_ME) (ins : Instr) (_ : Nat) : Bool := match ins with
  | .putfield ix => Nat.beq n (pc + 3) && (Nat.beq (ev_fty ci k) 2 && (ev_pfok z (ci, k) && (match ev_look2 (ev_own1 z) ix ev_flt with | some q => Nat.beq q.1 ci && Nat.beq q.2 k | none => false)))
  | _ => false
theorem z_putr {ci k a b : Nat} (h : z_all (z_is j pc (zf_putr pc ci k n) :: t) = true) (ha : a < w_n w) (hk : w_K w a = ci) (kk : z_all t = true → z_R G j n ls r (w_sR w a k (some b)) o w1) : z_R G j pc ls (.ref b :: .ref a :: r) w o w1 := by
  obtain ⟨h1, h2⟩ := z_cons h
  obtain ⟨z0, ins, len, hz, hi, hl, hf⟩ := z_is_of h1
  unfold zf_putr at hf
  split at hf
  · rename_i ix
    simp only [Bool.and_eq_true] at hf
    obtain ⟨h4, h5, h7, h6⟩ := hf
    cases Nat.eq_of_beq_eq_true h4
    split at h6
    · rename_i q hq
      simp only [Bool.and_eq_true] at h6
      have e1 := Nat.eq_of_beq_eq_true h6.1
      have e2 := Nat.eq_of_beq_eq_true h6.2
      subst e1; subst e2
      refine z_step hz hi hl (fun go cal => ?_) (kk h2)
      show ev_putf go j z0 pc ls w ix (.ref b :: .ref a :: r) = _
      unfold ev_putf
      dsimp only
      rw [hq]
      dsimp only
      rw [show (decide (a < w_n w) && (Nat.beq (w_K w a) q.1 && ev_pfok z0 q)) = true from by rw [Bool.and_eq_true, Bool.and_eq_true]; exact ⟨decide_eq_true ha, by rw [hk]; exact Nat.beq_refl _, h7⟩]
      rw [Nat.eq_of_beq_eq_true h5]
      rfl
    · cases h6
  · cases hf
/-! arrays -/
theorem z_tr {a b : Bool} (h1 : a = true) (h2 : b = true) : (a && b) = true := by rw [h1, h2]; rfl
theorem z_nS {w : ev_W} {a : Nat} (ha : a < w_n w) (h : w_n w ≤ 1000) : Nat.beq a ev_S = false := by
  cases hb : Nat.beq a ev_S with
  | false => rfl
  | true => have := Nat.eq_of_beq_eq_true hb; unfold ev_S at this; omega
def zf_iald (pc n : Nat) (z : ev_ME) (ins : Instr) (_ : Nat) : Bool := match ins with
  | .iaload => Nat.beq n (pc + 1)
  | _ => false
theorem z_iald {a : Nat} {i : Int32} (h : z_all (z_is j pc (zf_iald pc n) :: t) = true) (ha : a < w_n w) (hn : w_n w ≤ 1000) (hk : w_K w a = 10)  (hi : ev_ok i (w_L w a) = true) (kk : z_all t = true → z_R G j n ls (.int (I a i.toNatClampNeg) :: r) (z_w w I) o w1) : z_R G j pc ls (.int i :: .ref a :: r) (z_w w I) o w1 := by
  obtain ⟨h1, h2⟩ := z_cons h
  obtain ⟨z0, ins, len, hz, hi9, hl, hf⟩ := z_is_of h1
  unfold zf_iald at hf
  split at hf
  · cases Nat.eq_of_beq_eq_true hf
    refine z_step hz hi9 hl (fun go cal => ?_) (kk h2)
    show ev_ildS go j pc ls (z_w w I) (.int i :: .ref a :: r) = _
    unfold ev_ildS ev_ald
    dsimp only
    rw [z_nS ha hn]
    rw [show w_K (z_w w I) a = 10 from hk, show w_L (z_w w I) a = w_L w a from rfl, hi, decide_eq_true (show a < w_n (z_w w I) from ha)]
    rfl
  · cases hf
def zf_bald (pc n : Nat) (z : ev_ME) (ins : Instr) (_ : Nat) : Bool := match ins with
  | .baload => Nat.beq n (pc + 1)
  | _ => false
theorem z_bald {a κ : Nat} {i : Int32} (h : z_all (z_is j pc (zf_bald pc n) :: t) = true) (ha : a < w_n w) (hn : w_n w ≤ 1000) (hk : w_K w a = κ) (hκ : κ = 9 ∨ κ = 11) (hi : ev_ok i (w_L w a) = true) (kk : z_all t = true → z_R G j n ls (.int (I a i.toNatClampNeg) :: r) (z_w w I) o w1) : z_R G j pc ls (.int i :: .ref a :: r) (z_w w I) o w1 := by
  obtain ⟨h1, h2⟩ := z_cons h
  obtain ⟨z0, ins, len, hz, hi9, hl, hf⟩ := z_is_of h1
  unfold zf_bald at hf
  split at hf
  · cases Nat.eq_of_beq_eq_true hf
    refine z_step hz hi9 hl (fun go cal => ?_) (kk h2)
    show ev_ald go j pc ls (z_w w I) 9 11 (.int i :: .ref a :: r) = _
    unfold ev_ald
    dsimp only
    rw [show w_K (z_w w I) a = κ from hk, show w_L (z_w w I) a = w_L w a from rfl, hi, decide_eq_true (show a < w_n (z_w w I) from ha)]
    rcases hκ with rfl | rfl <;> rfl
  · cases hf
def zf_aald (pc n : Nat) (z : ev_ME) (ins : Instr) (_ : Nat) : Bool := match ins with
  | .aaload => Nat.beq n (pc + 1)
  | _ => false
theorem z_aald {a b κ : Nat} {i : Int32} (h : z_all (z_is j pc (zf_aald pc n) :: t) = true) (ha : a < w_n w) (hn : w_n w ≤ 1000) (hk : w_K w a = κ) (hκ : κ = 12 ∨ κ = 13) (hr : w_R w a i.toNatClampNeg = some b) (hi : ev_ok i (w_L w a) = true) (kk : z_all t = true → z_R G j n ls (.ref b :: r) (z_w w I) o w1) : z_R G j pc ls (.int i :: .ref a :: r) (z_w w I) o w1 := by
  obtain ⟨h1, h2⟩ := z_cons h
  obtain ⟨z0, ins, len, hz, hi9, hl, hf⟩ := z_is_of h1
  unfold zf_aald at hf
  split at hf
  · cases Nat.eq_of_beq_eq_true hf
    refine z_step hz hi9 hl (fun go cal => ?_) (kk h2)
    show (bif decide (a < w_n (z_w w I)) && ((Nat.beq (w_K (z_w w I) a) 12 || Nat.beq (w_K (z_w w I) a) 13) && ev_ok i (w_L (z_w w I) a)) then go j (pc + 1) ls (va_rf (w_R (z_w w I) a i.toNatClampNeg) :: r) (z_w w I) else none) = _
    rw [show w_K (z_w w I) a = κ from hk, show w_L (z_w w I) a = w_L w a from rfl, show w_R (z_w w I) a i.toNatClampNeg = some b from hr, hi, decide_eq_true (show a < w_n (z_w w I) from ha)]
    rcases hκ with rfl | rfl <;> rfl
  · cases hf
def zf_iast (pc n : Nat) (z : ev_ME) (ins : Instr) (_ : Nat) : Bool := match ins with
  | .iastore => Nat.beq n (pc + 1)
  | _ => false
theorem z_iast {a : Nat} {i x : Int32} (h : z_all (z_is j pc (zf_iast pc n) :: t) = true) (ha : a < w_n w) (hn : w_n w ≤ 1000) (hk : w_K w a = 10)  (hi : ev_ok i (w_L w a) = true) (kk : z_all t = true → z_R G j n ls (r) (z_w w (ev_u2 I a i.toNatClampNeg x)) o w1) : z_R G j pc ls (.int x :: .int i :: .ref a :: r) (z_w w I) o w1 := by
  obtain ⟨h1, h2⟩ := z_cons h
  obtain ⟨z0, ins, len, hz, hi9, hl, hf⟩ := z_is_of h1
  unfold zf_iast at hf
  split at hf
  · cases Nat.eq_of_beq_eq_true hf
    refine z_step hz hi9 hl (fun go cal => ?_) (kk h2)
    show (bif decide (a < w_n (z_w w I)) && (Nat.beq (w_K (z_w w I) a) 10 && ev_ok i (w_L (z_w w I) a)) then go j (pc + 1) ls r (w_sI (z_w w I) a i.toNatClampNeg x) else none) = _
    rw [show w_K (z_w w I) a = 10 from hk, show w_L (z_w w I) a = w_L w a from rfl, hi, decide_eq_true (show a < w_n (z_w w I) from ha)]
    rfl
  · cases hf
def zf_bast (pc n : Nat) (z : ev_ME) (ins : Instr) (_ : Nat) : Bool := match ins with
  | .bastore => Nat.beq n (pc + 1)
  | _ => false
theorem z_bast {a : Nat} {i x : Int32} (h : z_all (z_is j pc (zf_bast pc n) :: t) = true) (ha : a < w_n w) (hn : w_n w ≤ 1000) (hk : w_K w a = 9)  (hi : ev_ok i (w_L w a) = true) (kk : z_all t = true → z_R G j n ls (r) (z_w w (ev_u2 I a i.toNatClampNeg (vp_nar .byte x))) o w1) : z_R G j pc ls (.int x :: .int i :: .ref a :: r) (z_w w I) o w1 := by
  obtain ⟨h1, h2⟩ := z_cons h
  obtain ⟨z0, ins, len, hz, hi9, hl, hf⟩ := z_is_of h1
  unfold zf_bast at hf
  split at hf
  · cases Nat.eq_of_beq_eq_true hf
    refine z_step hz hi9 hl (fun go cal => ?_) (kk h2)
    show (bif decide (a < w_n (z_w w I)) && ev_ok i (w_L (z_w w I) a) then (match w_K (z_w w I) a with
      | 9 => go j (pc + 1) ls r (w_sI (z_w w I) a i.toNatClampNeg (vp_nar .byte x))
      | 11 => go j (pc + 1) ls r (w_sI (z_w w I) a i.toNatClampNeg (vp_nar .boolean x))
      | _ => none) else none) = _
    rw [show w_K (z_w w I) a = 9 from hk, show w_L (z_w w I) a = w_L w a from rfl, hi, decide_eq_true (show a < w_n (z_w w I) from ha)]
    rfl
  · cases hf
def zf_zast (pc n : Nat) (z : ev_ME) (ins : Instr) (_ : Nat) : Bool := match ins with
  | .bastore => Nat.beq n (pc + 1)
  | _ => false
theorem z_zast {a : Nat} {i x : Int32} (h : z_all (z_is j pc (zf_zast pc n) :: t) = true) (ha : a < w_n w) (hn : w_n w ≤ 1000) (hk : w_K w a = 11)  (hi : ev_ok i (w_L w a) = true) (kk : z_all t = true → z_R G j n ls (r) (z_w w (ev_u2 I a i.toNatClampNeg (vp_nar .boolean x))) o w1) : z_R G j pc ls (.int x :: .int i :: .ref a :: r) (z_w w I) o w1 := by
  obtain ⟨h1, h2⟩ := z_cons h
  obtain ⟨z0, ins, len, hz, hi9, hl, hf⟩ := z_is_of h1
  unfold zf_zast at hf
  split at hf
  · cases Nat.eq_of_beq_eq_true hf
    refine z_step hz hi9 hl (fun go cal => ?_) (kk h2)
    show (bif decide (a < w_n (z_w w I)) && ev_ok i (w_L (z_w w I) a) then (match w_K (z_w w I) a with
      | 9 => go j (pc + 1) ls r (w_sI (z_w w I) a i.toNatClampNeg (vp_nar .byte x))
      | 11 => go j (pc + 1) ls r (w_sI (z_w w I) a i.toNatClampNeg (vp_nar .boolean x))
      | _ => none) else none) = _
    rw [show w_K (z_w w I) a = 11 from hk, show w_L (z_w w I) a = w_L w a from rfl, hi, decide_eq_true (show a < w_n (z_w w I) from ha)]
    rfl
  · cases hf
def zf_alen (pc n : Nat) (z : ev_ME) (ins : Instr) (_ : Nat) : Bool := match ins with
  | .arraylength => Nat.beq n (pc + 1)
  | _ => false
theorem z_alen {a : Nat} (h : z_all (z_is j pc (zf_alen pc n) :: t) = true) (ha : a < w_n w) (hn : w_n w ≤ 1000) (h9 : 9 ≤ w_K w a) (h16 : w_K w a < 16) (kk : z_all t = true → z_R G j n ls (.int (Int32.ofNat (w_L w a)) :: r) w o w1) : z_R G j pc ls (.ref a :: r) w o w1 := by
  obtain ⟨h1, h2⟩ := z_cons h
  obtain ⟨z0, ins, len, hz, hi9, hl, hf⟩ := z_is_of h1
  unfold zf_alen at hf
  split at hf
  · cases Nat.eq_of_beq_eq_true hf
    refine z_step hz hi9 hl (fun go cal => ?_) (kk h2)
    show ev_alen go j pc ls w (.ref a :: r) = _
    unfold ev_alen
    dsimp only
    rw [z_nS ha hn, decide_eq_true ha, decide_eq_true h9, decide_eq_true h16]
    rfl
  · cases hf
/-! answers -/
def zf_ret (k : Nat) (z : ev_ME) (ins : Instr) (_ : Nat) : Bool := match ins, k with
  | .ireturn, 0 => decide (ev_rt z = some .int)
  | .ireturn, 1 => decide (ev_rt z = some .boolean)
  | .ireturn, 2 => decide (ev_rt z = some .char)
  | .freturn, 3 => decide (ev_rt z = some .float)
  | .dreturn, 4 => decide (ev_rt z = some .double)
  | .areturn, 5 => (match ev_rt z with | some (.object _) => true | _ => false)
  | .return_, 6 => decide (ev_rt z = none)
  | _, _ => false
theorem z_reti {x : Int32} (h : z_all (z_is j pc (zf_ret 0) :: t) = true) : z_R G j pc ls [.int x] w (.inl (some (.int x))) w := by
  obtain ⟨h1, h2⟩ := z_cons h
  obtain ⟨z0, ins, len, hz, hi9, hl, hf⟩ := z_is_of h1
  cases ins with
  | ireturn =>
    have e : ev_rt z0 = some .int := of_decide_eq_true hf
    refine z_stop hz hi9 hl (fun go cal => ?_)
    show (bif ev_rok (ev_rt z0) (some (.int x)) then some (Sum.inl (some (Value.int x)), w) else none) = _
    rw [e]
    rfl
  | _ => cases hf
theorem z_retz {x : Int32} (h : z_all (z_is j pc (zf_ret 1) :: t) = true) (hx : x = 0 ∨ x = 1) : z_R G j pc ls [.int x] w (.inl (some (.int x))) w := by
  obtain ⟨h1, h2⟩ := z_cons h
  obtain ⟨z0, ins, len, hz, hi9, hl, hf⟩ := z_is_of h1
  cases ins with
  | ireturn =>
    have e : ev_rt z0 = some .boolean := of_decide_eq_true hf
    refine z_stop hz hi9 hl (fun go cal => ?_)
    show (bif ev_rok (ev_rt z0) (some (.int x)) then some (Sum.inl (some (Value.int x)), w) else none) = _
    rw [e, show ev_rok (some .boolean) (some (.int x)) = true from decide_eq_true hx]
    rfl
  | _ => cases hf
theorem z_retc {x : Int32} (h : z_all (z_is j pc (zf_ret 2) :: t) = true) (hx : x = 98 ∨ x = 116 ∨ x = 108 ∨ x = 103) : z_R G j pc ls [.int x] w (.inl (some (.int x))) w := by
  obtain ⟨h1, h2⟩ := z_cons h
  obtain ⟨z0, ins, len, hz, hi9, hl, hf⟩ := z_is_of h1
  cases ins with
  | ireturn =>
    have e : ev_rt z0 = some .char := of_decide_eq_true hf
    refine z_stop hz hi9 hl (fun go cal => ?_)
    show (bif ev_rok (ev_rt z0) (some (.int x)) then some (Sum.inl (some (Value.int x)), w) else none) = _
    rw [e, show ev_rok (some .char) (some (.int x)) = true from decide_eq_true hx]
    rfl
  | _ => cases hf
theorem z_retf {x : UInt32} (h : z_all (z_is j pc (zf_ret 3) :: t) = true) : z_R G j pc ls [.float x] w (.inl (some (.float x))) w := by
  obtain ⟨h1, h2⟩ := z_cons h
  obtain ⟨z0, ins, len, hz, hi9, hl, hf⟩ := z_is_of h1
  cases ins with
  | freturn =>
    have e : ev_rt z0 = some .float := of_decide_eq_true hf
    refine z_stop hz hi9 hl (fun go cal => ?_)
    show (bif ev_rok (ev_rt z0) (some (.float x)) then some (Sum.inl (some (Value.float x)), w) else none) = _
    rw [e]
    rfl
  | _ => cases hf
theorem z_retd {x : UInt64} (h : z_all (z_is j pc (zf_ret 4) :: t) = true) : z_R G j pc ls [.double x] w (.inl (some (.double x))) w := by
  obtain ⟨h1, h2⟩ := z_cons h
  obtain ⟨z0, ins, len, hz, hi9, hl, hf⟩ := z_is_of h1
  cases ins with
  | dreturn =>
    have e : ev_rt z0 = some .double := of_decide_eq_true hf
    refine z_stop hz hi9 hl (fun go cal => ?_)
    show (bif ev_rok (ev_rt z0) (some (.double x)) then some (Sum.inl (some (Value.double x)), w) else none) = _
    rw [e]
    rfl
  | _ => cases hf
theorem z_reta {x : Nat} (h : z_all (z_is j pc (zf_ret 5) :: t) = true) : z_R G j pc ls [.ref x] w (.inl (some (.ref x))) w := by
  obtain ⟨h1, h2⟩ := z_cons h
  obtain ⟨z0, ins, len, hz, hi9, hl, hf⟩ := z_is_of h1
  cases ins with
  | areturn =>
    refine z_stop hz hi9 hl (fun go cal => ?_)
    show (bif ev_rok (ev_rt z0) (some (.ref x)) then some (Sum.inl (some (Value.ref x)), w) else none) = _
    have hf : (match ev_rt z0 with | some (.object _) => true | _ => false) = true := hf
    split at hf
    · rename_i C e
      rw [e]
      rfl
    · cases hf
  | _ => cases hf
theorem z_retv (h : z_all (z_is j pc (zf_ret 6) :: t) = true) : z_R G j pc ls [] w (.inl none) w := by
  obtain ⟨h1, h2⟩ := z_cons h
  obtain ⟨z0, ins, len, hz, hi9, hl, hf⟩ := z_is_of h1
  cases ins with
  | return_ =>
    have e : ev_rt z0 = none := of_decide_eq_true hf
    refine z_stop hz hi9 hl (fun go cal => ?_)
    show (bif ev_rok (ev_rt z0) none then some (Sum.inl none, w) else none) = _
    rw [e]
    rfl
  | _ => cases hf
/-- an exception is thrown here -/
def z_thr (j pc E : Nat) : Bool := match ev_look2 j pc ev_thr with
  | some q => Nat.beq q.1 E
  | none => false
theorem z_throw {E : Nat} (h : z_all (z_thr j pc E :: t) = true) : z_R G j pc ls [] w (.inr E) (w_th w) := by
  obtain ⟨h1, h2⟩ := z_cons h
  unfold z_thr at h1
  split at h1
  · rename_i q hq
    cases Nat.eq_of_beq_eq_true h1
    intro D cy base ext
    exact ev_x_throw hq
  · cases h1
/-! calls -/
def zf_cv (pc j2 na ow n : Nat) (z : ev_ME) (ins : Instr) (_ : Nat) : Bool := match ins, ev_me j2 with
  | .invokevirtual ix, some e2 => Nat.beq n (pc + 3) && (Nat.beq (ev_kd e2) 1 && (Nat.beq (ev_na e2) na && (Nat.beq (ev_own1 e2) ow && (ev_rmk z e2 && (match ev_look2 (ev_own1 z) ix ev_tgt with | some k => Nat.beq k j2 | none => false)))))
  | _, _ => false
def zf_cs (pc j2 na n : Nat) (z : ev_ME) (ins : Instr) (_ : Nat) : Bool := match ins, ev_me j2 with
  | .invokestatic ix, some e2 => Nat.beq n (pc + 3) && (Nat.beq (ev_kd e2) 0 && (Nat.beq (ev_na e2) na && (ev_rmk z e2 && (match ev_look2 (ev_own1 z) ix ev_tgt with | some k => Nat.beq k j2 | none => false))))
  | _, _ => false
theorem z_callV {j2 na ow a : Nat} {as rest : List Value} {v : Option Value} {w2 : ev_W} (h : z_all (z_is j pc (zf_cv pc j2 na ow n) :: t) = true) (hst : st = as.reverse ++ .ref a :: rest) (hlen : as.length = na) (hcat : Nat.ble (ev_cat rest) 8 = true) (ha : a < w_n w) (hk : w_K w a = ow) (hc : z_K G j2 (.ref a :: as) w (.inl v) w2) (kk : z_all t = true → z_R G j n ls (v.toList ++ rest) w2 o w1) : z_R G j pc ls st w o w1 := by
  subst hst
  obtain ⟨h1, h2⟩ := z_cons h
  obtain ⟨z0, ins, len, hz, hi9, hl, hf⟩ := z_is_of h1
  unfold zf_cv at hf
  split at hf
  · rename_i ix e2 he2
    simp only [Bool.and_eq_true] at hf
    obtain ⟨g1, g2, g3, g4, g5, g6⟩ := hf
    cases Nat.eq_of_beq_eq_true g1
    split at g6
    · rename_i k hk9
      cases Nat.eq_of_beq_eq_true g6
      intro D cy base ext
      obtain ⟨c1, c2, c3⟩ := hc D cy base ext e2 he2
      have hs := kk h2 D cy base ext
      have hd3 : decode (ev_by z0) pc = .ok (.invokevirtual ix, 3) := by
        have h9 : Nat.beq len 3 = true := hl
        rw [← Nat.eq_of_beq_eq_true h9]; exact z_dec hz hi9
      exact ev_x_call hz (ev_z_cls hz) c2 c3 hs.1 hs.2.1 (fun v' hv' _ => by cases hv'; exact hs) (fun E hE => by cases hE) (ev_runV (ls := ls) hk9 he2 (Nat.eq_of_beq_eq_true g2) (by rw [hlen]; exact (Nat.eq_of_beq_eq_true g3).symm) ha (by rw [hk]; exact (Nat.eq_of_beq_eq_true g4).symm) (Nat.le_of_ble_eq_true hcat) g5 hd3 c1)
    · cases g6
  · cases hf
theorem z_callS {j2 na : Nat} {as rest : List Value} {v : Option Value} {w2 : ev_W} (h : z_all (z_is j pc (zf_cs pc j2 na n) :: t) = true) (hst : st = as.reverse ++ rest) (hlen : as.length = na) (hcat : Nat.ble (ev_cat rest) 8 = true) (hc : z_K G j2 as w (.inl v) w2) (kk : z_all t = true → z_R G j n ls (v.toList ++ rest) w2 o w1) : z_R G j pc ls st w o w1 := by
  subst hst
  obtain ⟨h1, h2⟩ := z_cons h
  obtain ⟨z0, ins, len, hz, hi9, hl, hf⟩ := z_is_of h1
  unfold zf_cs at hf
  split at hf
  · rename_i ix e2 he2
    simp only [Bool.and_eq_true] at hf
    obtain ⟨g1, g2, g3, g5, g6⟩ := hf
    cases Nat.eq_of_beq_eq_true g1
    split at g6
    · rename_i k hk9
      cases Nat.eq_of_beq_eq_true g6
      intro D cy base ext
      obtain ⟨c1, c2, c3⟩ := hc D cy base ext e2 he2
      have hs := kk h2 D cy base ext
      have hd3 : decode (ev_by z0) pc = .ok (.invokestatic ix, 3) := by
        have h9 : Nat.beq len 3 = true := hl
        rw [← Nat.eq_of_beq_eq_true h9]; exact z_dec hz hi9
      exact ev_x_call hz (ev_z_cls hz) c2 c3 hs.1 hs.2.1 (fun v' hv' _ => by cases hv'; exact hs) (fun E hE => by cases hE) (ev_runS (ls := ls) hk9 he2 (Nat.eq_of_beq_eq_true g2) (by rw [hlen]; exact (Nat.eq_of_beq_eq_true g3).symm) (Nat.le_of_ble_eq_true hcat) g5 hd3 c1)
    · cases g6
  · cases hf
/-- a callee's exception goes on to the caller's caller -/
def z_nh (j : Nat) : Bool := match ev_mel j with
  | some z => (ev_hh z).isEmpty
  | none => false
theorem z_callVx {j2 na ow a E : Nat} {as rest : List Value} (h : z_all (z_is j pc (zf_cv pc j2 na ow n) :: t) = true) (hst : st = as.reverse ++ .ref a :: rest) (hnh : z_nh j = true) (hlen : as.length = na) (hcat : Nat.ble (ev_cat rest) 8 = true) (ha : a < w_n w) (hk : w_K w a = ow) (hc : z_K G j2 (.ref a :: as) w (.inr E) w1) : z_R G j pc ls st w (.inr E) w1 := by
  subst hst
  obtain ⟨h1, h2⟩ := z_cons h
  obtain ⟨z0, ins, len, hz, hi9, hl, hf⟩ := z_is_of h1
  unfold zf_cv at hf
  split at hf
  · rename_i ix e2 he2
    simp only [Bool.and_eq_true] at hf
    obtain ⟨g1, g2, g3, g4, g5, g6⟩ := hf
    split at g6
    · rename_i k hk9
      cases Nat.eq_of_beq_eq_true g6
      intro D cy base ext
      obtain ⟨c1, c2, c3⟩ := hc D cy base ext e2 he2
      have hd3 : decode (ev_by z0) pc = .ok (.invokevirtual ix, 3) := by
        have h9 : Nat.beq len 3 = true := hl
        rw [← Nat.eq_of_beq_eq_true h9]; exact z_dec hz hi9
      have hhe : ev_hh z0 = [] := by
        unfold z_nh at hnh
        rw [hz] at hnh
        exact List.isEmpty_iff.mp hnh
      exact ev_x_call hz (ev_z_cls hz) c2 c3 (Nat.le_refl _) (Nat.le_refl _) (fun v' hv' => by cases hv') (fun E' hE' => by cases hE'; exact ⟨rfl, Or.inl ⟨hhe, rfl⟩⟩) (ev_runV (ls := ls) hk9 he2 (Nat.eq_of_beq_eq_true g2) (by rw [hlen]; exact (Nat.eq_of_beq_eq_true g3).symm) ha (by rw [hk]; exact (Nat.eq_of_beq_eq_true g4).symm) (Nat.le_of_ble_eq_true hcat) g5 hd3 c1)
    · cases g6
  · cases hf
theorem z_callSx {j2 na E : Nat} {as rest : List Value} (h : z_all (z_is j pc (zf_cs pc j2 na n) :: t) = true) (hst : st = as.reverse ++ rest) (hnh : z_nh j = true) (hlen : as.length = na) (hcat : Nat.ble (ev_cat rest) 8 = true) (hc : z_K G j2 as w (.inr E) w1) : z_R G j pc ls st w (.inr E) w1 := by
  subst hst
  obtain ⟨h1, h2⟩ := z_cons h
  obtain ⟨z0, ins, len, hz, hi9, hl, hf⟩ := z_is_of h1
  unfold zf_cs at hf
  split at hf
  · rename_i ix e2 he2
    simp only [Bool.and_eq_true] at hf
    obtain ⟨g1, g2, g3, g5, g6⟩ := hf
    split at g6
    · rename_i k hk9
      cases Nat.eq_of_beq_eq_true g6
      intro D cy base ext
      obtain ⟨c1, c2, c3⟩ := hc D cy base ext e2 he2
      have hd3 : decode (ev_by z0) pc = .ok (.invokestatic ix, 3) := by
        have h9 : Nat.beq len 3 = true := hl
        rw [← Nat.eq_of_beq_eq_true h9]; exact z_dec hz hi9
      have hhe : ev_hh z0 = [] := by
        unfold z_nh at hnh
        rw [hz] at hnh
        exact List.isEmpty_iff.mp hnh
      exact ev_x_call hz (ev_z_cls hz) c2 c3 (Nat.le_refl _) (Nat.le_refl _) (fun v' hv' => by cases hv') (fun E' hE' => by cases hE'; exact ⟨rfl, Or.inl ⟨hhe, rfl⟩⟩) (ev_runS (ls := ls) hk9 he2 (Nat.eq_of_beq_eq_true g2) (by rw [hlen]; exact (Nat.eq_of_beq_eq_true g3).symm) (Nat.le_of_ble_eq_true hcat) g5 hd3 c1)
    · cases g6
  · cases hf
/-- max, min, abs -/
def zf_nat (pc kx n : Nat) (z : ev_ME) (ins : Instr) (_ : Nat) : Bool := match ins with
  | .invokestatic ix => Nat.beq n (pc + 3) && ((ev_look2 (ev_own1 z) ix ev_tgt).isNone && (ev_rmn z && (match ev_look2 (ev_own1 z) ix ev_nat with | some k => Nat.beq k kx | none => false)))
  | _ => false
theorem z_nat {kx : Nat} {v : Int32} (hcat : Nat.ble (ev_cat r) 8 = true) (h : z_all (z_is j pc (zf_nat pc kx n) :: t) = true) (hv : ∀ (go : Nat → Nat → ev_L → List Value → ev_W → Option ev_R) (z0 : ev_ME), ev_rmn z0 = true → ev_natc go j z0 pc ls w kx st = go j (pc + 3) ls (.int v :: r) w) (kk : z_all t = true → z_R G j n ls (.int v :: r) w o w1) : z_R G j pc ls st w o w1 := by
  obtain ⟨h1, h2⟩ := z_cons h
  obtain ⟨z0, ins, len, hz, hi9, hl, hf⟩ := z_is_of h1
  unfold zf_nat at hf
  split at hf
  · rename_i ix
    simp only [Bool.and_eq_true] at hf
    obtain ⟨g1, g2, g3, g4⟩ := hf
    cases Nat.eq_of_beq_eq_true g1
    split at g4
    · rename_i k hk9
      have e := Nat.eq_of_beq_eq_true g4
      subst e
      refine z_step hz hi9 hl (fun go cal => ?_) (kk h2)
      show ev_inv go cal j z0 pc ls w 0 ix st = _
      unfold ev_inv
      rw [Option.isNone_iff_eq_none.mp g2]
      dsimp only
      rw [hk9]
      exact hv go z0 g3
    · cases g4
  · cases hf
theorem z_max {x y : Int32} (h : z_all (z_is j pc (zf_nat pc 100 n) :: t) = true) (hcat : Nat.ble (ev_cat r) 8 = true) (kk : z_all t = true → z_R G j n ls (.int (z_mx x y) :: r) w o w1) : z_R G j pc ls (.int y :: .int x :: r) w o w1 := z_nat hcat h (fun go z0 hr => by
  show (bif decide (ev_cat r ≤ 8) && ev_rmn z0 then _ else none) = _
  rw [decide_eq_true (Nat.le_of_ble_eq_true hcat), hr]; rfl) kk
theorem z_min {x y : Int32} (h : z_all (z_is j pc (zf_nat pc 101 n) :: t) = true) (hcat : Nat.ble (ev_cat r) 8 = true) (kk : z_all t = true → z_R G j n ls (.int (z_mn x y) :: r) w o w1) : z_R G j pc ls (.int y :: .int x :: r) w o w1 := z_nat hcat h (fun go z0 hr => by
  show (bif decide (ev_cat r ≤ 8) && ev_rmn z0 then _ else none) = _
  rw [decide_eq_true (Nat.le_of_ble_eq_true hcat), hr]; rfl) kk
theorem z_abs {x : Int32} (h : z_all (z_is j pc (zf_nat pc 102 n) :: t) = true) (hcat : Nat.ble (ev_cat r) 8 = true) (kk : z_all t = true → z_R G j n ls (.int (z_ab x) :: r) w o w1) : z_R G j pc ls (.int x :: r) w o w1 := z_nat hcat h (fun go z0 hr => by
  show (bif decide (ev_cat r ≤ 8) && ev_rmn z0 then _ else none) = _
  rw [decide_eq_true (Nat.le_of_ble_eq_true hcat), hr]; rfl) kk
def zf_lds (pc k n : Nat) (z : ev_ME) (ins : Instr) (_ : Nat) : Bool := match ins with
  | .ldc ix => Nat.beq n (pc + 2) && (match ev_strp (ev_own1 z) ix ev_str 0 with | some k2 => Nat.beq k2 k | none => false)
  | _ => false
theorem z_lds {k : Nat} (h : z_all (z_is j pc (zf_lds pc k n) :: t) = true) (kk : z_all t = true → z_R G j n ls (.ref (ev_S + 1 + k) :: st) w o w1) : z_R G j pc ls st w o w1 := by
  obtain ⟨h1, h2⟩ := z_cons h
  obtain ⟨z0, ins, len, hz, hi9, hl, hf⟩ := z_is_of h1
  unfold zf_lds at hf
  split at hf
  · rename_i ix
    simp only [Bool.and_eq_true] at hf
    obtain ⟨g1, g2⟩ := hf
    cases Nat.eq_of_beq_eq_true g1
    split at g2
    · rename_i k2 hk9
      have e := Nat.eq_of_beq_eq_true g2
      subst e
      refine z_step hz hi9 hl (fun go cal => ?_) (kk h2)
      show (match ev_strp (ev_own1 z0) ix ev_str 0 with
        | some k => go j (pc + 2) ls (.ref (ev_S + 1 + k) :: st) w
        | none => none) = _
      rw [hk9]
    · cases g2
  · cases hf
end ZRUL
