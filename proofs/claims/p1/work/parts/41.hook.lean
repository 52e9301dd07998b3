/-! the evaluator with one method of the reference answered at once -/
def ev_jin : Nat := 203
def ev_zin : ev_ME := (8, ⟨"FlagLaundryModel", "in", "(III)Z"⟩, prog_10_method_3_code, 3, some FieldType.boolean, 3, 0, 0, 0, [])
def ev_in3 (v lo hi : Int32) : Int32 := if lo ≤ v then (if v ≤ hi then 1 else 0) else 0
theorem ev_go {F j pc n : Nat} {ins : Instr} {z : ev_ME} {ls : ev_L} {st : List Value} {w : ev_W} (h1 : ev_look2 j pc ev_thr = none) (h2 : ev_mel j = some z) (h3 : ev_cd j pc = some (ins, n)) (h4 : ev_lok n ins = true) : ev (F + 1) j pc ls st w = ev_ins (ev F) (ev_call F) j z pc ls w st n ins := by
  rw [ev_s]
  unfold ev_body
  rw [h1, h2, h3]
  dsimp only
  rw [h4]
  rfl
theorem ev_zin_me : ev_me ev_jin = some ev_zin := rfl
theorem ev_zin_mel : ev_mel ev_jin = some ev_zin := rfl
theorem ev_in_ev (G : Nat) (v lo hi : Int32) (w : ev_W) : ev (G + 9) ev_jin 0 (ev_in 3 [.int v, .int lo, .int hi]) [] w = some (.inl (some (.int (ev_in3 v lo hi))), w) := by
  have hcd : ev_cd ev_jin 0 = some (.iload_n 1, 1) ∧ ev_cd ev_jin 1 = some (.iload_n 0, 1) ∧ ev_cd ev_jin 2 = some (.if_icmp .gt 12, 3) ∧ ev_cd ev_jin 5 = some (.iload_n 0, 1) ∧ ev_cd ev_jin 6 = some (.iload_n 2, 1) ∧ ev_cd ev_jin 7 = some (.if_icmp .gt 7, 3) ∧ ev_cd ev_jin 10 = some (.iconst 1, 1) ∧ ev_cd ev_jin 11 = some (.goto 4, 3) ∧ ev_cd ev_jin 14 = some (.iconst 0, 1) ∧ ev_cd ev_jin 15 = some (.ireturn, 1) := by decide +kernel
  obtain ⟨c0, c1, c2, c5, c6, c7, c10, c11, c14, c15⟩ := hcd
  have ht : ev_look2 ev_jin 0 ev_thr = none ∧ ev_look2 ev_jin 1 ev_thr = none ∧ ev_look2 ev_jin 2 ev_thr = none ∧ ev_look2 ev_jin 5 ev_thr = none ∧ ev_look2 ev_jin 6 ev_thr = none ∧ ev_look2 ev_jin 7 ev_thr = none ∧ ev_look2 ev_jin 10 ev_thr = none ∧ ev_look2 ev_jin 11 ev_thr = none ∧ ev_look2 ev_jin 14 ev_thr = none ∧ ev_look2 ev_jin 15 ev_thr = none := by decide +kernel
  obtain ⟨t0, t1, t2, t5, t6, t7, t10, t11, t14, t15⟩ := ht
  have hls : ev_in 3 [.int v, .int lo, .int hi] = [some (.int v), some (.int lo), some (.int hi)] := rfl
  rw [hls]
  have r15 : ∀ F (x : Int32), x = 0 ∨ x = 1 → ev (F + 1) ev_jin 15 [some (.int v), some (.int lo), some (.int hi)] [.int x] w = some (.inl (some (.int x)), w) := by
    intro F x hx
    rw [ev_go t15 ev_zin_mel c15 rfl]
    show (bif decide (x = 0 ∨ x = 1) then some (Sum.inl (some (Value.int x)), w) else none) = _
    rw [decide_eq_true hx]
    rfl
  have r14 : ∀ F, ev (F + 2) ev_jin 14 [some (.int v), some (.int lo), some (.int hi)] [] w = some (.inl (some (.int 0)), w) := by
    intro F
    rw [ev_go t14 ev_zin_mel c14 rfl]
    exact r15 F 0 (Or.inl rfl)
  have r10 : ∀ F, ev (F + 3) ev_jin 10 [some (.int v), some (.int lo), some (.int hi)] [] w = some (.inl (some (.int 1)), w) := by
    intro F
    rw [ev_go t10 ev_zin_mel c10 rfl]
    show ev (F + 2) ev_jin 11 [some (.int v), some (.int lo), some (.int hi)] [.int 1] w = _
    rw [ev_go t11 ev_zin_mel c11 rfl]
    exact r15 F 1 (Or.inr rfl)
  have r5 : ev (G + 6) ev_jin 5 [some (.int v), some (.int lo), some (.int hi)] [] w = some (.inl (some (.int (if v ≤ hi then 1 else 0))), w) := by
    rw [ev_go t5 ev_zin_mel c5 rfl]
    show ev (G + 5) ev_jin 6 [some (.int v), some (.int lo), some (.int hi)] [.int v] w = _
    rw [ev_go t6 ev_zin_mel c6 rfl]
    show ev (G + 4) ev_jin 7 [some (.int v), some (.int lo), some (.int hi)] [.int hi, .int v] w = _
    rw [ev_go t7 ev_zin_mel c7 rfl]
    show (bif decide (hi < v) then ev (G + 3) ev_jin 14 [some (.int v), some (.int lo), some (.int hi)] [] w else ev (G + 3) ev_jin 10 [some (.int v), some (.int lo), some (.int hi)] [] w) = _
    by_cases h : v ≤ hi
    · rw [if_pos h, decide_eq_false (Int32.not_lt.mpr h), cond_false]
      exact r10 G
    · rw [if_neg h, decide_eq_true (Int32.not_le.mp h), cond_true]
      exact r14 (G + 1)
  rw [ev_go t0 ev_zin_mel c0 rfl]
  show ev (G + 8) ev_jin 1 [some (.int v), some (.int lo), some (.int hi)] [.int lo] w = _
  rw [ev_go t1 ev_zin_mel c1 rfl]
  show ev (G + 7) ev_jin 2 [some (.int v), some (.int lo), some (.int hi)] [.int v, .int lo] w = _
  rw [ev_go t2 ev_zin_mel c2 rfl]
  show (bif decide (v < lo) then ev (G + 6) ev_jin 14 [some (.int v), some (.int lo), some (.int hi)] [] w else ev (G + 6) ev_jin 5 [some (.int v), some (.int lo), some (.int hi)] [] w) = _
  unfold ev_in3
  by_cases h : lo ≤ v
  · rw [if_pos h, decide_eq_false (Int32.not_lt.mpr h), cond_false]
    exact r5
  · rw [if_neg h, decide_eq_true (Int32.not_le.mp h), cond_true]
    exact r14 (G + 4)

theorem ev_in3_b (v lo hi : Int32) : ev_in3 v lo hi = 0 ∨ ev_in3 v lo hi = 1 := by
  unfold ev_in3
  by_cases h : lo ≤ v
  · rw [if_pos h]
    by_cases h9 : v ≤ hi
    · rw [if_pos h9]; exact Or.inr rfl
    · rw [if_neg h9]; exact Or.inl rfl
  · rw [if_neg h]; exact Or.inl rfl

def ev_jh : Nat := 287
def ev_zh : ev_ME := (8, ⟨"FlagLaundryModel", "isHeat", "(I)Z"⟩, prog_10_method_87_code, 1, some FieldType.boolean, 1, 0, 1, 22, [])
theorem ev_zh_me : ev_me ev_jh = some ev_zh := rfl
theorem ev_zh_mel : ev_mel ev_jh = some ev_zh := rfl
theorem ev_h_ev (G : Nat) (v : Int32) (w : ev_W) : ev (G + 14) ev_jh 0 (ev_in 1 [.int v]) [] w = some (.inl (some (.int (ev_in3 v 0 3))), w) := by
  have hcd : ev_cd ev_jh 0 = some (.iload_n 0, 1) ∧ ev_cd ev_jh 1 = some (.iconst 0, 1) ∧ ev_cd ev_jh 2 = some (.iconst 3, 1) ∧ ev_cd ev_jh 3 = some (.invokestatic 68, 3) ∧ ev_cd ev_jh 6 = some (.ireturn, 1) := by decide +kernel
  obtain ⟨c0, c1, c2, c3, c6⟩ := hcd
  have ht : ev_look2 ev_jh 0 ev_thr = none ∧ ev_look2 ev_jh 1 ev_thr = none ∧ ev_look2 ev_jh 2 ev_thr = none ∧ ev_look2 ev_jh 3 ev_thr = none ∧ ev_look2 ev_jh 6 ev_thr = none := by decide +kernel
  obtain ⟨t0, t1, t2, t3, t6⟩ := ht
  have hls : ev_in 1 [.int v] = [some (.int v)] := rfl
  have htg : ev_look2 (ev_own1 ev_zh) 68 ev_tgt = some ev_jin := by decide +kernel
  have hcal : ev_call (G + 10) ev_jin [.int v, .int 0, .int 3] w = some (.inl (some (.int (ev_in3 v 0 3))), w) := by
    unfold ev_call
    rw [ev_zin_me]
    show (bif true then ev (G + 10) ev_jin 0 (ev_in 3 [.int v, .int 0, .int 3]) [] w else none) = _
    rw [cond_true]
    exact ev_in_ev (G + 1) v 0 3 w
  have e3 : ev_rok (some FieldType.boolean) (some (.int (ev_in3 v 0 3))) = true := decide_eq_true (ev_in3_b v 0 3)
  rw [hls, ev_go t0 ev_zh_mel c0 rfl]
  show ev (G + 13) ev_jh 1 [some (.int v)] [.int v] w = _
  rw [ev_go t1 ev_zh_mel c1 rfl]
  show ev (G + 12) ev_jh 2 [some (.int v)] [.int 0, .int v] w = _
  rw [ev_go t2 ev_zh_mel c2 rfl]
  show ev (G + 11) ev_jh 3 [some (.int v)] [.int 3, .int 0, .int v] w = _
  rw [ev_go t3 ev_zh_mel c3 rfl]
  show ev_inv (ev (G + 10)) (ev_call (G + 10)) ev_jh ev_zh 3 [some (.int v)] w 0 68 [.int 3, .int 0, .int v] = _
  unfold ev_inv
  rw [htg]
  dsimp only
  rw [ev_zin_me]
  show (bif true then ev_aft (ev (G + 10)) ev_jh ev_zh 3 [some (.int v)] (some FieldType.boolean) [] (ev_call (G + 10) ev_jin [.int v, .int 0, .int 3] w) else none) = _
  rw [hcal, cond_true]
  show (bif ev_rok (some FieldType.boolean) (some (.int (ev_in3 v 0 3))) then ev (G + 10) ev_jh 6 [some (.int v)] [.int (ev_in3 v 0 3)] w else none) = _
  rw [e3, cond_true, ev_go t6 ev_zh_mel c6 rfl]
  show (bif ev_rok (some FieldType.boolean) (some (.int (ev_in3 v 0 3))) then some (Sum.inl (some (Value.int (ev_in3 v 0 3))), w) else none) = _
  rw [e3]
  rfl

def ev_jw : Nat := 329
def ev_zw : ev_ME := (8, ⟨"FlagLaundryModel", "isWind", "(I)Z"⟩, prog_10_method_129_code, 1, some FieldType.boolean, 1, 0, 1, 22, [])
theorem ev_zw_me : ev_me ev_jw = some ev_zw := rfl
theorem ev_zw_mel : ev_mel ev_jw = some ev_zw := rfl
theorem ev_w_ev (G : Nat) (v : Int32) (w : ev_W) : ev (G + 14) ev_jw 0 (ev_in 1 [.int v]) [] w = some (.inl (some (.int (ev_in3 v 0 9))), w) := by
  have hcd : ev_cd ev_jw 0 = some (.iload_n 0, 1) ∧ ev_cd ev_jw 1 = some (.iconst 0, 1) ∧ ev_cd ev_jw 2 = some (.bipush 9, 2) ∧ ev_cd ev_jw 4 = some (.invokestatic 68, 3) ∧ ev_cd ev_jw 7 = some (.ireturn, 1) := by decide +kernel
  obtain ⟨c0, c1, c2, c3, c6⟩ := hcd
  have ht : ev_look2 ev_jw 0 ev_thr = none ∧ ev_look2 ev_jw 1 ev_thr = none ∧ ev_look2 ev_jw 2 ev_thr = none ∧ ev_look2 ev_jw 4 ev_thr = none ∧ ev_look2 ev_jw 7 ev_thr = none := by decide +kernel
  obtain ⟨t0, t1, t2, t3, t6⟩ := ht
  have hls : ev_in 1 [.int v] = [some (.int v)] := rfl
  have htg : ev_look2 (ev_own1 ev_zw) 68 ev_tgt = some ev_jin := by decide +kernel
  have hcal : ev_call (G + 10) ev_jin [.int v, .int 0, .int 9] w = some (.inl (some (.int (ev_in3 v 0 9))), w) := by
    unfold ev_call
    rw [ev_zin_me]
    show (bif true then ev (G + 10) ev_jin 0 (ev_in 3 [.int v, .int 0, .int 9]) [] w else none) = _
    rw [cond_true]
    exact ev_in_ev (G + 1) v 0 9 w
  have e3 : ev_rok (some FieldType.boolean) (some (.int (ev_in3 v 0 9))) = true := decide_eq_true (ev_in3_b v 0 9)
  rw [hls, ev_go t0 ev_zw_mel c0 rfl]
  show ev (G + 13) ev_jw 1 [some (.int v)] [.int v] w = _
  rw [ev_go t1 ev_zw_mel c1 rfl]
  show ev (G + 12) ev_jw 2 [some (.int v)] [.int 0, .int v] w = _
  rw [ev_go t2 ev_zw_mel c2 rfl]
  show ev (G + 11) ev_jw 4 [some (.int v)] [.int 9, .int 0, .int v] w = _
  rw [ev_go t3 ev_zw_mel c3 rfl]
  show ev_inv (ev (G + 10)) (ev_call (G + 10)) ev_jw ev_zw 4 [some (.int v)] w 0 68 [.int 9, .int 0, .int v] = _
  unfold ev_inv
  rw [htg]
  dsimp only
  rw [ev_zin_me]
  show (bif true then ev_aft (ev (G + 10)) ev_jw ev_zw 4 [some (.int v)] (some FieldType.boolean) [] (ev_call (G + 10) ev_jin [.int v, .int 0, .int 9] w) else none) = _
  rw [hcal, cond_true]
  show (bif ev_rok (some FieldType.boolean) (some (.int (ev_in3 v 0 9))) then ev (G + 10) ev_jw 7 [some (.int v)] [.int (ev_in3 v 0 9)] w else none) = _
  rw [e3, cond_true, ev_go t6 ev_zw_mel c6 rfl]
  show (bif ev_rok (some FieldType.boolean) (some (.int (ev_in3 v 0 9))) then some (Sum.inl (some (Value.int (ev_in3 v 0 9))), w) else none) = _
  rw [e3]
  rfl

def ev_js : Nat := 368
def ev_zs : ev_ME := (8, ⟨"FlagLaundryModel", "isSlot", "(I)Z"⟩, prog_10_method_168_code, 1, some FieldType.boolean, 1, 0, 1, 22, [])
theorem ev_zs_me : ev_me ev_js = some ev_zs := rfl
theorem ev_zs_mel : ev_mel ev_js = some ev_zs := rfl
theorem ev_s_ev (G : Nat) (v : Int32) (w : ev_W) : ev (G + 14) ev_js 0 (ev_in 1 [.int v]) [] w = some (.inl (some (.int (ev_in3 v 0 1))), w) := by
  have hcd : ev_cd ev_js 0 = some (.iload_n 0, 1) ∧ ev_cd ev_js 1 = some (.iconst 0, 1) ∧ ev_cd ev_js 2 = some (.iconst 1, 1) ∧ ev_cd ev_js 3 = some (.invokestatic 68, 3) ∧ ev_cd ev_js 6 = some (.ireturn, 1) := by decide +kernel
  obtain ⟨c0, c1, c2, c3, c6⟩ := hcd
  have ht : ev_look2 ev_js 0 ev_thr = none ∧ ev_look2 ev_js 1 ev_thr = none ∧ ev_look2 ev_js 2 ev_thr = none ∧ ev_look2 ev_js 3 ev_thr = none ∧ ev_look2 ev_js 6 ev_thr = none := by decide +kernel
  obtain ⟨t0, t1, t2, t3, t6⟩ := ht
  have hls : ev_in 1 [.int v] = [some (.int v)] := rfl
  have htg : ev_look2 (ev_own1 ev_zs) 68 ev_tgt = some ev_jin := by decide +kernel
  have hcal : ev_call (G + 10) ev_jin [.int v, .int 0, .int 1] w = some (.inl (some (.int (ev_in3 v 0 1))), w) := by
    unfold ev_call
    rw [ev_zin_me]
    show (bif true then ev (G + 10) ev_jin 0 (ev_in 3 [.int v, .int 0, .int 1]) [] w else none) = _
    rw [cond_true]
    exact ev_in_ev (G + 1) v 0 1 w
  have e3 : ev_rok (some FieldType.boolean) (some (.int (ev_in3 v 0 1))) = true := decide_eq_true (ev_in3_b v 0 1)
  rw [hls, ev_go t0 ev_zs_mel c0 rfl]
  show ev (G + 13) ev_js 1 [some (.int v)] [.int v] w = _
  rw [ev_go t1 ev_zs_mel c1 rfl]
  show ev (G + 12) ev_js 2 [some (.int v)] [.int 0, .int v] w = _
  rw [ev_go t2 ev_zs_mel c2 rfl]
  show ev (G + 11) ev_js 3 [some (.int v)] [.int 1, .int 0, .int v] w = _
  rw [ev_go t3 ev_zs_mel c3 rfl]
  show ev_inv (ev (G + 10)) (ev_call (G + 10)) ev_js ev_zs 3 [some (.int v)] w 0 68 [.int 1, .int 0, .int v] = _
  unfold ev_inv
  rw [htg]
  dsimp only
  rw [ev_zin_me]
  show (bif true then ev_aft (ev (G + 10)) ev_js ev_zs 3 [some (.int v)] (some FieldType.boolean) [] (ev_call (G + 10) ev_jin [.int v, .int 0, .int 1] w) else none) = _
  rw [hcal, cond_true]
  show (bif ev_rok (some FieldType.boolean) (some (.int (ev_in3 v 0 1))) then ev (G + 10) ev_js 6 [some (.int v)] [.int (ev_in3 v 0 1)] w else none) = _
  rw [e3, cond_true, ev_go t6 ev_zs_mel c6 rfl]
  show (bif ev_rok (some FieldType.boolean) (some (.int (ev_in3 v 0 1))) then some (Sum.inl (some (Value.int (ev_in3 v 0 1))), w) else none) = _
  rw [e3]
  rfl
/-- the place is a call of one of the four: which, the caller's row -/
def ev_hook (m pc : Nat) : Option (Nat × Nat × ev_ME) := match ev_cd m pc with
  | some (.invokestatic ix, 3) => (match ev_mel m with
    | some e => (match ev_look2 (ev_own1 e) ix ev_tgt with
      | some j => bif Nat.beq j ev_jin || (Nat.beq j ev_jh || (Nat.beq j ev_jw || Nat.beq j ev_js)) then some (j, ix, e) else none
      | none => none)
    | none => none)
  | _ => none
def ev_calH (j : Nat) (as : List Value) (w : ev_W) : Option ev_R := bif Nat.beq j ev_jin then (match as with
  | [.int v, .int lo, .int hi] => some (.inl (some (.int (ev_in3 v lo hi))), w)
  | _ => none) else bif Nat.beq j ev_jh then (match as with
  | [.int v] => some (.inl (some (.int (ev_in3 v 0 3))), w)
  | _ => none) else bif Nat.beq j ev_jw then (match as with
  | [.int v] => some (.inl (some (.int (ev_in3 v 0 9))), w)
  | _ => none) else bif Nat.beq j ev_js then (match as with
  | [.int v] => some (.inl (some (.int (ev_in3 v 0 1))), w)
  | _ => none) else none
section EVK
variable (bh : Nat → ev_L → List Value → ev_W → Option (Nat × List Value × ev_W))
def evk_hk (go : Nat → Nat → ev_L → List Value → ev_W → Option ev_R) (m pc : Nat) (ls : ev_L) (w : ev_W) (j : Nat) (e : ev_ME) (st : List Value) : Option ev_R := bif Nat.beq j ev_jin then (match st with
    | .int hi :: .int lo :: .int v :: r => bif decide (ev_cat r ≤ 8) && ev_rmk e ev_zin then go m (pc + 3) ls (.int (ev_in3 v lo hi) :: r) w else none
    | _ => none)
  else bif Nat.beq j ev_jh then (match st with
    | .int v :: r => bif decide (ev_cat r ≤ 8) && ev_rmk e ev_zh then go m (pc + 3) ls (.int (ev_in3 v 0 3) :: r) w else none
    | _ => none)
  else bif Nat.beq j ev_jw then (match st with
    | .int v :: r => bif decide (ev_cat r ≤ 8) && ev_rmk e ev_zw then go m (pc + 3) ls (.int (ev_in3 v 0 9) :: r) w else none
    | _ => none)
  else bif Nat.beq j ev_js then (match st with
    | .int v :: r => bif decide (ev_cat r ≤ 8) && ev_rmk e ev_zs then go m (pc + 3) ls (.int (ev_in3 v 0 1) :: r) w else none
    | _ => none)
  else none
def evk_body (go : Nat → Nat → ev_L → List Value → ev_W → Option ev_R) (cal : Nat → List Value → ev_W → Option ev_R) (m pc : Nat) (ls : ev_L) (w : ev_W) (st : List Value) : Option ev_R := match (bif Nat.beq m ev_LAW then bh pc ls st w else none) with
  | some q => go m q.1 ls q.2.1 q.2.2
  | none => (match ev_hook m pc with
    | some q => evk_hk go m pc ls w q.1 q.2.2 st
    | none => ev_body go cal m pc ls w st)
def evk (F : Nat) : Nat → Nat → ev_L → List Value → ev_W → Option ev_R := Nat.rec (fun _ _ _ _ _ => none) (fun _ g m pc ls st w => evk_body bh g (fun j as w1 => match ev_me j with
  | some e2 => bif as.all (fun v => Nat.beq v.category 1) && decide (as.length ≤ ev_ml e2) then g j 0 (ev_in (ev_ml e2) as) [] w1 else none
  | none => none) m pc ls w st) F
def evk_call (F : Nat) (j : Nat) (as : List Value) (w : ev_W) : Option ev_R := match ev_me j with
  | some e2 => bif as.all (fun v => Nat.beq v.category 1) && decide (as.length ≤ ev_ml e2) then evk bh F j 0 (ev_in (ev_ml e2) as) [] w else none
  | none => none
theorem evk_s (F m pc : Nat) (ls : ev_L) (st : List Value) (w : ev_W) : evk bh (F + 1) m pc ls st w = evk_body bh (evk bh F) (evk_call bh F) m pc ls w st := rfl
end EVK
section EVKS
variable {D : va_G} {cy : Nat → ClassId} {base : Nat} {ext : Nat → Nat} {SL : Nat} {SX : Nat → Int32} {l : Launch} {bh : Nat → ev_L → List Value → ev_W → Option (Nat × List Value × ev_W)} {j pc : Nat} {ls : ev_L} {r st : List Value} {w : ev_W} {o : Option Value ⊕ Nat} {w1 : ev_W}
theorem ev_calH_ok (hl : l.stackTraces = false) (j2 : Nat) (e2 : ev_ME) (as : List Value) (w2 : ev_W) (o2 : Option Value ⊕ Nat) (w3 : ev_W) (he2 : ev_me j2 = some e2) (hc2 : ev_calH j2 as w2 = some (o2, w3)) : ev_Con D cy base ext SL SX l e2 as w2 o2 w3 ∧ w_c w2 ≤ w_c w3 ∧ w_z w2 ≤ w_z w3 := by
  have c1 : ∀ v : Int32, ∀ x ∈ [Value.int v], x.category = 1 := fun v x hx => by rw [List.mem_singleton.mp hx]; rfl
  unfold ev_calH at hc2
  cases hb : Nat.beq j2 ev_jin with
  | true =>
    rw [hb, cond_true] at hc2
    have h9 := Nat.eq_of_beq_eq_true hb
    subst h9
    cases Option.some.inj (ev_zin_me.symm.trans he2)
    split at hc2
    · cases hc2
      exact ⟨ev_con he2 hl (fun v hv8 => by
        simp only [List.mem_cons, List.not_mem_nil, or_false] at hv8
        rcases hv8 with rfl | rfl | rfl <;> rfl) (Nat.le_refl 3) (ev_sound hl 9 _ _ _ _ _ _ _ (ev_in_ev 0 _ _ _ w2)), Nat.le_refl _, Nat.le_refl _⟩
    · cases hc2
  | false =>
    rw [hb, cond_false] at hc2
    cases hb : Nat.beq j2 ev_jh with
    | true =>
      rw [hb, cond_true] at hc2
      have h9 := Nat.eq_of_beq_eq_true hb
      subst h9
      cases Option.some.inj (ev_zh_me.symm.trans he2)
      split at hc2
      · cases hc2
        exact ⟨ev_con he2 hl (c1 _) (Nat.le_refl 1) (ev_sound hl 14 _ _ _ _ _ _ _ (ev_h_ev 0 _ w2)), Nat.le_refl _, Nat.le_refl _⟩
      · cases hc2
    | false =>
      rw [hb, cond_false] at hc2
      cases hb : Nat.beq j2 ev_jw with
      | true =>
        rw [hb, cond_true] at hc2
        have h9 := Nat.eq_of_beq_eq_true hb
        subst h9
        cases Option.some.inj (ev_zw_me.symm.trans he2)
        split at hc2
        · cases hc2
          exact ⟨ev_con he2 hl (c1 _) (Nat.le_refl 1) (ev_sound hl 14 _ _ _ _ _ _ _ (ev_w_ev 0 _ w2)), Nat.le_refl _, Nat.le_refl _⟩
        · cases hc2
      | false =>
        rw [hb, cond_false] at hc2
        cases hb : Nat.beq j2 ev_js with
        | true =>
          rw [hb, cond_true] at hc2
          have h9 := Nat.eq_of_beq_eq_true hb
          subst h9
          cases Option.some.inj (ev_zs_me.symm.trans he2)
          split at hc2
          · cases hc2
            exact ⟨ev_con he2 hl (c1 _) (Nat.le_refl 1) (ev_sound hl 14 _ _ _ _ _ _ _ (ev_s_ev 0 _ w2)), Nat.le_refl _, Nat.le_refl _⟩
          · cases hc2
        | false => rw [hb, cond_false] at hc2; cases hc2
/-- one of the three with one argument -/
theorem ev_hk1 {go : Nat → Nat → ev_L → List Value → ev_W → Option ev_R} {e z2 : ev_ME} {j2 ix : Nat} {v hi : Int32} (hj2 : ev_look2 (ev_own1 e) ix ev_tgt = some j2) (he2 : ev_me j2 = some z2) (hkd : ev_kd z2 = 0) (hna : ev_na z2 = 1) (hrt : ev_rt z2 = some .boolean) (hcal : ev_calH j2 [.int v] w = some (.inl (some (.int (ev_in3 v 0 hi))), w)) (hb : (decide (ev_cat r ≤ 8) && ev_rmk e z2) = true) (h : go j (pc + 3) ls (.int (ev_in3 v 0 hi) :: r) w = some (o, w1)) : ev_ins go ev_calH j e pc ls w (.int v :: r) 3 (.invokestatic ix) = some (o, w1) := by
  show ev_inv go ev_calH j e pc ls w 0 ix (.int v :: r) = _
  unfold ev_inv
  rw [hj2]
  dsimp only
  rw [he2]
  dsimp only
  rw [hkd]
  show ev_stat go ev_calH j e pc ls w j2 z2 (.int v :: r) = _
  unfold ev_stat
  rw [hna, hrt]
  have e2 : decide (1 ≤ (Value.int v :: r).length) = true := decide_eq_true (by show 1 ≤ r.length + 1; omega)
  rw [e2, Bool.true_and]
  show (bif decide (ev_cat r ≤ 8) && ev_rmk e z2 then ev_aft go j e pc ls (some .boolean) r (ev_calH j2 [.int v] w) else none) = _
  rw [hb, cond_true, hcal]
  show (bif ev_rok (some FieldType.boolean) (some (.int (ev_in3 v 0 hi))) then go j (pc + 3) ls (.int (ev_in3 v 0 hi) :: r) w else none) = _
  rw [show ev_rok (some FieldType.boolean) (some (.int (ev_in3 v 0 hi))) = true from decide_eq_true (ev_in3_b v 0 hi)]
  exact h
theorem ev_hk3 {go : Nat → Nat → ev_L → List Value → ev_W → Option ev_R} {e : ev_ME} {ix : Nat} {v lo hi : Int32} (hj9 : ev_look2 (ev_own1 e) ix ev_tgt = some ev_jin) (hb : (decide (ev_cat r ≤ 8) && ev_rmk e ev_zin) = true) (h : go j (pc + 3) ls (.int (ev_in3 v lo hi) :: r) w = some (o, w1)) : ev_ins go ev_calH j e pc ls w (.int hi :: .int lo :: .int v :: r) 3 (.invokestatic ix) = some (o, w1) := by
  show ev_inv go ev_calH j e pc ls w 0 ix (.int hi :: .int lo :: .int v :: r) = _
  unfold ev_inv
  rw [hj9]
  dsimp only
  rw [ev_zin_me]
  show ev_stat go ev_calH j e pc ls w ev_jin ev_zin (.int hi :: .int lo :: .int v :: r) = _
  unfold ev_stat
  have e1 : (decide (ev_na ev_zin ≤ (Value.int hi :: Value.int lo :: Value.int v :: r).length) && (decide (ev_cat ((Value.int hi :: Value.int lo :: Value.int v :: r).drop (ev_na ev_zin)) ≤ 8) && ev_rmk e ev_zin)) = true := by
    have e2 : decide (ev_na ev_zin ≤ (Value.int hi :: Value.int lo :: Value.int v :: r).length) = true := decide_eq_true (by show 3 ≤ r.length + 1 + 1 + 1; omega)
    rw [e2, Bool.true_and]
    exact hb
  rw [e1]
  show (bif ev_rok (some FieldType.boolean) (some (.int (ev_in3 v lo hi))) then go j (pc + 3) ls (.int (ev_in3 v lo hi) :: r) w else none) = _
  have e3 : ev_rok (some FieldType.boolean) (some (.int (ev_in3 v lo hi))) = true := decide_eq_true (ev_in3_b v lo hi)
  rw [e3]
  exact h
theorem ev_sound2 (hl : l.stackTraces = false) (hbh : ∀ (pc : Nat) (ls : ev_L) (st : List Value) (w : ev_W) (q : Nat × List Value × ev_W), bh pc ls st w = some q → ∀ (o : Option Value ⊕ Nat) (w1 : ev_W), ev_Snd D cy base ext SL SX l ev_LAW q.1 ls q.2.1 q.2.2 o w1 → ev_Snd D cy base ext SL SX l ev_LAW pc ls st w o w1) : ∀ (F j pc : Nat) (ls : ev_L) (st : List Value) (w : ev_W) (o : Option Value ⊕ Nat) (w1 : ev_W), evk bh F j pc ls st w = some (o, w1) → ev_Snd D cy base ext SL SX l j pc ls st w o w1 := by
  intro F
  induction F with
  | zero => intro j pc ls st w o w1 h; cases (show (none : Option ev_R) = some (o, w1) from h)
  | succ F ih =>
    intro j pc ls st w o w1 h
    rw [evk_s] at h
    unfold evk_body at h
    split at h
    · rename_i q hq
      obtain ⟨hb9, hq⟩ := ev_cond hq
      have hj := Nat.eq_of_beq_eq_true hb9
      subst hj
      exact hbh pc ls st w q hq o w1 (ih _ _ _ _ _ _ _ h)
    · split at h
      · rename_i q hq
        unfold ev_hook at hq
        split at hq
        · rename_i ix hcd
          split at hq
          · rename_i e he
            split at hq
            · rename_i j9 hj9
              obtain ⟨hb9, hq⟩ := ev_cond hq
              cases hq
              dsimp only at h
              have hC := fun j2 e2 as w2 o2 w3 he2 hc2 => ev_calH_ok (D := D) (cy := cy) (base := base) (ext := ext) (SL := SL) (SX := SX) hl j2 e2 as w2 o2 w3 he2 hc2
              unfold evk_hk at h
              refine ev_s_ins (cal := ev_calH) (n := 3) (ins := .invokestatic ix) ih hC he (ev_cd_ok he hcd) rfl ?_
              cases hk : Nat.beq j9 ev_jin with
              | true =>
                rw [hk, cond_true] at h
                have hj := Nat.eq_of_beq_eq_true hk
                subst hj
                split at h
                · obtain ⟨hb, h⟩ := ev_cond h
                  exact ev_hk3 hj9 hb h
                · cases h
              | false =>
                rw [hk, cond_false] at h
                cases hk : Nat.beq j9 ev_jh with
                | true =>
                  rw [hk, cond_true] at h
                  have hj := Nat.eq_of_beq_eq_true hk
                  subst hj
                  split at h
                  · obtain ⟨hb, h⟩ := ev_cond h
                    exact ev_hk1 hj9 ev_zh_me rfl rfl rfl rfl hb h
                  · cases h
                | false =>
                  rw [hk, cond_false] at h
                  cases hk : Nat.beq j9 ev_jw with
                  | true =>
                    rw [hk, cond_true] at h
                    have hj := Nat.eq_of_beq_eq_true hk
                    subst hj
                    split at h
                    · obtain ⟨hb, h⟩ := ev_cond h
                      exact ev_hk1 hj9 ev_zw_me rfl rfl rfl rfl hb h
                    · cases h
                  | false =>
                    rw [hk, cond_false] at h
                    cases hk : Nat.beq j9 ev_js with
                    | true =>
                      rw [hk, cond_true] at h
                      have hj := Nat.eq_of_beq_eq_true hk
                      subst hj
                      split at h
                      · obtain ⟨hb, h⟩ := ev_cond h
                        exact ev_hk1 hj9 ev_zs_me rfl rfl rfl rfl hb h
                      · cases h
                    | false => rw [hk, cond_false] at h; cases h
            · cases hq
          · cases hq
        · cases hq
      · unfold ev_body at h
        split at h
        · rename_i q hq
          split at h
          · cases h
            exact ev_x_throw hq
          · cases h
        · split at h
          · rename_i e he
            split at h
            · rename_i q hcd
              obtain ⟨hb, h⟩ := ev_cond h
              refine ev_s_ins ih (fun j2 e2 as w2 o2 w3 he2 hc2 => ?_) he (ev_cd_ok he (by rw [hcd])) hb h
              unfold evk_call at hc2
              rw [he2] at hc2
              dsimp only at hc2
              obtain ⟨hb2, hc2⟩ := ev_cond hc2
              simp only [Bool.and_eq_true, decide_eq_true_eq] at hb2
              have hs := ih _ _ _ _ _ _ _ hc2
              exact ⟨ev_con he2 hl (fun v hv => Nat.eq_of_beq_eq_true (List.all_eq_true.mp hb2.1 v hv)) hb2.2 hs, hs.1, hs.2.1⟩
            · cases h
          · cases h
/-- what the world's relation says of the script may be used -/
theorem ev_Snd_of (h1 : w_c w ≤ w_c w1) (h2 : w_z w ≤ w_z w1) (h : w_L w ev_S = SL → w_I w ev_S = SX → ev_Snd D cy base ext SL SX l j pc ls st w o w1) : ev_Snd D cy base ext SL SX l j pc ls st w o w1 :=
  ⟨h1, h2, fun z hz p e R s m args below meth c hC H locs cells slots Q L K N hM hS hE a1 a2 a3 a4 a5 => (h hM.2.2.2.2.1 hM.2.2.2.2.2).2.2 z hz p e R s m args below meth c hC H locs cells slots Q L K N hM hS hE a1 a2 a3 a4 a5⟩
/-- an instruction of the law -/
theorem ev_hdl {ins : Instr} {n : Nat} (h : ev_cd ev_LAW pc = some (ins, n)) : ∀ z, ev_mel ev_LAW = some z → decode (ev_by z) pc = .ok (ins, n) := fun z hz => ev_cd_ok hz h
/-- the first int of the script, its last six bits -/
theorem ev_x_op {c : Int32} (hSL : SL = 6) (hSX : SX 0 &&& 63 = c) (h0 : ls[0]? = some (some (.ref ev_S))) (h5 : ls[5]? = some (some (.int 0))) (h : ev_Snd D cy base ext SL SX l ev_LAW 45 ls (.int c :: st) w o w1) : ev_Snd D cy base ext SL SX l ev_LAW 38 ls st w o w1 := by
  have hcd : ev_cd ev_LAW 38 = some (.aload_n 0, 1) ∧ ev_cd ev_LAW 39 = some (.iload 5, 2) ∧ ev_cd ev_LAW 41 = some (.iaload, 1) ∧ ev_cd ev_LAW 42 = some (.bipush 63, 2) ∧ ev_cd ev_LAW 44 = some (.iand, 1) := by decide +kernel
  obtain ⟨c1, c2, c3, c4, c5⟩ := hcd
  refine ev_Snd_of h.1 h.2.1 (fun hL hX => ?_)
  refine ev_x_aload_n (q := 0) h0 (ev_hdl c1) ?_
  refine ev_x_iload h5 (ev_hdl c2) ?_
  refine ev_x_sald rfl (by rw [hL, hSL]; rfl) (ev_hdl c3) ?_
  refine ev_x_bipush (ev_hdl c4) ?_
  refine ev_x_iand (ev_hdl c5) ?_
  rw [hX]
  rw [show (SX (Int32.toNatClampNeg 0) &&& (Int8.ofInt 63).toInt32) = c from hSX]
  exact h
/-- the second int of the script -/
theorem ev_x_arg {v : Int32} (hSL : SL = 6) (hSX : SX 1 = v) (hcd : ev_cd ev_LAW pc = some (.aload_n 0, 1) ∧ ev_cd ev_LAW (pc + 1) = some (.iload 5, 2) ∧ ev_cd ev_LAW (pc + 1 + 2) = some (.iconst 1, 1) ∧ ev_cd ev_LAW (pc + 1 + 2 + 1) = some (.iadd, 1) ∧ ev_cd ev_LAW (pc + 1 + 2 + 1 + 1) = some (.iaload, 1)) (h0 : ls[0]? = some (some (.ref ev_S))) (h5 : ls[5]? = some (some (.int 0))) (h : ev_Snd D cy base ext SL SX l ev_LAW (pc + 6) ls (.int v :: st) w o w1) : ev_Snd D cy base ext SL SX l ev_LAW pc ls st w o w1 := by
  obtain ⟨c1, c2, c3, c4, c5⟩ := hcd
  refine ev_Snd_of h.1 h.2.1 (fun hL hX => ?_)
  refine ev_x_aload_n (q := 0) h0 (ev_hdl c1) ?_
  refine ev_x_iload h5 (ev_hdl c2) ?_
  refine ev_x_iconst (ev_hdl c3) ?_
  refine ev_x_iadd (ev_hdl c4) ?_
  refine ev_x_sald rfl (by rw [hL, hSL]; rfl) (ev_hdl c5) ?_
  rw [hX]
  rw [show SX (Int32.toNatClampNeg (0 + Int32.ofInt 1)) = v from hSX]
  exact h
end EVKS
