/-! the heap's instructions -/
theorem ev_ents {cy : Nat → ClassId} {base : Nat} {ext : Nat → Nat} {w : ev_W} {a : Nat} {ci : Nat} (hk : w_K w a = ci) (hc : ci < 9) : ev_ent cy base ext w a = .inr (ci, ev_fs base ext w a ci) := by
  subst hk
  unfold ev_ent
  rw [if_pos hc]
theorem ev_fl_of {o9 ix : Nat} {q : Nat × Nat} (h : ev_look2 o9 ix ev_flt = some q) : ∃ r, vwCl[q.1]? = some r ∧ q.2 < r.2.2 ∧ Cond.fieldLink (ev_own.getD o9 "") ix (r.2.1 q.2).1 (r.2.1 q.2).2.1 (r.2.1 q.2).2.2.1 ∈ ev_all := by
  obtain ⟨l, h1, h2⟩ := ev_look2_mem h
  have h3 := List.all_eq_true.mp (List.all_eq_true.mp ev_fl_ok _ h1) _ h2
  dsimp only at h3
  cases hr : vwCl[q.1]? with
  | none => rw [hr] at h3; cases h3
  | some r =>
    rw [hr] at h3
    refine ⟨r, rfl, of_decide_eq_true h3, ?_⟩
    have h4 : ev_flw1 o9 (ix, q) ∈ ev_flw := List.mem_flatMap.mpr ⟨_, h1, List.mem_map.mpr ⟨_, h2, rfl⟩⟩
    have h5 := ev_all_in ev_flw_in h4
    unfold ev_flw1 at h5
    dsimp only at h5
    rw [hr] at h5
    exact h5
theorem ev_own_cl {ci : Nat} {r : vw_C} (h : vwCl[ci]? = some r) : ev_own.getD ci "" = r.1 := by
  have hl : ci < 9 := (List.getElem?_eq_some_iff.mp h).1
  match ci, hl with
  | 0, _ => cases h; rfl
  | 1, _ => cases h; rfl
  | 2, _ => cases h; rfl
  | 3, _ => cases h; rfl
  | 4, _ => cases h; rfl
  | 5, _ => cases h; rfl
  | 6, _ => cases h; rfl
  | 7, _ => cases h; rfl
  | 8, _ => cases h; rfl
theorem ev_ok_in {i : Int32} {n : Nat} (h : ev_ok i n = true) : vp_in i n := by
  unfold ev_ok at h
  simp only [Bool.and_eq_true, decide_eq_true_eq] at h
  rintro (q | q)
  · have h1 := h.1
    rw [Int32.le_iff_toInt_le] at h1
    rw [Int32.lt_iff_toInt_lt] at q
    omega
  · omega
theorem ev_ρ_lt {base : Nat} {ext : Nat → Nat} {a : Nat} (h : a < 1001) : ev_ρ base ext a = base + a := if_pos (by unfold ev_S; omega)
section MEM
variable {D : va_G} {cy : Nat → ClassId} {base : Nat} {ext : Nat → Nat} {SL : Nat} {SX : Nat → Int32} {l : Launch} {j pc : Nat} {ls : ev_L} {r st : List Value} {w : ev_W} {o : Option Value ⊕ Nat} {w1 : ev_W}
theorem ev_v_ref (hM : ∃ H, ev_M D cy base ext SL SX w H) {a : Nat} (ha : a < w_n w) : ev_v base ext (.ref a) = .ref (base + a) := by
  obtain ⟨H, hM⟩ := hM
  have h2 := hM.2.1
  show Value.ref (ev_ρ base ext a) = _
  rw [ev_ρ_lt (by omega)]
theorem ev_x_getf {a ix : Nat} {q : Nat × Nat} {v : Value} (hf : ∀ z, ev_mel j = some z → ev_look2 (ev_own1 z) ix ev_flt = some q) (ha : a < w_n w) (hk : w_K w a = q.1) (hd : ∀ z, ev_mel j = some z → decode (ev_by z) pc = .ok (.getfield ix, 3))
    (hv : ev_fv base ext w a (ev_fty q.1 q.2, q.2) = ev_v base ext v) (h : ev_Snd D cy base ext SL SX l j (pc + 3) ls (v :: r) w o w1) : ev_Snd D cy base ext SL SX l j pc ls (.ref a :: r) w o w1 := by
  refine ev_pstep h (fun z hz p e R s m args below meth c hC H locs cells slots Q L hM hS hE hcR hsR k => ?_)
  obtain ⟨⟨C, T, N⟩, h1, h2, h3⟩ := ev_fl_of (hf z hz)
  obtain ⟨ty, t1, t2, t3, t4, t5, t6⟩ := ev_cls q.1 _ h1
  have hq9 : q.1 < 9 := (List.getElem?_eq_some_iff.mp h1).1
  have he : (ev_ws cy base ext w)[a]? = some (base + a, .inr (q.1, ev_fs base ext w a q.1)) := by rw [ev_ws_at ha, ev_ents hk hq9]
  rw [hC.2.2.2.2.2.2.2.2.2.2.2.1] at h3
  show W p l e R s m args below meth c H locs cells slots Q (F0 m pc L (ev_v base ext (.ref a) :: r.map (ev_v base ext)))
  rw [ev_v_ref ⟨H, hM⟩ ha]
  exact va_get hC.1 hC.2.1 hC.2.2.2.2.2.1 t3 hC.2.2.2.2.1 hC.2.2.2.2.2.2.2.2.1 hM.1 a he h1 q.2 h2 (hC.2.2.2.2.2.1 _ h3) (fun _ h9 => h9) (by rw [ev_fs_at (by rw [t4]; exact h2), hv]) (hd z hz) k
theorem ev_x_putf {a ix : Nat} {q : Nat × Nat} {v : Value} {w' : ev_W} (hf : ∀ z, ev_mel j = some z → ev_look2 (ev_own1 z) ix ev_flt = some q ∧ ev_pfok z q = true) (ha : a < w_n w) (hk : w_K w a = q.1) (hd : ∀ z, ev_mel j = some z → decode (ev_by z) pc = .ok (.putfield ix, 3))
    (hv : ∀ ty, ev_ftk (ev_fty q.1 q.2) ty = true → narrow ty (ev_v base ext v) = ev_v base ext v ∧ fits ty (ev_v base ext v) = true)
    (hw : w'.1 = w.1 ∧ w_c w' = w_c w ∧ w_z w' = w_z w ∧ w_l w' = w_l w ∧ w_K w' = w_K w ∧ w_L w' = w_L w ∧ (∀ b, b ≠ a → w_I w' b = w_I w b ∧ w_R w' b = w_R w b ∧ w_J w' b = w_J w b ∧ w_D w' b = w_D w b))
    (hw2 : ev_fv base ext w' a (ev_fty q.1 q.2, q.2) = ev_v base ext v) (hw3 : ∀ i t, i ≠ q.2 → ev_fv base ext w' a (t, i) = ev_fv base ext w a (t, i))
    (h : ev_Snd D cy base ext SL SX l j (pc + 3) ls r w' o w1) : ev_Snd D cy base ext SL SX l j pc ls (v :: .ref a :: r) w o w1 := by
  obtain ⟨g1, g2, g3, g4, g5, g6, g7⟩ := hw
  refine ev_mstep g2 g3 h (fun z hz p e R s m args below meth c hC H locs cells slots Q L hM hS k => ?_)
  obtain ⟨hf1, hf2⟩ := hf z hz
  obtain ⟨⟨C, T, N⟩, h1, h2, h3⟩ := ev_fl_of hf1
  obtain ⟨ty, t1, t2, t3, t4, t5, t6⟩ := ev_cls q.1 _ h1
  have hq9 : q.1 < 9 := (List.getElem?_eq_some_iff.mp h1).1
  have he : (ev_ws cy base ext w)[a]? = some (base + a, .inr (q.1, ev_fs base ext w a q.1)) := by rw [ev_ws_at ha, ev_ents hk hq9]
  have hown := hC.2.2.2.2.2.2.2.2.2.2.2.1
  have hM2 := hM.2.1
  show W p l e R s m args below meth c H locs cells slots Q (F0 m pc L (ev_v base ext v :: ev_v base ext (.ref a) :: r.map (ev_v base ext)))
  rw [ev_v_ref ⟨H, hM⟩ ha]
  have h3' := h3
  rw [hown] at h3'
  obtain ⟨n1, n2⟩ := hv (ty q.2) (t5 q.2 h2)
  refine ev_put hC.1 hC.2.1 hC.2.2.2.2.2.1 t3 ty t1 t2 hC.2.2.2.2.1 hC.2.2.2.2.2.2.2.2.1 hM.1 (ev_dis cy base ext w) hS a he h1 q.2 h2 (hC.2.2.2.2.2.1 _ h3') (fun _ h9 => h9) ?_ (t1 q.2 h2) n1 n2 (by rw [ev_fs_len, t4]; exact h2) (hd z hz) (fun H1 locs1 hP1 hz1 hS1 => ?_)
  · intro hfin
    unfold ev_pfok at hf2
    rw [h1] at hf2
    dsimp only at hf2
    rw [hfin] at hf2
    simp only [cond_true, Bool.and_eq_true, Bool.or_eq_true] at hf2
    have hkd : ev_kd z = 2 ∨ ev_kd z = 3 := hf2.1.imp Nat.eq_of_beq_eq_true Nat.eq_of_beq_eq_true
    have hown1 : ev_own1 z = q.1 := Nat.eq_of_beq_eq_true hf2.2
    have hmok : ev_meok z := by
      unfold ev_mel at hz
      cases hb : Nat.beq j ev_LAW with
      | true =>
        rw [hb] at hz
        cases hz
        rcases hkd with q9 | q9 <;> cases q9
      | false =>
        rw [hb] at hz
        exact ev_me_ok hz
    refine ⟨(hC.2.2.2.2.2.2.2.1 (by omega)).trans (hmok.2.2.2.2.2.1 hkd).1, ?_⟩
    rw [t6 q.2 h2, ← hown, hown1, ev_own_cl h1]
  · have hS9 : ¬ ev_S = a := by unfold ev_S; omega
    refine k H1 locs1 (ev_M_ws hM ha g1 g4 g6 (g7 _ hS9).1 (fun b hb => ?_) ?_ hP1 hz1) hS1
    · obtain ⟨i1, i2, i3, i4⟩ := g7 b hb
      unfold ev_ent ev_fs ev_fv
      rw [g5, g6, i1, i2, i3, i4]
    · rw [ev_ents (ci := q.1) (by rw [g5]; exact hk) hq9]
      rw [ev_fs_set (fun _ => hw2) hw3]
/-- the array of a kind -/
theorem ev_enta {w : ev_W} {a κ : Nat} (hk : w_K w a = κ) (h : 9 ≤ κ) : ev_ent cy base ext w a = .inl (cy κ, w_L w a, if κ = 12 ∨ κ = 13 then .inr (.inr (.inr (.inr (fun j => (w_R w a j).map (ev_ρ base ext))))) else if κ = 14 then .inr (.inl (w_J w a)) else if κ = 15 then .inr (.inr (.inr (.inl (w_D w a)))) else .inl (w_I w a)) := by
  subst hk
  unfold ev_ent
  rw [if_neg (by omega)]
theorem ev_enti {w : ev_W} {a κ : Nat} (hk : w_K w a = κ) (h : κ = 9 ∨ κ = 10 ∨ κ = 11) : ev_ent cy base ext w a = .inl (cy κ, w_L w a, .inl (w_I w a)) := by
  rw [ev_enta hk (by omega), if_neg (by omega), if_neg (by omega), if_neg (by omega)]
theorem ev_entq {w : ev_W} {a κ : Nat} (hk : w_K w a = κ) (h : κ = 12 ∨ κ = 13) : ev_ent cy base ext w a = .inl (cy κ, w_L w a, .inr (.inr (.inr (.inr (fun j => (w_R w a j).map (ev_ρ base ext)))))) := by
  rw [ev_enta hk (by omega), if_pos h]
theorem ev_entj {w : ev_W} {a : Nat} (hk : w_K w a = 14) : ev_ent cy base ext w a = .inl (cy 14, w_L w a, .inr (.inl (w_J w a))) := by
  rw [ev_enta hk (by omega), if_neg (by omega), if_pos rfl]
theorem ev_entd {w : ev_W} {a : Nat} (hk : w_K w a = 15) : ev_ent cy base ext w a = .inl (cy 15, w_L w a, .inr (.inr (.inr (.inl (w_D w a))))) := by
  rw [ev_enta hk (by omega), if_neg (by omega), if_neg (by omega), if_pos rfl]
theorem ev_x_iald {a : Nat} {i : Int32} (ha : a < w_n w) (hk : w_K w a = 10) (hi : ev_ok i (w_L w a) = true) (hd : ∀ z, ev_mel j = some z → decode (ev_by z) pc = .ok (.iaload, 1)) (h : ev_Snd D cy base ext SL SX l j (pc + 1) ls (.int (w_I w a i.toNatClampNeg) :: r) w o w1) : ev_Snd D cy base ext SL SX l j pc ls (.int i :: .ref a :: r) w o w1 := by
  refine ev_pstep h (fun z hz p e R s m args below meth c hC H locs cells slots Q L hM hS hE hcR hsR k => ?_)
  show W p l e R s m args below meth c H locs cells slots Q (F0 m pc L (.int i :: ev_v base ext (.ref a) :: r.map (ev_v base ext)))
  rw [ev_v_ref ⟨H, hM⟩ ha]
  exact va_iald hC.1 hC.2.1 hC.2.2.2.2.2.2.2.2.1 hM.1 a 1 (by rw [ev_ws_at ha, ev_enti hk (by omega)]) rfl (ev_ok_in hi) (hd z hz) k
theorem ev_x_bald {a κ : Nat} {i : Int32} (ha : a < w_n w) (hk : w_K w a = κ) (hκ : κ = 9 ∨ κ = 11) (hi : ev_ok i (w_L w a) = true) (hd : ∀ z, ev_mel j = some z → decode (ev_by z) pc = .ok (.baload, 1)) (h : ev_Snd D cy base ext SL SX l j (pc + 1) ls (.int (w_I w a i.toNatClampNeg) :: r) w o w1) : ev_Snd D cy base ext SL SX l j pc ls (.int i :: .ref a :: r) w o w1 := by
  refine ev_pstep h (fun z hz p e R s m args below meth c hC H locs cells slots Q L hM hS hE hcR hsR k => ?_)
  show W p l e R s m args below meth c H locs cells slots Q (F0 m pc L (.int i :: ev_v base ext (.ref a) :: r.map (ev_v base ext)))
  rw [ev_v_ref ⟨H, hM⟩ ha]
  have he : (ev_ws cy base ext w)[a]? = some (base + a, .inl (cy κ, w_L w a, .inl (w_I w a))) := by rw [ev_ws_at ha, ev_enti hk (by omega)]
  rcases hκ with rfl | rfl
  · exact va_bald hC.1 hC.2.1 hC.2.2.2.2.2.2.2.2.1 hM.1 a 0 he rfl (ev_ok_in hi) (hd z hz) k
  · exact va_zald hC.1 hC.2.1 hC.2.2.2.2.2.2.2.2.1 hM.1 a 2 he rfl (ev_ok_in hi) (hd z hz) k
theorem ev_x_lald {a : Nat} {i : Int32} (ha : a < w_n w) (hk : w_K w a = 14) (hi : ev_ok i (w_L w a) = true) (hd : ∀ z, ev_mel j = some z → decode (ev_by z) pc = .ok (.laload, 1)) (h : ev_Snd D cy base ext SL SX l j (pc + 1) ls (.long (w_J w a i.toNatClampNeg) :: r) w o w1) : ev_Snd D cy base ext SL SX l j pc ls (.int i :: .ref a :: r) w o w1 := by
  refine ev_pstep h (fun z hz p e R s m args below meth c hC H locs cells slots Q L hM hS hE hcR hsR k => ?_)
  show W p l e R s m args below meth c H locs cells slots Q (F0 m pc L (.int i :: ev_v base ext (.ref a) :: r.map (ev_v base ext)))
  rw [ev_v_ref ⟨H, hM⟩ ha]
  exact va_lald hC.1 hC.2.1 hC.2.2.2.2.2.2.2.2.1 hM.1 a 5 (by rw [ev_ws_at ha, ev_entj hk]) rfl (ev_ok_in hi) (hd z hz) k
theorem ev_x_dald {a : Nat} {i : Int32} (ha : a < w_n w) (hk : w_K w a = 15) (hi : ev_ok i (w_L w a) = true) (hd : ∀ z, ev_mel j = some z → decode (ev_by z) pc = .ok (.daload, 1)) (h : ev_Snd D cy base ext SL SX l j (pc + 1) ls (.double (w_D w a i.toNatClampNeg) :: r) w o w1) : ev_Snd D cy base ext SL SX l j pc ls (.int i :: .ref a :: r) w o w1 := by
  refine ev_pstep h (fun z hz p e R s m args below meth c hC H locs cells slots Q L hM hS hE hcR hsR k => ?_)
  show W p l e R s m args below meth c H locs cells slots Q (F0 m pc L (.int i :: ev_v base ext (.ref a) :: r.map (ev_v base ext)))
  rw [ev_v_ref ⟨H, hM⟩ ha]
  exact va_dald hC.1 hC.2.1 hC.2.2.2.2.2.2.2.2.1 hM.1 a 6 (by rw [ev_ws_at ha, ev_entd hk]) rfl (ev_ok_in hi) (hd z hz) k
theorem ev_x_aald {a κ : Nat} {i : Int32} (ha : a < w_n w) (hk : w_K w a = κ) (hκ : κ = 12 ∨ κ = 13) (hi : ev_ok i (w_L w a) = true) (hd : ∀ z, ev_mel j = some z → decode (ev_by z) pc = .ok (.aaload, 1)) (h : ev_Snd D cy base ext SL SX l j (pc + 1) ls (va_rf (w_R w a i.toNatClampNeg) :: r) w o w1) : ev_Snd D cy base ext SL SX l j pc ls (.int i :: .ref a :: r) w o w1 := by
  refine ev_pstep h (fun z hz p e R s m args below meth c hC H locs cells slots Q L hM hS hE hcR hsR k => ?_)
  show W p l e R s m args below meth c H locs cells slots Q (F0 m pc L (.int i :: ev_v base ext (.ref a) :: r.map (ev_v base ext)))
  rw [ev_v_ref ⟨H, hM⟩ ha]
  have he : (ev_ws cy base ext w)[a]? = some (base + a, .inl (cy κ, w_L w a, .inr (.inr (.inr (.inr (fun j => (w_R w a j).map (ev_ρ base ext))))))) := by rw [ev_ws_at ha, ev_entq hk hκ]
  have k' : W p l e R s m args below meth c H locs cells slots Q (F0 m (pc + 1) L (va_rf ((w_R w a i.toNatClampNeg).map (ev_ρ base ext)) :: r.map (ev_v base ext))) := by
    rw [← ev_v_rf]
    exact k
  rcases hκ with rfl | rfl
  · exact va_aldq hC.1 hC.2.1 hC.2.2.2.2.2.2.2.2.1 hM.1 a 3 he rfl (ev_ok_in hi) (hd z hz) k'
  · exact va_aldq hC.1 hC.2.1 hC.2.2.2.2.2.2.2.2.1 hM.1 a 4 he rfl (ev_ok_in hi) (hd z hz) k'
theorem ev_x_sald {i : Int32} (hj : j = ev_LAW) (hi : ev_ok i (w_L w ev_S) = true) (hd : ∀ z, ev_mel j = some z → decode (ev_by z) pc = .ok (.iaload, 1)) (h : ev_Snd D cy base ext SL SX l j (pc + 1) ls (.int (w_I w ev_S i.toNatClampNeg) :: r) w o w1) : ev_Snd D cy base ext SL SX l j pc ls (.int i :: .ref ev_S :: r) w o w1 := by
  refine ev_pstep h (fun z hz p e R s m args below meth c hC H locs cells slots Q L hM hS hE hcR hsR k => ?_)
  obtain ⟨x1, x2, x3⟩ := hC.2.2.2.2.2.2.2.2.2.2.2.2.2.2.2.2 hj
  have e1 : ev_ρ base ext ev_S = ext ev_S := if_neg (Nat.lt_irrefl _)
  have hL := hM.2.2.2.2.1
  have hI := hM.2.2.2.2.2
  rw [hL] at hi
  show W p l e R s m args below meth c H locs cells slots Q (F0 m pc L (.int i :: .ref (ev_ρ base ext ev_S) :: r.map (ev_v base ext)))
  rw [e1]
  refine va_sld hC.1 hC.2.1 x1 x2 (fun q => absurd (show base ≤ ext ev_S from q) (by omega)) hS (ev_ok_in hi) (hd z hz) ?_
  rw [← hI]
  exact k
theorem ev_x_slen (hj : j = ev_LAW) (hd : ∀ z, ev_mel j = some z → decode (ev_by z) pc = .ok (.arraylength, 1)) (h : ev_Snd D cy base ext SL SX l j (pc + 1) ls (.int (Int32.ofNat (w_L w ev_S)) :: r) w o w1) : ev_Snd D cy base ext SL SX l j pc ls (.ref ev_S :: r) w o w1 := by
  refine ev_pstep h (fun z hz p e R s m args below meth c hC H locs cells slots Q L hM hS hE hcR hsR k => ?_)
  obtain ⟨x1, x2, x3⟩ := hC.2.2.2.2.2.2.2.2.2.2.2.2.2.2.2.2 hj
  have e1 : ev_ρ base ext ev_S = ext ev_S := if_neg (Nat.lt_irrefl _)
  have hL := hM.2.2.2.2.1
  show W p l e R s m args below meth c H locs cells slots Q (F0 m pc L (.ref (ev_ρ base ext ev_S) :: r.map (ev_v base ext)))
  rw [e1]
  refine va_slen hC.1 hC.2.1 x1 x2 (fun q => absurd (show base ≤ ext ev_S from q) (by omega)) hS (hd z hz) ?_
  rw [← hL]
  exact k
theorem ev_x_alen {a : Nat} (ha : a < w_n w) (h9 : 9 ≤ w_K w a) (h16 : w_K w a < 16) (hd : ∀ z, ev_mel j = some z → decode (ev_by z) pc = .ok (.arraylength, 1)) (h : ev_Snd D cy base ext SL SX l j (pc + 1) ls (.int (Int32.ofNat (w_L w a)) :: r) w o w1) : ev_Snd D cy base ext SL SX l j pc ls (.ref a :: r) w o w1 := by
  refine ev_pstep h (fun z hz p e R s m args below meth c hC H locs cells slots Q L hM hS hE hcR hsR k => ?_)
  show W p l e R s m args below meth c H locs cells slots Q (F0 m pc L (ev_v base ext (.ref a) :: r.map (ev_v base ext)))
  rw [ev_v_ref ⟨H, hM⟩ ha]
  have ht : ∃ ty, (ev_tys cy)[w_K w a - 9]? = some (cy (w_K w a), ty) := by
    have h7 : w_K w a = 9 ∨ w_K w a = 10 ∨ w_K w a = 11 ∨ w_K w a = 12 ∨ w_K w a = 13 ∨ w_K w a = 14 ∨ w_K w a = 15 := by omega
    rcases h7 with q | q | q | q | q | q | q <;> rw [q] <;> exact ⟨_, rfl⟩
  obtain ⟨ty, ht⟩ := ht
  exact va_alen (v := Int32.ofNat (w_L w a)) hC.1 hC.2.1 hC.2.2.2.2.2.2.2.2.1 hM.1 a (w_K w a - 9) (by rw [ev_ws_at ha, ev_enta rfl h9]) ht rfl (hd z hz) k
/-- a place of an array is written -/
theorem ev_M_arr {w' : ev_W} {H H1 : Heap} {a κ : Nat} {en : vp_A} (hM : ev_M D cy base ext SL SX w H) (ha : a < w_n w) (hk : w_K w a = κ)
    (hw : w'.1 = w.1 ∧ w_c w' = w_c w ∧ w_z w' = w_z w ∧ w_l w' = w_l w ∧ w_K w' = w_K w ∧ w_L w' = w_L w ∧ (∀ b, b ≠ a → w_I w' b = w_I w b ∧ w_R w' b = w_R w b ∧ w_J w' b = w_J w b ∧ w_D w' b = w_D w b))
    (hen : ev_ent cy base ext w' a = .inl (cy κ, en)) (hP : va_P D vwCl ((ev_ws cy base ext w).set a (base + a, .inl (cy κ, en))) H1) (hz : H1.size = H.size) : ev_M D cy base ext SL SX w' H1 := by
  obtain ⟨g1, g2, g3, g4, g5, g6, g7⟩ := hw
  have hM2 := hM.2.1
  have hS9 : ¬ ev_S = a := by unfold ev_S; omega
  refine ev_M_ws hM ha g1 g4 g6 (g7 _ hS9).1 (fun b hb => ?_) hen.symm hP hz
  obtain ⟨i1, i2, i3, i4⟩ := g7 b hb
  unfold ev_ent ev_fs ev_fv
  rw [g5, g6, i1, i2, i3, i4]
theorem w_sI_w (a i : Nat) (x : Int32) : (w_sI w a i x).1 = w.1 ∧ w_c (w_sI w a i x) = w_c w ∧ w_z (w_sI w a i x) = w_z w ∧ w_l (w_sI w a i x) = w_l w ∧ w_K (w_sI w a i x) = w_K w ∧ w_L (w_sI w a i x) = w_L w ∧ (∀ b, b ≠ a → w_I (w_sI w a i x) b = w_I w b ∧ w_R (w_sI w a i x) b = w_R w b ∧ w_J (w_sI w a i x) b = w_J w b ∧ w_D (w_sI w a i x) b = w_D w b) :=
  ⟨rfl, rfl, rfl, rfl, rfl, rfl, fun b hb => ⟨if_neg hb, rfl, rfl, rfl⟩⟩
theorem w_sR_w (a i : Nat) (x : Option Nat) : (w_sR w a i x).1 = w.1 ∧ w_c (w_sR w a i x) = w_c w ∧ w_z (w_sR w a i x) = w_z w ∧ w_l (w_sR w a i x) = w_l w ∧ w_K (w_sR w a i x) = w_K w ∧ w_L (w_sR w a i x) = w_L w ∧ (∀ b, b ≠ a → w_I (w_sR w a i x) b = w_I w b ∧ w_R (w_sR w a i x) b = w_R w b ∧ w_J (w_sR w a i x) b = w_J w b ∧ w_D (w_sR w a i x) b = w_D w b) :=
  ⟨rfl, rfl, rfl, rfl, rfl, rfl, fun b hb => ⟨rfl, if_neg hb, rfl, rfl⟩⟩
theorem w_sJ_w (a i : Nat) (x : Int64) : (w_sJ w a i x).1 = w.1 ∧ w_c (w_sJ w a i x) = w_c w ∧ w_z (w_sJ w a i x) = w_z w ∧ w_l (w_sJ w a i x) = w_l w ∧ w_K (w_sJ w a i x) = w_K w ∧ w_L (w_sJ w a i x) = w_L w ∧ (∀ b, b ≠ a → w_I (w_sJ w a i x) b = w_I w b ∧ w_R (w_sJ w a i x) b = w_R w b ∧ w_J (w_sJ w a i x) b = w_J w b ∧ w_D (w_sJ w a i x) b = w_D w b) :=
  ⟨rfl, rfl, rfl, rfl, rfl, rfl, fun b hb => ⟨rfl, rfl, if_neg hb, rfl⟩⟩
theorem w_sD_w (a i : Nat) (x : UInt64) : (w_sD w a i x).1 = w.1 ∧ w_c (w_sD w a i x) = w_c w ∧ w_z (w_sD w a i x) = w_z w ∧ w_l (w_sD w a i x) = w_l w ∧ w_K (w_sD w a i x) = w_K w ∧ w_L (w_sD w a i x) = w_L w ∧ (∀ b, b ≠ a → w_I (w_sD w a i x) b = w_I w b ∧ w_R (w_sD w a i x) b = w_R w b ∧ w_J (w_sD w a i x) b = w_J w b ∧ w_D (w_sD w a i x) b = w_D w b) :=
  ⟨rfl, rfl, rfl, rfl, rfl, rfl, fun b hb => ⟨rfl, rfl, rfl, if_neg hb⟩⟩
theorem w_sI_at (a i : Nat) (x : Int32) : w_I (w_sI w a i x) a = upd (w_I w a) i x := by
  show (if a = a then (fun j => if j = i then x else w_I w a j) else w_I w a) = _
  rw [if_pos rfl]; rfl
theorem w_sR_at (a i : Nat) (x : Option Nat) : w_R (w_sR w a i x) a = va_up (w_R w a) i x := by
  show (if a = a then (fun j => if j = i then x else w_R w a j) else w_R w a) = _
  rw [if_pos rfl]; rfl
theorem w_sJ_at (a i : Nat) (x : Int64) : w_J (w_sJ w a i x) a = vp_updL (w_J w a) i x := by
  show (if a = a then (fun j => if j = i then x else w_J w a j) else w_J w a) = _
  rw [if_pos rfl]; rfl
theorem w_sD_at (a i : Nat) (x : UInt64) : w_D (w_sD w a i x) a = vf_upd (w_D w a) i x := by
  show (if a = a then (fun j => if j = i then x else w_D w a j) else w_D w a) = _
  rw [if_pos rfl]; rfl
theorem ev_x_iast {a : Nat} {i x : Int32} (ha : a < w_n w) (hk : w_K w a = 10) (hi : ev_ok i (w_L w a) = true) (hd : ∀ z, ev_mel j = some z → decode (ev_by z) pc = .ok (.iastore, 1)) (h : ev_Snd D cy base ext SL SX l j (pc + 1) ls r (w_sI w a i.toNatClampNeg x) o w1) : ev_Snd D cy base ext SL SX l j pc ls (.int x :: .int i :: .ref a :: r) w o w1 := by
  refine ev_mstep (w' := (w_sI w a i.toNatClampNeg x)) rfl rfl h (fun z hz p e R s m args below meth c hC H locs cells slots Q L hM hS k => ?_)
  show W p l e R s m args below meth c H locs cells slots Q (F0 m pc L (.int x :: .int i :: ev_v base ext (.ref a) :: r.map (ev_v base ext)))
  rw [ev_v_ref ⟨H, hM⟩ ha]
  refine ev_iast hC.1 hC.2.1 hC.2.2.2.2.2.2.2.2.1 hM.1 (ev_dis cy base ext w) hS a 1 (by rw [ev_ws_at ha, ev_enti hk (by omega)]) rfl (ev_ok_in hi) (hd z hz) (fun H1 locs1 hP1 hz1 hS1 => k H1 locs1 (ev_M_arr hM ha hk (w_sI_w a _ x) ?_ hP1 hz1) hS1)
  rw [ev_enti (w := (w_sI w a i.toNatClampNeg x)) (κ := 10) hk (by omega), w_sI_at]
  rfl
theorem ev_x_bast {a : Nat} {i x : Int32} (ha : a < w_n w) (hk : w_K w a = 9) (hi : ev_ok i (w_L w a) = true) (hd : ∀ z, ev_mel j = some z → decode (ev_by z) pc = .ok (.bastore, 1)) (h : ev_Snd D cy base ext SL SX l j (pc + 1) ls r (w_sI w a i.toNatClampNeg (vp_nar .byte x)) o w1) : ev_Snd D cy base ext SL SX l j pc ls (.int x :: .int i :: .ref a :: r) w o w1 := by
  refine ev_mstep (w' := (w_sI w a i.toNatClampNeg (vp_nar .byte x))) rfl rfl h (fun z hz p e R s m args below meth c hC H locs cells slots Q L hM hS k => ?_)
  show W p l e R s m args below meth c H locs cells slots Q (F0 m pc L (.int x :: .int i :: ev_v base ext (.ref a) :: r.map (ev_v base ext)))
  rw [ev_v_ref ⟨H, hM⟩ ha]
  refine ev_bast hC.1 hC.2.1 hC.2.2.2.2.2.2.2.2.1 hM.1 (ev_dis cy base ext w) hS a 0 (by rw [ev_ws_at ha, ev_enti hk (by omega)]) rfl (ev_ok_in hi) (hd z hz) (fun H1 locs1 hP1 hz1 hS1 => k H1 locs1 (ev_M_arr hM ha hk (w_sI_w a _ _) ?_ hP1 hz1) hS1)
  rw [ev_enti (w := (w_sI w a i.toNatClampNeg (vp_nar .byte x))) (κ := 9) hk (by omega), w_sI_at]
  rfl
theorem ev_x_zast {a : Nat} {i x : Int32} (ha : a < w_n w) (hk : w_K w a = 11) (hi : ev_ok i (w_L w a) = true) (hd : ∀ z, ev_mel j = some z → decode (ev_by z) pc = .ok (.bastore, 1)) (h : ev_Snd D cy base ext SL SX l j (pc + 1) ls r (w_sI w a i.toNatClampNeg (vp_nar .boolean x)) o w1) : ev_Snd D cy base ext SL SX l j pc ls (.int x :: .int i :: .ref a :: r) w o w1 := by
  refine ev_mstep (w' := (w_sI w a i.toNatClampNeg (vp_nar .boolean x))) rfl rfl h (fun z hz p e R s m args below meth c hC H locs cells slots Q L hM hS k => ?_)
  show W p l e R s m args below meth c H locs cells slots Q (F0 m pc L (.int x :: .int i :: ev_v base ext (.ref a) :: r.map (ev_v base ext)))
  rw [ev_v_ref ⟨H, hM⟩ ha]
  refine ev_zast hC.1 hC.2.1 hC.2.2.2.2.2.2.2.2.1 hM.1 (ev_dis cy base ext w) hS a 2 (by rw [ev_ws_at ha, ev_enti hk (by omega)]) rfl (ev_ok_in hi) (hd z hz) (fun H1 locs1 hP1 hz1 hS1 => k H1 locs1 (ev_M_arr hM ha hk (w_sI_w a _ _) ?_ hP1 hz1) hS1)
  rw [ev_enti (w := (w_sI w a i.toNatClampNeg (vp_nar .boolean x))) (κ := 11) hk (by omega), w_sI_at]
  rfl
theorem ev_x_last {a : Nat} {i : Int32} {x : Int64} (ha : a < w_n w) (hk : w_K w a = 14) (hi : ev_ok i (w_L w a) = true) (hd : ∀ z, ev_mel j = some z → decode (ev_by z) pc = .ok (.lastore, 1)) (h : ev_Snd D cy base ext SL SX l j (pc + 1) ls r (w_sJ w a i.toNatClampNeg x) o w1) : ev_Snd D cy base ext SL SX l j pc ls (.long x :: .int i :: .ref a :: r) w o w1 := by
  refine ev_mstep (w' := (w_sJ w a i.toNatClampNeg x)) rfl rfl h (fun z hz p e R s m args below meth c hC H locs cells slots Q L hM hS k => ?_)
  show W p l e R s m args below meth c H locs cells slots Q (F0 m pc L (.long x :: .int i :: ev_v base ext (.ref a) :: r.map (ev_v base ext)))
  rw [ev_v_ref ⟨H, hM⟩ ha]
  refine ev_last hC.1 hC.2.1 hC.2.2.2.2.2.2.2.2.1 hM.1 (ev_dis cy base ext w) hS a 5 (by rw [ev_ws_at ha, ev_entj hk]) rfl (ev_ok_in hi) (hd z hz) (fun H1 locs1 hP1 hz1 hS1 => k H1 locs1 (ev_M_arr hM ha hk (w_sJ_w a _ x) ?_ hP1 hz1) hS1)
  rw [ev_entj (w := w_sJ w a i.toNatClampNeg x) hk, w_sJ_at]
  rfl
theorem ev_x_dast {a : Nat} {i : Int32} {x : UInt64} (ha : a < w_n w) (hk : w_K w a = 15) (hi : ev_ok i (w_L w a) = true) (hd : ∀ z, ev_mel j = some z → decode (ev_by z) pc = .ok (.dastore, 1)) (h : ev_Snd D cy base ext SL SX l j (pc + 1) ls r (w_sD w a i.toNatClampNeg x) o w1) : ev_Snd D cy base ext SL SX l j pc ls (.double x :: .int i :: .ref a :: r) w o w1 := by
  refine ev_mstep (w' := (w_sD w a i.toNatClampNeg x)) rfl rfl h (fun z hz p e R s m args below meth c hC H locs cells slots Q L hM hS k => ?_)
  show W p l e R s m args below meth c H locs cells slots Q (F0 m pc L (.double x :: .int i :: ev_v base ext (.ref a) :: r.map (ev_v base ext)))
  rw [ev_v_ref ⟨H, hM⟩ ha]
  refine ev_dast hC.1 hC.2.1 hC.2.2.2.2.2.2.2.2.1 hM.1 (ev_dis cy base ext w) hS a 6 (by rw [ev_ws_at ha, ev_entd hk]) rfl (ev_ok_in hi) (hd z hz) (fun H1 locs1 hP1 hz1 hS1 => k H1 locs1 (ev_M_arr hM ha hk (w_sD_w a _ x) ?_ hP1 hz1) hS1)
  rw [ev_entd (w := w_sD w a i.toNatClampNeg x) hk, w_sD_at]
  rfl
theorem ev_x_aast {a b κ κb : Nat} {i : Int32} (ha : a < w_n w) (hb : b < w_n w) (hk : w_K w a = κ) (hkb : w_K w b = κb) (hκ : (κ = 12 ∧ κb = 0) ∨ (κ = 13 ∧ κb = 5)) (hi : ev_ok i (w_L w a) = true) (hd : ∀ z, ev_mel j = some z → decode (ev_by z) pc = .ok (.aastore, 1)) (h : ev_Snd D cy base ext SL SX l j (pc + 1) ls r (w_sR w a i.toNatClampNeg (some b)) o w1) : ev_Snd D cy base ext SL SX l j pc ls (.ref b :: .int i :: .ref a :: r) w o w1 := by
  refine ev_mstep (w' := (w_sR w a i.toNatClampNeg (some b))) rfl rfl h (fun z hz p e R s m args below meth c hC H locs cells slots Q L hM hS k => ?_)
  have hM2 := hM.2.1
  have hρ : ev_ρ base ext b = base + b := ev_ρ_lt (by omega)
  show W p l e R s m args below meth c H locs cells slots Q (F0 m pc L (ev_v base ext (.ref b) :: .int i :: ev_v base ext (.ref a) :: r.map (ev_v base ext)))
  rw [ev_v_ref ⟨H, hM⟩ ha, ev_v_ref ⟨H, hM⟩ hb]
  have hκ9 : κ = 12 ∨ κ = 13 := by omega
  have he : (ev_ws cy base ext w)[a]? = some (base + a, .inl (cy κ, w_L w a, .inr (.inr (.inr (.inr (fun j => (w_R w a j).map (ev_ρ base ext))))))) := by rw [ev_ws_at ha, ev_entq hk hκ9]
  have hb9 : (ev_ws cy base ext w)[b]? = some (base + b, .inr (κb, ev_fs base ext w b κb)) := by rw [ev_ws_at hb, ev_ents hkb (by omega)]
  have hen : ev_ent cy base ext (w_sR w a i.toNatClampNeg (some b)) a = .inl (cy κ, w_L w a, .inr (.inr (.inr (.inr (va_up (fun j => (w_R w a j).map (ev_ρ base ext)) i.toNatClampNeg (some (base + b))))))) := by
    rw [ev_entq (w := (w_sR w a i.toNatClampNeg (some b))) (κ := κ) hk hκ9, w_sR_at]
    have hfn : (fun j => (va_up (w_R w a) i.toNatClampNeg (some b) j).map (ev_ρ base ext)) = va_up (fun j => (w_R w a j).map (ev_ρ base ext)) i.toNatClampNeg (some (base + b)) := by
      funext j9
      unfold va_up
      by_cases hj9 : j9 = i.toNatClampNeg
      · rw [if_pos hj9, if_pos hj9, ← hρ]; rfl
      · rw [if_neg hj9, if_neg hj9]
    rw [hfn]
    rfl
  rcases hκ with ⟨rfl, rfl⟩ | ⟨rfl, rfl⟩
  · exact ev_aast (r := (RX0, TX0, 10)) hC.1 hC.2.1 hC.2.2.2.2.2.2.2.2.1 hM.1 (ev_dis cy base ext w) hS a 3 b 0 he rfl hb9 rfl (ev_ok_in hi) (hd z hz) (fun H1 locs1 hP1 hz1 hS1 => k H1 locs1 (ev_M_arr hM ha hk (w_sR_w a _ _) hen hP1 hz1) hS1)
  · exact ev_aast (r := (RX5, TX5, 12)) hC.1 hC.2.1 hC.2.2.2.2.2.2.2.2.1 hM.1 (ev_dis cy base ext w) hS a 4 b 5 he rfl hb9 rfl (ev_ok_in hi) (hd z hz) (fun H1 locs1 hP1 hz1 hS1 => k H1 locs1 (ev_M_arr hM ha hk (w_sR_w a _ _) hen hP1 hz1) hS1)
/-! cells are made -/
theorem ev_u1_at {α : Type} (f : Nat → α) (a : Nat) (x : α) : ev_u1 f a x a = x := if_pos rfl
theorem ev_x_new {ix ci : Nat} {q : vw_C} (hf : ∀ z, ev_mel j = some z → ev_look2 (ev_own1 z) ix ev_clt = some ci) (hq : vwCl[ci]? = some q) (hl : w_l w = true) (hn : w_n w < 1000) (hd : ∀ z, ev_mel j = some z → decode (ev_by z) pc = .ok (.new ix, 3)) (h : ev_Snd D cy base ext SL SX l j (pc + 3) ls (.ref (w_n w) :: st) (w_nw w ci q.2.2) o w1) : ev_Snd D cy base ext SL SX l j pc ls st w o w1 := by
  refine ev_nstep (w' := (w_nw w ci q.2.2)) rfl rfl h (fun z hz p e R s m args below meth c hC H locs cells slots Q L hM hS hcR hsR k => ?_)
  obtain ⟨l9, h1, h2⟩ := ev_look2_mem (hf z hz)
  obtain ⟨ty, t1, t2, t3, t4, t5, t6⟩ := ev_cls ci _ hq
  have hci : ci < 9 := (List.getElem?_eq_some_iff.mp hq).1
  obtain ⟨C, T, N⟩ := q
  have hclw : Cond.classLink (ev_y z).cls ix C ∈ ev_all := by
    have h3 : ev_clw1 (ev_own1 z) (ix, ci) ∈ ev_clw := List.mem_flatMap.mpr ⟨_, h1, List.mem_map.mpr ⟨_, h2, rfl⟩⟩
    have h4 := ev_all_in ev_clw_in h3
    unfold ev_clw1 at h4
    dsimp only at h4
    rw [hq, hC.2.2.2.2.2.2.2.2.2.2.2.1] at h4
    exact h4
  have hins : ∀ w ∈ [Cond.instantiable C N, Cond.initialized C], w ∈ ev_all := fun w hw => ev_all_in ev_insw_in (List.mem_flatMap.mpr ⟨_, List.mem_of_getElem? hq, hw⟩)
  have hsz : H.size = base + w_n w := hM.2.2.2.1 hl
  refine ev_newo hC.1 hC.2.1 hC.2.2.2.2.2.1 t3 ty t1 hC.2.2.2.2.1 (hC.2.2.2.2.2.1 _ hclw) (hC.2.2.2.2.2.1 _ (hins _ List.mem_cons_self)) (hC.2.2.2.2.2.1 _ (hins _ (List.mem_cons_of_mem _ List.mem_cons_self))) hC.2.2.2.2.2.2.2.2.1 hS hq (fs := ev_fs base ext (w_nw w ci N) (w_n w) ci) (fun i hi => ?_) hcR hsR (hd z hz) (fun H1 z1 o1 at1 hS1 => ?_)
  · have hi' : i < (ev_ft.getD ci []).length := by rw [t4]; exact hi
    show defaultValue (ty i) = (ev_fs base ext (w_nw w ci N) (w_n w) ci).getD i .null
    rw [List.getD_eq_getElem?_getD, ev_fs_at hi']
    have h5 := t5 i hi
    show defaultValue (ty i) = ev_fv base ext (w_nw w ci N) (w_n w) (ev_fty ci i, i)
    unfold ev_fv
    have eI : w_I (w_nw w ci N) (w_n w) = fun _ => 0 := ev_u1_at _ _ _
    have eR : w_R (w_nw w ci N) (w_n w) = fun _ => none := ev_u1_at _ _ _
    rw [eI, eR]
    generalize ty i = t9 at h5
    generalize ev_fty ci i = f9 at h5
    unfold ev_ftk at h5
    split at h5 <;> first | rfl | cases h5
  · have e1 : ev_ρ base ext (w_n w) = base + w_n w := ev_ρ_lt (by omega)
    have hM1 : ev_M D cy base ext SL SX (w_nw w ci N) H1 := by
      refine ev_M_new hM hl hn z1 o1 ?_
      rw [ev_ents (ci := ci) (ev_u1_at _ _ _) hci, ← hsz]
      exact at1
    have k1 := k H1 hM1 hS1
    rw [hsz, ← e1]
    exact k1
theorem ev_x_newa {t : ArrayType} {κ : Nat} {i : Int32} (hκ : ev_akind t = some κ) (hl : w_l w = true) (hn : w_n w < 1000) (hi : ev_ok i 100000 = true) (hd : ∀ z, ev_mel j = some z → decode (ev_by z) pc = .ok (.newarray t, 2)) (h : ev_Snd D cy base ext SL SX l j (pc + 2) ls (.ref (w_n w) :: r) (w_nw w κ i.toNatClampNeg) o w1) : ev_Snd D cy base ext SL SX l j pc ls (.int i :: r) w o w1 := by
  refine ev_nstep (w' := (w_nw w κ i.toNatClampNeg)) rfl rfl h (fun z hz p e R s m args below meth c hC H locs cells slots Q L hM hS hcR hsR k => ?_)
  have hsz : H.size = base + w_n w := hM.2.2.2.1 hl
  have e1 : ev_ρ base ext (w_n w) = base + w_n w := ev_ρ_lt (by omega)
  have hin := ev_ok_in hi
  have hb : i.toNatClampNeg < 100000 := Nat.not_le.mp fun q => hin (Or.inr q)
  have h0 : ¬ i < 0 := fun q => hin (Or.inl q)
  have eI : ∀ κ9, w_I (w_nw w κ9 i.toNatClampNeg) (w_n w) = fun _ => 0 := fun _ => ev_u1_at _ _ _
  have eJ : ∀ κ9, w_J (w_nw w κ9 i.toNatClampNeg) (w_n w) = fun _ => 0 := fun _ => ev_u1_at _ _ _
  have eD : ∀ κ9, w_D (w_nw w κ9 i.toNatClampNeg) (w_n w) = fun _ => 0 := fun _ => ev_u1_at _ _ _
  have eL : ∀ κ9, w_L (w_nw w κ9 i.toNatClampNeg) (w_n w) = i.toNatClampNeg := fun _ => ev_u1_at _ _ _
  have eK : ∀ κ9, w_K (w_nw w κ9 i.toNatClampNeg) (w_n w) = κ9 := fun _ => ev_u1_at _ _ _
  have fin : ∀ H1 : Heap, H1.size = H.size + 1 → (∀ q, q < H.size → H1[q]? = H[q]?) → va_at D vwCl (H.size, ev_ent cy base ext (w_nw w κ i.toNatClampNeg) (w_n w)) H1 → va_S (ev_A base) s.heap H1 locs → W p l e R s m args below meth c H1 locs (cells + 1) (slots + i.toNatClampNeg) Q (F0 m (pc + 2) L (.ref H.size :: r.map (ev_v base ext))) := by
    intro H1 z1 o1 at1 hS1
    have k1 := k H1 (ev_M_new hM hl hn z1 o1 (by rw [← hsz]; exact at1)) hS1
    rw [hsz, ← e1]
    exact k1
  have harr : ∀ w ∈ ev_arrw, w.before args s = true := fun w hw => hC.2.2.2.2.2.1 _ (ev_all_in ev_arrw_in hw)
  cases t with
  | byte =>
    cases hκ
    refine ev_newar (a0 := (i.toNatClampNeg, .inl (fun _ => 0))) (t0 := 0) (ty := .byte) hC.1 hC.2.1 (harr _ (by decide +kernel)) rfl hC.2.2.2.2.2.2.2.2.1 hS rfl (fun C h9 => by cases h9) (fun cA => rfl) h0 rfl (by show _ * 1 ≤ _; omega) hcR hsR (hd z hz) (fun H1 z1 o1 at1 hS1 => fin H1 z1 o1 ?_ hS1)
    rw [ev_enti (eK 9) (by omega), eI, eL]
    exact at1
  | int =>
    cases hκ
    refine ev_newar (a0 := (i.toNatClampNeg, .inl (fun _ => 0))) (t0 := 1) (ty := .int) hC.1 hC.2.1 (harr _ (by decide +kernel)) rfl hC.2.2.2.2.2.2.2.2.1 hS rfl (fun C h9 => by cases h9) (fun cA => rfl) h0 rfl (by show _ * 4 ≤ _; omega) hcR hsR (hd z hz) (fun H1 z1 o1 at1 hS1 => fin H1 z1 o1 ?_ hS1)
    rw [ev_enti (eK 10) (by omega), eI, eL]
    exact at1
  | boolean =>
    cases hκ
    refine ev_newar (a0 := (i.toNatClampNeg, .inl (fun _ => 0))) (t0 := 2) (ty := .boolean) hC.1 hC.2.1 (harr _ (by decide +kernel)) rfl hC.2.2.2.2.2.2.2.2.1 hS rfl (fun C h9 => by cases h9) (fun cA => rfl) h0 rfl (by show _ * 1 ≤ _; omega) hcR hsR (hd z hz) (fun H1 z1 o1 at1 hS1 => fin H1 z1 o1 ?_ hS1)
    rw [ev_enti (eK 11) (by omega), eI, eL]
    exact at1
  | long =>
    cases hκ
    refine ev_newar (a0 := (i.toNatClampNeg, .inr (.inl (fun _ => 0)))) (t0 := 5) (ty := .long) hC.1 hC.2.1 (harr _ (by decide +kernel)) rfl hC.2.2.2.2.2.2.2.2.1 hS rfl (fun C h9 => by cases h9) (fun cA => rfl) h0 rfl (by show _ * 8 ≤ _; omega) hcR hsR (hd z hz) (fun H1 z1 o1 at1 hS1 => fin H1 z1 o1 ?_ hS1)
    rw [ev_entj (eK 14), eJ, eL]
    exact at1
  | double =>
    cases hκ
    refine ev_newar (a0 := (i.toNatClampNeg, .inr (.inr (.inr (.inl (fun _ => 0)))))) (t0 := 6) (ty := .double) hC.1 hC.2.1 (harr _ (by decide +kernel)) rfl hC.2.2.2.2.2.2.2.2.1 hS rfl (fun C h9 => by cases h9) (fun cA => rfl) h0 rfl (by show _ * 8 ≤ _; omega) hcR hsR (hd z hz) (fun H1 z1 o1 at1 hS1 => fin H1 z1 o1 ?_ hS1)
    rw [ev_entd (eK 15), eD, eL]
    exact at1
  | char => cases hκ
  | float => cases hκ
  | short => cases hκ
theorem ev_x_newq {ix ci κ : Nat} {i : Int32} (hf : ∀ z, ev_mel j = some z → ev_look2 (ev_own1 z) ix ev_clt = some ci) (hκ : (ci = 0 ∧ κ = 12) ∨ (ci = 5 ∧ κ = 13)) (hl : w_l w = true) (hn : w_n w < 1000) (hi : ev_ok i 100000 = true) (hd : ∀ z, ev_mel j = some z → decode (ev_by z) pc = .ok (.anewarray ix, 3)) (h : ev_Snd D cy base ext SL SX l j (pc + 3) ls (.ref (w_n w) :: r) (w_nw w κ i.toNatClampNeg) o w1) : ev_Snd D cy base ext SL SX l j pc ls (.int i :: r) w o w1 := by
  refine ev_nstep (w' := (w_nw w κ i.toNatClampNeg)) rfl rfl h (fun z hz p e R s m args below meth c hC H locs cells slots Q L hM hS hcR hsR k => ?_)
  obtain ⟨l9, h1, h2⟩ := ev_look2_mem (hf z hz)
  have hsz : H.size = base + w_n w := hM.2.2.2.1 hl
  have e1 : ev_ρ base ext (w_n w) = base + w_n w := ev_ρ_lt (by omega)
  have hin := ev_ok_in hi
  have hb : i.toNatClampNeg < 100000 := Nat.not_le.mp fun q => hin (Or.inr q)
  have h0 : ¬ i < 0 := fun q => hin (Or.inl q)
  have hclw : ∀ q, vwCl[ci]? = some q → Cond.classLink (ev_y z).cls ix q.1 ∈ ev_all := by
    intro q hq
    have h3 : ev_clw1 (ev_own1 z) (ix, ci) ∈ ev_clw := List.mem_flatMap.mpr ⟨_, h1, List.mem_map.mpr ⟨_, h2, rfl⟩⟩
    have h4 := ev_all_in ev_clw_in h3
    unfold ev_clw1 at h4
    dsimp only at h4
    rw [hq, hC.2.2.2.2.2.2.2.2.2.2.2.1] at h4
    exact h4
  have eR : w_R (w_nw w κ i.toNatClampNeg) (w_n w) = fun _ => none := ev_u1_at _ _ _
  have eL : w_L (w_nw w κ i.toNatClampNeg) (w_n w) = i.toNatClampNeg := ev_u1_at _ _ _
  have eK : w_K (w_nw w κ i.toNatClampNeg) (w_n w) = κ := ev_u1_at _ _ _
  have fin : ∀ H1 : Heap, H1.size = H.size + 1 → (∀ q, q < H.size → H1[q]? = H[q]?) → va_at D vwCl (H.size, .inl (cy κ, i.toNatClampNeg, .inr (.inr (.inr (.inr (fun _ => none)))))) H1 → va_S (ev_A base) s.heap H1 locs → W p l e R s m args below meth c H1 locs (cells + 1) (slots + i.toNatClampNeg) Q (F0 m (pc + 3) L (.ref H.size :: r.map (ev_v base ext))) := by
    intro H1 z1 o1 at1 hS1
    have k1 := k H1 (ev_M_new hM hl hn z1 o1 (by
      rw [← hsz, ev_entq eK (by omega), eR, eL]
      exact at1)) hS1
    rw [hsz, ← e1]
    exact k1
  have hF := hC.2.2.2.2.2.2.2.2.2.1
  rcases hκ with ⟨rfl, rfl⟩ | ⟨rfl, rfl⟩
  · exact ev_newqr (t0 := 3) hC.1 hC.2.1 hC.2.2.2.2.1 (hC.2.2.2.2.2.1 _ (hclw (RX0, TX0, 10) rfl)) hF.2.2.1 hC.2.2.2.2.2.2.2.2.1 hS rfl h0 rfl (by omega) hcR hsR (hd z hz) fin
  · exact ev_newqr (t0 := 4) hC.1 hC.2.1 hC.2.2.2.2.1 (hC.2.2.2.2.2.1 _ (hclw (RX5, TX5, 12) rfl)) hF.2.2.2.1 hC.2.2.2.2.2.2.2.2.1 hS rfl h0 rfl (by omega) hcR hsR (hd z hz) fin
end MEM
