/-! the class's load of a text that is right: by wip/gen/p64/j98s.py -/
theorem cc_load {n p N b : Nat} {A : Nat → Int32} {I : z_H} {L : LL} (hnp : n + p = 30) (hn : n = 2 ∨ n = 28) (hb : I 0 1 = jn b) (hN : N ≤ b) (h5 : b ≤ 500) (hA : ∀ k, k < N → I 1 k = A k) (ha : aText N A = .inr L) : ∃ J, d_F_load n p (jn N) I = some (.inr (jn (qF L)), J) ∧ cIv p L [] (fun _ => none) J ∧ cO I J ∧ qG L := by
  have evs_ := evS
  have hp2_ : p = 2 ∨ p = 28 := by omega
  obtain ⟨K_, eK_, fK_, xK_⟩ := sp_read (a := p) (N := N) (A := A) (I := ev_u2 I 0 1 (jn 0)) hp2_ (by omega) (fun k hk => by rw [ju_na (by omega)]; exact hA k hk)
  rcases xK_ with ⟨e_, ea_, -⟩ | ⟨L_, ea_, p0_, p1_, S_, g_⟩
  · rw [ha] at ea_; cases ea_
  rw [ha] at ea_
  cases Sum.inr.inj ea_
  have K0_ : ∀ k, ¬ k = 1 → K_ 0 k = I 0 k := fun k hk => by rw [fK_ 0 (by omega) (by omega), ju_ne (fun q_ => hk q_.2)]
  have K1_ : K_ 0 1 = jn 0 := by rw [fK_ 0 (by omega) (by omega), ju_at]
  have Ko_ : ∀ b, ¬ b = 0 → ¬ b = 54 → b < p + 1 ∨ p + 25 ≤ b → K_ b = I b := fun b h0 h1 h2 => by rw [fK_ b h1 h2, ju_na h0]
  have Y_ : ∃ Y, Y = ev_u2 (ev_u2 K_ 0 2 (K_ 54 0)) 0 3 (K_ 54 1) := ⟨_, rfl⟩
  obtain ⟨Y_, eY_⟩ := Y_
  have Yo_ : ∀ b, ¬ b = 0 → Y_ b = K_ b := fun b h0 => by rw [eY_, ju_na h0, ju_na h0]
  have Y2_ : Y_ 0 2 = K_ 54 0 := by rw [eY_, ju_ne (by omega), ju_at]
  have ld_ : d_F_load n p (jn N) I = (if Y_ 0 2 = jn 0 then ((d_H_forgetAll (ev_u2 Y_ 0 4 (jn 1))).bind fun q3 => some ((Sum.inr ((q3 (p + 7) 6)), q3))) else some ((Sum.inl 2, Y_))) := by
    have y_ : ev_u2 (ev_u2 K_ 0 2 (K_ 54 0)) 0 3 (ev_u2 K_ 0 2 (K_ 54 0) 54 1) = Y_ := by rw [eY_, ju_na (I := K_) (show ¬ 54 = 0 by omega)]
    unfold d_F_load
    rw [if_neg (by rw [jn_lt (by omega) (by omega)]; omega), if_neg (show ¬ I 0 1 < jn N by rw [hb, jn_lt (by omega) (by omega)]; omega), eK_, ob_s, y_]
  obtain ⟨W_, eW_, hu_, hv_, oW_⟩ := sq_forget (I := ev_u2 Y_ 0 4 (jn 1)) (u := p + 1)
  have Wo_ : ∀ b, ¬ b = 0 → ¬ b = 55 → ¬ b = 238 → W_ b = K_ b := fun b h0 h1 h2 => by rw [oW_ b h1 h2, ju_na h0, Yo_ b h0]
  have W4_ : W_ 0 4 = jn 1 := by rw [oW_ 0 (by omega) (by omega), ju_at]
  have s6_ : W_ (p + 7) 6 = jn (qF L) := by rw [Wo_ (p + 7) (by omega) (by omega) (by omega)]; exact S_.2.1
  refine ⟨W_, ?_, ⟨hp2_, W4_, g_, ⟨Nat.zero_le _, fun i N hi => by cases hi⟩, (fun k N hk => by cases hk), ?_, hu_, hv_⟩, fun c hc => ?_, g_⟩
  · rw [ld_, if_pos (show Y_ 0 2 = jn 0 by rw [Y2_]; exact p0_), eW_, ob_s, s6_]
  · exact qS_out S_ (fun b b1 b2 => Wo_ b (by omega) (by omega) (by omega)) (fun b b1 b2 => Wo_ b (by omega) (by omega) (by omega)) g_
  · rw [Wo_ c (by omega) (by omega) (by omega), Ko_ c (by omega) (by omega) (by omega)]
