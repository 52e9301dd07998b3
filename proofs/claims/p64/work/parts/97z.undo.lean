/-! undo, save, restore, load -/
section LDS
variable {n p B : Nat} {I J K : z_H} {L M : LL} {U : List LL} {V : Nat → Option LL}
theorem Inv_h (h : Inv n B I) (hb : IvB J) (hp : IvP J) (ht : IvT J) (f : ∀ b, (n + 1 ≤ b ∧ b < n + 25) ∨ (55 ≤ b ∧ b < 239) → J b = I b) (f04 : J 0 4 = I 0 4) (f6 : J 241 6 = I 241 6) (f7 : J 241 7 = I 241 7) (f2 : ∀ k, k < 173 → J 242 k = I 242 k) (f4 : J 244 = I 244) (f5 : J 245 = I 245) (fh : J 246 = I 246) : Inv n B J := by
  obtain ⟨hn_, _, _, _, s_⟩ := h
  refine ⟨hn_, hb, hp, ht, ?_⟩
  rcases s_ with ⟨n1_, n2_, n3_, n4_, n5_⟩ | ⟨L_, U_, V_, l1_, l2_, g_, gu_, gv_, qs_, qm_, hu_, mu_, hv_, mv_⟩
  · exact Or.inl ⟨by rw [f04]; exact n1_, by rw [f6]; exact n2_, by rw [f 55 (by omega)]; exact n3_, by rw [f7]; exact n4_, fun k hk => ⟨by rw [f 238 (by omega)]; exact (n5_ k hk).1, by rw [fh]; exact (n5_ k hk).2⟩⟩
  · exact Or.inr ⟨L_, U_, V_, by rw [f04]; exact l1_, by rw [f6]; exact l2_, g_, gu_, gv_, qS_out qs_ (fun b b1 b2 => f b (by omega)) (fun b b1 b2 => f b (by omega)) g_, qM_cg qm_ g_ f2, hU_out hu_ gu_ (fun b b1 b2 => f b (by omega)) (fun b b1 b2 => f b (by omega)), mU_out mu_ f7 f4, hV_out hv_ gv_ (fun b b1 b2 => f b (by omega)) (fun b b1 b2 => f b (by omega)), mV_out mv_ f5 fh⟩
/-- buffer, errors and text of the fields -/
theorem Inv_bpt (h : Inv n B I) (f0 : ∀ k, k < 4 → J 0 k = I 0 k) (f : ∀ b, b = 1 ∨ b = 239 ∨ b = 240 ∨ b = 247 ∨ b = 249 → J b = I b) (f1 : ∀ k, 9 ≤ k → J 241 k = I 241 k) : IvB J ∧ IvP J ∧ IvT J := by
  obtain ⟨_, ⟨b_, b1_, b2_, b3_, b4_⟩, ⟨p1_, p2_⟩, ⟨w_, ⟨t1_, t2_, t3_⟩, ⟨t4_, t5_, t6_⟩⟩, _⟩ := h
  refine ⟨⟨b_, b1_, ?_, ?_, fun k hk => ?_⟩, ⟨?_, ?_⟩, ⟨w_, ⟨?_, t2_, fun i c hc => ?_⟩, ⟨?_, t5_, fun i c hc => ?_⟩⟩⟩
  · rw [f0 1 (by omega)]; exact b2_
  · rw [f1 9 (by omega)]; exact b3_
  · rw [f 1 (by omega), f 247 (by omega)]; exact b4_ k hk
  · rw [f0 2 (by omega), f1 10 (by omega)]; exact p1_
  · rw [f0 3 (by omega), f1 11 (by omega)]; exact p2_
  · rw [f 239 (by omega)]; exact t1_
  · rw [f 240 (by omega)]; exact t3_ i c hc
  · rw [f1 19 (by omega)]; exact t4_
  · rw [f 249 (by omega)]; exact t6_ i c hc
theorem f_sY {x : Int32} (h : jlt x 2) : d_F_needSlot x = some (.inr ()) := f_gY (by omega) rfl h
theorem f_sN {x : Int32} (h : ¬ jlt x 2) : d_F_needSlot x = some (.inl 1) := f_gN (by omega) rfl h
theorem m_s2 {x : Int32} : (¬ x < jn 0 ∧ ¬ jn 1 < x) ↔ jlt x 2 := by
  have e_ : jn 2 - jn 1 = jn 1 := by decide
  have k_ := jlt_r (x := x) (c := 2) (by omega)
  rw [e_] at k_
  exact k_
end LDS
