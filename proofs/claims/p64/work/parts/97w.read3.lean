/-! calls that think ahead; shares and means; both sides -/
theorem irs_ok : ∀ (c w : Fin 10) (x : Fin 4), (z_it (d_G_ironsUntilSmooth_4 (jn x.val)) z_F (jn 0, jn c.val, jn w.val)).isSome = true := by decide +kernel
theorem irs_1 : ∀ (c w : Fin 10) (x : Fin 4) (b : Bool), 0 < c.val → ∃ k : Fin 10, k.val < c.val ∧ z_mx (jn 0) (((jn c.val - jn 1) - jn x.val) - (if b = true then jn 1 else jn 0)) = jn k.val := by decide +kernel
theorem fp_ok : ∀ (a : Fin 25) (b : Fin 13), 0 < b.val → (FP.fdiv (FP.i2f (jn a.val)) (FP.i2f (jn b.val))) &&& 0x7fffffff ≤ 0x7f800000 := by decide +kernel
theorem fp_ok2 : ∀ (a : Fin 25) (b : Fin 13), 0 < b.val → (FP.f2d (FP.fdiv (FP.i2f (jn a.val)) (FP.i2f (jn b.val)))) &&& 0x7fffffffffffffff ≤ 0x7ff0000000000000 := by decide +kernel
theorem fp_ok0 : (FP.f2d FP.fconst0) &&& 0x7fffffffffffffff ≤ 0x7ff0000000000000 := by decide +kernel
theorem dp_ok : ∀ (a : Fin 109) (b : Fin 13), 0 < b.val → (FP.ddiv (FP.i2d (jn a.val)) (FP.i2d (jn b.val))) &&& 0x7fffffffffffffff ≤ 0x7ff0000000000000 := by decide +kernel
theorem sum_dirt {L : LL} (g : qG L) : ∀ n, n ≤ qF L → ∃ k, k ≤ 9 * n ∧ jfd (fun i a => a + qf L i 3) (jn 0) n = jn k := by
  intro n
  induction n with
  | zero => intro _; exact ⟨0, by omega, rfl⟩
  | succ n ih_ =>
    intro hn
    obtain ⟨k_, hk_, e_⟩ := ih_ (by omega)
    obtain ⟨d_, hd_, ed_⟩ := (g.2.2.2.2.2.1 n (by omega)).2.2.2.1
    exact ⟨k_ + d_, by omega, by rw [jfd_s, e_, ed_, jn_add]⟩
section RD3
variable {n B : Nat} {I : z_H}
theorem Inv_w {J : z_H} {c : Int32} (h : Inv n B I) (w : WK (ev_u2 I 241 0 c) J) : Inw n B I J ∧ J 241 0 = c := by
  have e_ : J 241 = ev_u2 I 241 0 c 241 := w.2 241 (by omega) (by omega)
  refine ⟨Inw_rd h (fun b b1 b2 b3 _ _ => by rw [w.2 b b2 b3, ju_na b1]) (fun k hk => by rw [e_, ju_ne (fun q_ => hk q_.2)]) (fun k hk => by rw [w.1 k hk, ju_na (by omega)]), by rw [e_, ju_at]⟩
end RD3
