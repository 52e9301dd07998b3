/-! the laundry that the law's text tells, at the start of the loop -/
theorem wsh0 {L : LL} (h6 : ∀ f, qf L f 6 = jn 0) (h8 : ∀ f, ¬ qf L f 8 = jn 3) (s2 : qs L 2 = jn 0) (s3 : qs L 3 = jn 0) {t : Nat} {x : Int32} : PmL (Lwsh L t x) := by
  have k03 : ¬ jn 0 = jn 3 := by decide
  have n3 : ∀ f, ¬ qf (Lwsh L t x) f 8 = jn 3 := fun f => by
    rw [wsh_8]
    by_cases q : f ∈ qt L t
    · rw [if_pos q]; exact k03
    · rw [if_neg q]; exact h8 f
  refine ⟨fun f _ => ?_, fun f _ q => absurd q (n3 f), ?_, fun f _ q => absurd q (n3 f)⟩
  · rw [wsh_k (by omega) (by omega), wsh_k (by omega) (by omega)]
    by_cases q : f ∈ qt L t
    · rw [if_pos q, if_pos q]
      show qf L f 1 &&& (qf L f 6 ||| ynew L f (yrunt L t x)) = jn 0
      unfold ynew
      rw [own_bit, h6]
      exact Int32.and_zero
    · rw [if_neg q, if_neg q, h6]
      exact Int32.and_zero
  · have e : ∀ m, jfd (fun i a => a + (if qf (Lwsh L t x) i 8 = jn 3 then qn (Lwsh L t x) (z_n (qf (Lwsh L t x) i 0)) 1 else jn 0)) (jn 0) m = jn 0 := by
      intro m
      induction m with
      | zero => rfl
      | succ m ih =>
        rw [jfd_s, ih, if_neg (n3 m)]
        decide
    show qs L 2 + qs L 3 = yshr (Lwsh L t x)
    unfold yshr
    rw [e, s2, s3]
    decide
theorem qs_cs (r : Nat → Nat) {L : LL} {k : Nat} : ∀ n, qs (Lcs r n L) k = qs L k
  | 0 => rfl
  | n + 1 => (show qs (Lcs r (n + 1) L) k = qs (Lcs r n L) k from rfl).trans (qs_cs r n)
theorem qs_ns (v : Nat → Nat → Nat) {L : LL} {k : Nat} : ∀ n, qs (Lns v n L) k = qs L k
  | 0 => rfl
  | n + 1 => (show qs (Lns v (n + 1) L) k = qs (Lns v n L) k from rfl).trans (qs_ns v n)
theorem qs_ts (r : Nat → Nat) {L : LL} {k : Nat} : ∀ n, qs (Lts r n L) k = qs L k
  | 0 => rfl
  | n + 1 => (show qs (Lts r (n + 1) L) k = qs (Lts r n L) k from rfl).trans (qs_ts r n)
theorem qs_fs (vf : Nat → Nat → Nat) (mf : Nat → Int32) {L : LL} {k : Nat} : ∀ n, qs (Lfs vf mf n L) k = qs L k
  | 0 => rfl
  | n + 1 => (show qs (Lfs vf mf (n + 1) L) k = qs (Lfs vf mf n L) k from rfl).trans (qs_fs vf mf n)
theorem put_8 {L : LL} {f t a : Nat} (h : ¬ qf L a 8 = jn 3) : ¬ qf (Lput L f t) a 8 = jn 3 := by
  by_cases q : a = f
  · rw [q]
    show ¬ qf (lf (lf (lt L t (qt L t ++ [f])) f 8 (jn 1)) f 9 (jn t)) f 8 = jn 3
    rw [lf_ne (by omega), lf_at]
    decide
  · rw [qf_put (fun z => q z.1)]; exact h
theorem LX_Pm {P W : Nat} {r : Nat → Nat} {vn : Nat → Nat → Nat} {o : Nat → Nat} {vf : Nat → Nat → Nat} {mf : Nat → Int32} {C N T F : Nat} : PmL (LX P W r vn o vf mf C N T F) ∧ Exz 0 (LX P W r vn o vf mf C N T F) := by
  have nX : NLx (LX0 P W r vn o vf mf C N T F) := NL_fs vf mf (NL_ts o (NL_ns vn (NL_cs r (NL_00 P) C) N) T) F
  have q0 : ∀ k, ¬ k = 1 → qs (LX0 P W r vn o vf mf C N T F) k = jn 0 := fun k hk => by
    show qs (ls (Lfs vf mf F (Lts o T (Lns vn N (Lcs r C (L00 P))))) 1 (jn W)) k = jn 0
    rw [ls_ne hk, qs_fs, qs_ts, qs_ns, qs_cs]
    rfl
  have k03 : ¬ jn 0 = jn 3 := by decide
  have f1 : (∀ f, qf (LX1 P W r vn o vf mf C N T F) f 6 = jn 0) ∧ (∀ f, ¬ qf (LX1 P W r vn o vf mf C N T F) f 8 = jn 3) ∧ ∀ k, ¬ k = 1 → qs (LX1 P W r vn o vf mf C N T F) k = jn 0 := by
    unfold LX1
    generalize LX0 P W r vn o vf mf C N T F = X at nX q0
    have a6 : ∀ f, qf (Lput X 0 0) f 6 = jn 0 := fun f => (qf_put (by omega)).trans (nX.2.2.1 f)
    have a8 : ∀ f, ¬ qf (Lput X 0 0) f 8 = jn 3 := fun f => put_8 (by rw [nX.2.1]; exact k03)
    by_cases c : 2 ≤ F ∧ ¬ o 0 = 1
    · rw [if_pos c]
      exact ⟨fun f => (qf_put (by omega)).trans (a6 f), fun f => put_8 (a8 f), fun k hk => q0 k hk⟩
    · rw [if_neg c]
      exact ⟨a6, a8, fun k hk => q0 k hk⟩
  obtain ⟨g6, g8, gs⟩ := f1
  unfold LX
  refine ⟨wsh0 g6 g8 (gs 2 (by omega)) (gs 3 (by omega)), ⟨0, ?_, Nat.le_refl _⟩, ⟨0, ?_, Nat.le_refl _⟩, 0, 0, ?_, ?_, Nat.le_refl _⟩
  · exact (ls_ne (by omega)).trans (gs 0 (by omega))
  · exact (ls_ne (by omega)).trans (gs 5 (by omega))
  · exact (ls_ne (by omega)).trans (gs 2 (by omega))
  · exact (ls_ne (by omega)).trans (gs 3 (by omega))
