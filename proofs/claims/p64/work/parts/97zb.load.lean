/-! load -/
def jz (I : z_H) (n : Nat) : z_H := jfd (fun i H => ev_u2 H 242 i (jn 0)) I n
section LOD
variable {n p B N b : Nat} {A : Nat → Int32} {I X K : z_H} {L M : LL} {U : List LL} {V : Nat → Option LL}
theorem jz_o : ∀ n, ∀ c, ¬ c = 242 → jz I n c = I c
  | 0, _, _ => rfl
  | n + 1, c, hc => by
    show ev_u2 (jz I n) 242 n (jn 0) c = _
    rw [ju_na hc]
    exact jz_o n c hc
theorem jz_k : ∀ n, ∀ k, k < n → jz I n 242 k = jn 0
  | 0, _, h => absurd h (Nat.not_lt_zero _)
  | n + 1, k, h => by
    show ev_u2 (jz I n) 242 n (jn 0) 242 k = _
    by_cases e_ : k = n
    · rw [e_, ju_at]
    · rw [ju_ne (fun q_ => e_ q_.2)]
      exact jz_k n k (by omega)
/-- the heap in which the reference begins to read -/
def jld (X : z_H) (x : Int32) : z_H := ev_u2 (ev_u2 (ev_u2 (ev_u2 (ev_u2 (ev_u2 X 241 0 (jn 0)) 241 12 x) 241 13 (jn 0)) 241 9 (jn 0)) 241 10 (jn 0)) 241 11 (jg 1)
theorem jld_o {x : Int32} {c : Nat} (h : ¬ c = 241) : jld X x c = X c := by
  unfold jld
  rw [ju_na h, ju_na h, ju_na h, ju_na h, ju_na h, ju_na h]
theorem jld_k {x : Int32} {k : Nat} (h : ¬ k = 0) (h2 : k < 9 ∨ 14 ≤ k) : jld X x 241 k = X 241 k := by
  unfold jld
  rw [ju_ne (by omega), ju_ne (by omega), ju_ne (by omega), ju_ne (by omega), ju_ne (by omega), ju_ne (by omega)]
theorem jld_f {x : Int32} : jld X x 241 0 = jn 0 ∧ jld X x 241 9 = jn 0 ∧ jld X x 241 10 = jn 0 ∧ jld X x 241 11 = jg 1 ∧ jld X x 241 12 = x ∧ jld X x 241 13 = jn 0 := by
  refine ⟨?_, ?_, ?_, ?_, ?_, ?_⟩ <;> (unfold jld; simp [ev_u2])
end LOD
