/-! the law's desk: by wip/gen/p64/j98i.py -/
def jgr (x : Int32) (lo hi : Nat) : Prop := ∃ k, lo ≤ k ∧ k ≤ hi ∧ x = jn k
theorem jandr {a : Nat} (ha : a < 64) (z : Int32) : ∃ k, k ≤ a ∧ z &&& jn a = jn k := by
  obtain ⟨k, h1, h2⟩ := jand_le ha z
  exact ⟨k, h1, (Int32.and_comm z (jn a)).trans h2⟩
theorem jm5 : ∀ x : Fin 8, jn x.val - jn x.val / jn 5 * jn 5 = jn (x.val % 5) := by decide +kernel
theorem jm6 : ∀ x : Fin 8, jn x.val - jn x.val / jn 6 * jn 6 = jn (x.val % 6) := by decide +kernel
theorem jm10 : ∀ x : Fin 16, jn x.val - jn x.val / jn 10 * jn 10 = jn (x.val % 10) := by decide +kernel
theorem jmN : ∀ (x n : Fin 2), ¬ jn (n.val + 1) = 0 ∧ jn x.val - jn x.val / jn (n.val + 1) * jn (n.val + 1) = jn (x.val % (n.val + 1)) := by decide +kernel
theorem jmC : ∀ (x : Fin 16) (c : Fin 4), ¬ (jn 1 <<< (jn (c.val + 1) &&& 31)) - jn 1 = 0 ∧ jn x.val - jn x.val / ((jn 1 <<< (jn (c.val + 1) &&& 31)) - jn 1) * ((jn 1 <<< (jn (c.val + 1) &&& 31)) - jn 1) = jn (x.val % (2 ^ (c.val + 1) - 1)) := by decide +kernel
/-- a row of ints -/
def RWs (w : ev_W) (a L : Nat) : Prop := a < w_n w ∧ w_K w a = 10 ∧ w_L w a = L
theorem RWs.fr {X : Nat → Prop} {w w1 : ev_W} {a L : Nat} (S : RWs w a L) (F : FR X w w1) : RWs w1 a L := by
  have h := (F.2.2 a S.1).1
  exact ⟨Nat.lt_of_lt_of_le S.1 F.1.1, h.1.trans S.2.1, h.2.trans S.2.2⟩
theorem xI_K {w : ev_W} {a i : Nat} {x : Int32} : w_K (w_sI w a i x) = w_K w := rfl
theorem xI_L {w : ev_W} {a i : Nat} {x : Int32} : w_L (w_sI w a i x) = w_L w := rfl
theorem xI_n {w : ev_W} {a i : Nat} {x : Int32} : w_n (w_sI w a i x) = w_n w := rfl
theorem xI_R {w : ev_W} {a i : Nat} {x : Int32} : w_R (w_sI w a i x) = w_R w := rfl
theorem xR_K {w : ev_W} {a i : Nat} {x : Option Nat} : w_K (w_sR w a i x) = w_K w := rfl
theorem xR_L {w : ev_W} {a i : Nat} {x : Option Nat} : w_L (w_sR w a i x) = w_L w := rfl
theorem xR_I {w : ev_W} {a i : Nat} {x : Option Nat} : w_I (w_sR w a i x) = w_I w := rfl
theorem FR.I {X : Nat → Prop} {w w1 : ev_W} (F : FR X w w1) {a : Nat} (ha : a < w_n w) (hx : ¬ X a) : w_I w1 a = w_I w a := ((F.2.2 a ha).2 hx).1
theorem FR.R {X : Nat → Prop} {w w1 : ev_W} (F : FR X w w1) {a : Nat} (ha : a < w_n w) (hx : ¬ X a) : w_R w1 a = w_R w a := ((F.2.2 a ha).2 hx).2.1
theorem FR.K {X : Nat → Prop} {w w1 : ev_W} (F : FR X w w1) {a : Nat} (ha : a < w_n w) : w_K w1 a = w_K w a := (F.2.2 a ha).1.1
theorem FR.L {X : Nat → Prop} {w w1 : ev_W} (F : FR X w w1) {a : Nat} (ha : a < w_n w) : w_L w1 a = w_L w a := (F.2.2 a ha).1.2
theorem FR.SL {X : Nat → Prop} {w w1 : ev_W} (F : FR X w w1) : w_L w1 ev_S = w_L w ev_S := F.2.1.1
theorem FR.l {X : Nat → Prop} {w w1 : ev_W} (F : FR X w w1) : w_l w1 = w_l w := F.1.2.2.2.2
theorem FR.n {X : Nat → Prop} {w w1 : ev_W} (F : FR X w w1) : w_n w ≤ w_n w1 := F.1.1
theorem n_dk1 {G : z_G} (hl : G.2.2.stackTraces = false) {P : Option Value → ev_W → Prop} {d ru C : Nat} {v : Int32} {x4 x5 x6 : Option Value} (hC : C ≤ 4) : ∀ (k i : Nat) {w : ev_W}, i + k = C → w_L w ev_S ≤ 1000 → (d < w_n w ∧ w_K w d = 8) → w_R w d 8 = some ru → RWs w ru C → w_n w ≤ 1000 → (∀ c, c < i → jgr (w_I w ru c) 0 4) → (∀ w', FR (fun x => x = ru) w w' → w_n w' = w_n w → (∀ c, c < C → jgr (w_I w' ru c) 0 4) → z_Q G 158 73 [some (.ref ev_S), some (.ref d), some (.int v), some (.int (jn C)), x4, x5, x6] [] w' P) → z_Q G 158 38 [some (.ref ev_S), some (.ref d), some (.int v), some (.int (jn i)), x4, x5, x6] [] w P := by
  intro k
  induction k with
  | zero =>
    intro i w e hL hd hr hR hn hv fin
    have hB : z_all [z_is 158 38 (zf_iload 38 3 39), z_is 158 39 (zf_aload 39 1 40), z_at 158 40 (zf_gr 40 8 8 43), z_at 158 43 (zx_alen 43 44), z_is 158 44 (zf_if2 .ge 44 73 47)] = true := by decide +kernel
    refine q_s hB (fun _ _ k => z_iload hB rfl k) (fun hB => ?_)
    refine q_s hB (fun _ _ k => z_aload hB rfl k) (fun hB => ?_)
    refine q_s hB (fun _ _ k => x_getr hB hd.1 hd.2 hr k) (fun hB => ?_)
    refine q_s hB (fun _ _ k => x_alen hB hR.1 (by rw [hR.2.1]; omega) (by rw [hR.2.1]; omega) k) (fun hB => ?_)
    rw [hR.2.2, show Int32.ofNat C = jn C from rfl]
    refine q_s hB (fun _ _ k => z_ic_ge hB (fun _ => k) (fun h _ => absurd h ((by rw [jn_lt (by omega) (by omega)]; omega)))) (fun hB => ?_)
    have e2 : i = C := by omega
    rw [e2]
    exact fin w FR.rf rfl (by rw [← e2]; exact hv)
  | succ k ih =>
    intro i w e hL hd hr hR hn hv fin
    have hi4 : i < 4 := by omega
    obtain ⟨q, hq, eq⟩ := jandr (a := 7) (by omega) ((sc w 1).toUInt32 >>> ((jn 3 * jn i).toUInt32 &&& Int32.toUInt32 31)).toInt32
    have e5 : jn q - jn q / jn 5 * jn 5 = jn (q % 5) := jm5 ⟨q, by omega⟩
    have hB : z_all [z_is 158 38 (zf_iload 38 3 39), z_is 158 39 (zf_aload 39 1 40), z_at 158 40 (zf_gr 40 8 8 43), z_at 158 43 (zx_alen 43 44), z_is 158 44 (zf_if2 .ge 44 73 47), z_is 158 47 (zf_aload 47 1 48), z_at 158 48 (zf_gr 48 8 8 51), z_is 158 51 (zf_iload 51 3 52), z_is 158 52 (zf_aload 52 0 53), z_is 158 53 (zf_cst 53 (jn 1) 54), z_is 158 54 (zf_cs 54 157 2 57), z_is 158 57 (zf_cst 57 (jn 3) 58), z_is 158 58 (zf_iload 58 3 59), z_is 158 59 (zf_imul 59 60), z_at 158 60 (zf_iushr 60 61), z_is 158 61 (zf_cst 61 (jn 7) 63), z_is 158 63 (zf_iand 63 64), z_is 158 64 (zf_cst 64 (jn 5) 65), z_is 158 65 (zf_irem 65 66), z_at 158 66 (zx_iast 66 67), z_is 158 67 (zf_iinc 67 3 (jn 1) 70), z_is 158 70 (zf_goto 70 38)] = true := by decide +kernel
    refine q_s hB (fun _ _ k => z_iload hB rfl k) (fun hB => ?_)
    refine q_s hB (fun _ _ k => z_aload hB rfl k) (fun hB => ?_)
    refine q_s hB (fun _ _ k => x_getr hB hd.1 hd.2 hr k) (fun hB => ?_)
    refine q_s hB (fun _ _ k => x_alen hB hR.1 (by rw [hR.2.1]; omega) (by rw [hR.2.1]; omega) k) (fun hB => ?_)
    rw [hR.2.2, show Int32.ofNat C = jn C from rfl]
    refine q_s hB (fun _ _ k => z_ic_ge hB (fun h _ => absurd ((by rw [jn_lt (by omega) (by omega)]; omega)) h) (fun _ => k)) (fun hB => ?_)
    refine q_s hB (fun _ _ k => z_aload hB rfl k) (fun hB => ?_)
    refine q_s hB (fun _ _ k => x_getr hB hd.1 hd.2 hr k) (fun hB => ?_)
    refine q_s hB (fun _ _ k => z_iload hB rfl k) (fun hB => ?_)
    refine q_s hB (fun _ _ k => z_aload hB rfl k) (fun hB => ?_)
    refine q_s hB (fun _ _ k => z_cst hB k) (fun hB => ?_)
    refine q_s hB (fun _ _ k => z_callS hB (rest := [.int (jn i), .ref ru]) rfl rfl rfl (n_cell hl hL (k := 1) (by omega)) k) (fun hB => ?_)
    refine q_s hB (fun _ _ k => z_cst hB k) (fun hB => ?_)
    refine q_s hB (fun _ _ k => z_iload hB rfl k) (fun hB => ?_)
    refine q_s hB (fun _ _ k => z_imul hB k) (fun hB => ?_)
    refine q_s hB (fun _ _ k => z_iushr hB k) (fun hB => ?_)
    refine q_s hB (fun _ _ k => z_cst hB k) (fun hB => ?_)
    refine q_s hB (fun _ _ k => z_iand hB k) (fun hB => ?_)
    rw [eq]
    refine q_s hB (fun _ _ k => z_cst hB k) (fun hB => ?_)
    refine q_s hB (fun _ _ k => z_irem hB (by decide) k) (fun hB => ?_)
    rw [e5]
    refine q_s hB (fun _ _ k => x_iast hB hR.1 hR.2.1 (by rw [hR.2.2]; exact jn_ok (by omega) (by omega)) k) (fun hB => ?_)
    rw [jn_n (by omega)]
    refine q_s hB (fun _ _ k => z_iinc hB rfl rfl k) (fun hB => ?_)
    rw [jn_add]
    refine q_s hB (fun _ _ k => z_goto hB k) (fun hB => ?_)
    refine ih (i + 1) (w := w_sI w ru i (jn (q % 5))) (by omega) hL hd hr hR hn (fun c hc => ?_) (fun w' F e9 h9 => fin w' ((FR_I (by have := hR.1; omega)).tr F (fun _ _ q => q) (fun _ _ q => q)) e9 h9)
    by_cases q9 : c = i
    · rw [q9, sI_at]
      exact ⟨_, by omega, by omega, rfl⟩
    · rw [sI_ne (fun q => q9 q.2)]
      exact hv c (by omega)
theorem n_dk3 {G : z_G} (hl : G.2.2.stackTraces = false) {P : Option Value → ev_W → Prop} {d ru C : Nat} {v : Int32} {x4 x5 x6 : Option Value} (hC : C ≤ 4) : ∀ (k i : Nat) {w : ev_W}, i + k = C → w_L w ev_S ≤ 1000 → (d < w_n w ∧ w_K w d = 8) → w_R w d 9 = some ru → RWs w ru C → w_n w ≤ 1000 → (∀ c, c < i → jgr (w_I w ru c) 1 4) → (∀ w', FR (fun x => x = ru) w w' → w_n w' = w_n w → (∀ c, c < C → jgr (w_I w' ru c) 1 4) → z_Q G 158 204 [some (.ref ev_S), some (.ref d), some (.int v), some (.int (jn C)), x4, x5, x6] [] w' P) → z_Q G 158 171 [some (.ref ev_S), some (.ref d), some (.int v), some (.int (jn i)), x4, x5, x6] [] w P := by
  intro k
  induction k with
  | zero =>
    intro i w e hL hd hr hR hn hv fin
    have hB : z_all [z_is 158 171 (zf_iload 171 3 172), z_is 158 172 (zf_aload 172 1 173), z_at 158 173 (zf_gr 173 8 9 176), z_at 158 176 (zx_alen 176 177), z_is 158 177 (zf_if2 .ge 177 204 180)] = true := by decide +kernel
    refine q_s hB (fun _ _ k => z_iload hB rfl k) (fun hB => ?_)
    refine q_s hB (fun _ _ k => z_aload hB rfl k) (fun hB => ?_)
    refine q_s hB (fun _ _ k => x_getr hB hd.1 hd.2 hr k) (fun hB => ?_)
    refine q_s hB (fun _ _ k => x_alen hB hR.1 (by rw [hR.2.1]; omega) (by rw [hR.2.1]; omega) k) (fun hB => ?_)
    rw [hR.2.2, show Int32.ofNat C = jn C from rfl]
    refine q_s hB (fun _ _ k => z_ic_ge hB (fun _ => k) (fun h _ => absurd h ((by rw [jn_lt (by omega) (by omega)]; omega)))) (fun hB => ?_)
    have e2 : i = C := by omega
    rw [e2]
    exact fin w FR.rf rfl (by rw [← e2]; exact hv)
  | succ k ih =>
    intro i w e hL hd hr hR hn hv fin
    have hi4 : i < 4 := by omega
    obtain ⟨q, hq, eq⟩ := jandr (a := 3) (by omega) (v.toUInt32 >>> ((jn 6 + jn 2 * jn i).toUInt32 &&& Int32.toUInt32 31)).toInt32
    have hB : z_all [z_is 158 171 (zf_iload 171 3 172), z_is 158 172 (zf_aload 172 1 173), z_at 158 173 (zf_gr 173 8 9 176), z_at 158 176 (zx_alen 176 177), z_is 158 177 (zf_if2 .ge 177 204 180), z_is 158 180 (zf_aload 180 1 181), z_at 158 181 (zf_gr 181 8 9 184), z_is 158 184 (zf_iload 184 3 185), z_is 158 185 (zf_cst 185 (jn 1) 186), z_is 158 186 (zf_iload 186 2 187), z_is 158 187 (zf_cst 187 (jn 6) 189), z_is 158 189 (zf_cst 189 (jn 2) 190), z_is 158 190 (zf_iload 190 3 191), z_is 158 191 (zf_imul 191 192), z_is 158 192 (zf_iadd 192 193), z_at 158 193 (zf_iushr 193 194), z_is 158 194 (zf_cst 194 (jn 3) 195), z_is 158 195 (zf_iand 195 196), z_is 158 196 (zf_iadd 196 197), z_at 158 197 (zx_iast 197 198), z_is 158 198 (zf_iinc 198 3 (jn 1) 201), z_is 158 201 (zf_goto 201 171)] = true := by decide +kernel
    refine q_s hB (fun _ _ k => z_iload hB rfl k) (fun hB => ?_)
    refine q_s hB (fun _ _ k => z_aload hB rfl k) (fun hB => ?_)
    refine q_s hB (fun _ _ k => x_getr hB hd.1 hd.2 hr k) (fun hB => ?_)
    refine q_s hB (fun _ _ k => x_alen hB hR.1 (by rw [hR.2.1]; omega) (by rw [hR.2.1]; omega) k) (fun hB => ?_)
    rw [hR.2.2, show Int32.ofNat C = jn C from rfl]
    refine q_s hB (fun _ _ k => z_ic_ge hB (fun h _ => absurd ((by rw [jn_lt (by omega) (by omega)]; omega)) h) (fun _ => k)) (fun hB => ?_)
    refine q_s hB (fun _ _ k => z_aload hB rfl k) (fun hB => ?_)
    refine q_s hB (fun _ _ k => x_getr hB hd.1 hd.2 hr k) (fun hB => ?_)
    refine q_s hB (fun _ _ k => z_iload hB rfl k) (fun hB => ?_)
    refine q_s hB (fun _ _ k => z_cst hB k) (fun hB => ?_)
    refine q_s hB (fun _ _ k => z_iload hB rfl k) (fun hB => ?_)
    refine q_s hB (fun _ _ k => z_cst hB k) (fun hB => ?_)
    refine q_s hB (fun _ _ k => z_cst hB k) (fun hB => ?_)
    refine q_s hB (fun _ _ k => z_iload hB rfl k) (fun hB => ?_)
    refine q_s hB (fun _ _ k => z_imul hB k) (fun hB => ?_)
    refine q_s hB (fun _ _ k => z_iadd hB k) (fun hB => ?_)
    refine q_s hB (fun _ _ k => z_iushr hB k) (fun hB => ?_)
    refine q_s hB (fun _ _ k => z_cst hB k) (fun hB => ?_)
    refine q_s hB (fun _ _ k => z_iand hB k) (fun hB => ?_)
    rw [eq]
    refine q_s hB (fun _ _ k => z_iadd hB k) (fun hB => ?_)
    rw [jn_add]
    refine q_s hB (fun _ _ k => x_iast hB hR.1 hR.2.1 (by rw [hR.2.2]; exact jn_ok (by omega) (by omega)) k) (fun hB => ?_)
    rw [jn_n (by omega)]
    refine q_s hB (fun _ _ k => z_iinc hB rfl rfl k) (fun hB => ?_)
    rw [jn_add]
    refine q_s hB (fun _ _ k => z_goto hB k) (fun hB => ?_)
    refine ih (i + 1) (w := w_sI w ru i (jn (1 + q))) (by omega) hL hd hr hR hn (fun c hc => ?_) (fun w' F e9 h9 => fin w' ((FR_I (by have := hR.1; omega)).tr F (fun _ _ q => q) (fun _ _ q => q)) e9 h9)
    by_cases q9 : c = i
    · rw [q9, sI_at]
      exact ⟨_, by omega, by omega, rfl⟩
    · rw [sI_ne (fun q => q9 q.2)]
      exact hv c (by omega)
/-- a nation's row -/
def NR (w : ev_W) (na n : Nat) : Prop := ∃ r, w_R w na n = some r ∧ RWs w r 4 ∧ jgr (w_I w r 0) 0 7 ∧ jgr (w_I w r 1) 1 16 ∧ jgr (w_I w r 2) 0 3
theorem NR.fr {X : Nat → Prop} {w w1 : ev_W} {na n : Nat} (S : NR w na n) (F : FR X w w1) (h : ∀ x, X x → ¬ w_K w x = 10) (hr : w_R w1 na n = w_R w na n) : NR w1 na n := by
  obtain ⟨r, h1, h2, h3, h4, h5⟩ := S
  have hI := F.I h2.1 (fun q => h r q h2.2.1)
  exact ⟨r, hr.trans h1, h2.fr F, by rw [hI]; exact h3, by rw [hI]; exact h4, by rw [hI]; exact h5⟩
theorem n_dk2 {G : z_G} (hl : G.2.2.stackTraces = false) {P : Option Value → ev_W → Prop} {d na C : Nat} {v : Int32} {x5 x6 : Option Value} (hC : C ≤ 2) : ∀ (k i : Nat) {w : ev_W} {x4 : Option Value}, i + k = C → w_L w ev_S ≤ 1000 → (d < w_n w ∧ w_K w d = 8) → w_R w d 10 = some na → (na < w_n w ∧ w_K w na = 20 ∧ w_L w na = C) → (w_l w = true ∧ w_n w + k ≤ 1000) → (∀ n, n < i → NR w na n) → (∀ w' y4, FR (fun x => x = na) w w' → w_n w' = w_n w + k → (∀ n, n < C → NR w' na n) → z_Q G 158 156 [some (.ref ev_S), some (.ref d), some (.int v), some (.int (jn C)), y4, x5, x6] [] w' P) → z_Q G 158 89 [some (.ref ev_S), some (.ref d), some (.int v), some (.int (jn i)), x4, x5, x6] [] w P := by
  intro k
  induction k with
  | zero =>
    intro i w x4 e hL hd hr hN hn hv fin
    have hB : z_all [z_is 158 89 (zf_iload 89 3 90), z_is 158 90 (zf_aload 90 1 91), z_at 158 91 (zf_gr 91 8 10 94), z_at 158 94 (zx_alen2 94 95), z_is 158 95 (zf_if2 .ge 95 156 98)] = true := by decide +kernel
    refine q_s hB (fun _ _ k => z_iload hB rfl k) (fun hB => ?_)
    refine q_s hB (fun _ _ k => z_aload hB rfl k) (fun hB => ?_)
    refine q_s hB (fun _ _ k => x_getr hB hd.1 hd.2 hr k) (fun hB => ?_)
    refine q_s hB (fun _ _ k => x_alen2 hB hN.1 hN.2.1 k) (fun hB => ?_)
    rw [hN.2.2, show Int32.ofNat C = jn C from rfl]
    refine q_s hB (fun _ _ k => z_ic_ge hB (fun _ => k) (fun h _ => absurd h ((by rw [jn_lt (by omega) (by omega)]; omega)))) (fun hB => ?_)
    have e2 : i = C := by omega
    rw [e2]
    exact fin w x4 FR.rf rfl (by rw [← e2]; exact hv)
  | succ k ih =>
    intro i w x4 e hL hd hr hN hn hv fin
    have hi4 : i < 2 := by omega
    have hll := hn.1
    have hn8 := hn.2
    have hna := hN.1
    obtain ⟨q0, hq0, e0⟩ := jandr (a := 7) (by omega) (sc w (2 + i))
    obtain ⟨q1, hq1, e1⟩ := jandr (a := 15) (by omega) ((sc w (2 + i)).toUInt32 >>> ((jn 3).toUInt32 &&& Int32.toUInt32 31)).toInt32
    obtain ⟨q2, hq2, e2⟩ := jandr (a := 3) (by omega) ((sc w (2 + i)).toUInt32 >>> ((jn 7).toUInt32 &&& Int32.toUInt32 31)).toInt32
    have hB : z_all [z_is 158 89 (zf_iload 89 3 90), z_is 158 90 (zf_aload 90 1 91), z_at 158 91 (zf_gr 91 8 10 94), z_at 158 94 (zx_alen2 94 95), z_is 158 95 (zf_if2 .ge 95 156 98), z_is 158 98 (zf_aload 98 0 99), z_is 158 99 (zf_cst 99 (jn 2) 100), z_is 158 100 (zf_iload 100 3 101), z_is 158 101 (zf_iadd 101 102), z_is 158 102 (zf_cs 102 157 2 105), z_is 158 105 (zf_istore 105 4 107), z_is 158 107 (zf_aload 107 1 108), z_at 158 108 (zf_gr 108 8 10 111), z_is 158 111 (zf_iload 111 3 112), z_is 158 112 (zf_cst 112 (jn 4) 113), z_at 158 113 (zx_newa 113 10 115), z_at 158 115 (zx_dup 115 116), z_is 158 116 (zf_cst 116 (jn 0) 117), z_is 158 117 (zf_iload 117 4 119), z_is 158 119 (zf_cst 119 (jn 7) 121), z_is 158 121 (zf_iand 121 122), z_at 158 122 (zx_iast 122 123), z_at 158 123 (zx_dup 123 124), z_is 158 124 (zf_cst 124 (jn 1) 125), z_is 158 125 (zf_cst 125 (jn 1) 126), z_is 158 126 (zf_iload 126 4 128), z_is 158 128 (zf_cst 128 (jn 3) 129), z_at 158 129 (zf_iushr 129 130), z_is 158 130 (zf_cst 130 (jn 15) 132), z_is 158 132 (zf_iand 132 133), z_is 158 133 (zf_iadd 133 134), z_at 158 134 (zx_iast 134 135), z_at 158 135 (zx_dup 135 136), z_is 158 136 (zf_cst 136 (jn 2) 137), z_is 158 137 (zf_iload 137 4 139), z_is 158 139 (zf_cst 139 (jn 7) 141), z_at 158 141 (zf_iushr 141 142), z_is 158 142 (zf_cst 142 (jn 3) 143), z_is 158 143 (zf_iand 143 144), z_at 158 144 (zx_iast 144 145), z_at 158 145 (zx_dup 145 146), z_is 158 146 (zf_cst 146 (jn 3) 147), z_is 158 147 (zf_cst 147 (jg 1) 148), z_at 158 148 (zx_iast 148 149), z_at 158 149 (zx_aast 149 150), z_is 158 150 (zf_iinc 150 3 (jn 1) 153), z_is 158 153 (zf_goto 153 89)] = true := by decide +kernel
    refine q_s hB (fun _ _ k => z_iload hB rfl k) (fun hB => ?_)
    refine q_s hB (fun _ _ k => z_aload hB rfl k) (fun hB => ?_)
    refine q_s hB (fun _ _ k => x_getr hB hd.1 hd.2 hr k) (fun hB => ?_)
    refine q_s hB (fun _ _ k => x_alen2 hB hN.1 hN.2.1 k) (fun hB => ?_)
    rw [hN.2.2, show Int32.ofNat C = jn C from rfl]
    refine q_s hB (fun _ _ k => z_ic_ge hB (fun h _ => absurd ((by rw [jn_lt (by omega) (by omega)]; omega)) h) (fun _ => k)) (fun hB => ?_)
    refine q_s hB (fun _ _ k => z_aload hB rfl k) (fun hB => ?_)
    refine q_s hB (fun _ _ k => z_cst hB k) (fun hB => ?_)
    refine q_s hB (fun _ _ k => z_iload hB rfl k) (fun hB => ?_)
    refine q_s hB (fun _ _ k => z_iadd hB k) (fun hB => ?_)
    rw [jn_add]
    refine q_s hB (fun _ _ k => z_callS hB (rest := []) rfl rfl rfl (n_cell hl hL (k := 2 + i) (by omega)) k) (fun hB => ?_)
    refine q_s hB (fun _ _ k => z_istore hB rfl rfl k) (fun hB => ?_)
    refine q_s hB (fun _ _ k => z_aload hB rfl k) (fun hB => ?_)
    refine q_s hB (fun _ _ k => x_getr hB hd.1 hd.2 hr k) (fun hB => ?_)
    refine q_s hB (fun _ _ k => z_iload hB rfl k) (fun hB => ?_)
    refine q_s hB (fun _ _ k => z_cst hB k) (fun hB => ?_)
    refine q_s hB (fun _ _ k => x_newa hB hll (by omega) (jn_ok (by omega) (by omega)) k) (fun hB => ?_)
    rw [jn_n (by omega)]
    refine q_s hB (fun _ _ k => x_dup hB rfl k) (fun hB => ?_)
    refine q_s hB (fun _ _ k => z_cst hB k) (fun hB => ?_)
    refine q_s hB (fun _ _ k => z_iload hB rfl k) (fun hB => ?_)
    refine q_s hB (fun _ _ k => z_cst hB k) (fun hB => ?_)
    refine q_s hB (fun _ _ k => z_iand hB k) (fun hB => ?_)
    rw [e0]
    refine q_s hB (fun _ _ k => x_iast hB (Nat.lt_succ_self _) (by exact nw_K) (by rw [nw_L]; exact jn_ok (by omega) (by omega)) k) (fun hB => ?_)
    rw [jn_n (by omega)]
    refine q_s hB (fun _ _ k => x_dup hB rfl k) (fun hB => ?_)
    refine q_s hB (fun _ _ k => z_cst hB k) (fun hB => ?_)
    refine q_s hB (fun _ _ k => z_cst hB k) (fun hB => ?_)
    refine q_s hB (fun _ _ k => z_iload hB rfl k) (fun hB => ?_)
    refine q_s hB (fun _ _ k => z_cst hB k) (fun hB => ?_)
    refine q_s hB (fun _ _ k => z_iushr hB k) (fun hB => ?_)
    refine q_s hB (fun _ _ k => z_cst hB k) (fun hB => ?_)
    refine q_s hB (fun _ _ k => z_iand hB k) (fun hB => ?_)
    rw [e1]
    refine q_s hB (fun _ _ k => z_iadd hB k) (fun hB => ?_)
    rw [jn_add]
    refine q_s hB (fun _ _ k => x_iast hB (Nat.lt_succ_self _) (by rw [xI_K]; exact nw_K) (by rw [xI_L, nw_L]; exact jn_ok (by omega) (by omega)) k) (fun hB => ?_)
    rw [jn_n (by omega)]
    refine q_s hB (fun _ _ k => x_dup hB rfl k) (fun hB => ?_)
    refine q_s hB (fun _ _ k => z_cst hB k) (fun hB => ?_)
    refine q_s hB (fun _ _ k => z_iload hB rfl k) (fun hB => ?_)
    refine q_s hB (fun _ _ k => z_cst hB k) (fun hB => ?_)
    refine q_s hB (fun _ _ k => z_iushr hB k) (fun hB => ?_)
    refine q_s hB (fun _ _ k => z_cst hB k) (fun hB => ?_)
    refine q_s hB (fun _ _ k => z_iand hB k) (fun hB => ?_)
    rw [e2]
    refine q_s hB (fun _ _ k => x_iast hB (Nat.lt_succ_self _) (by rw [xI_K, xI_K]; exact nw_K) (by rw [xI_L, xI_L, nw_L]; exact jn_ok (by omega) (by omega)) k) (fun hB => ?_)
    rw [jn_n (by omega)]
    refine q_s hB (fun _ _ k => x_dup hB rfl k) (fun hB => ?_)
    refine q_s hB (fun _ _ k => z_cst hB k) (fun hB => ?_)
    refine q_s hB (fun _ _ k => z_cst hB k) (fun hB => ?_)
    refine q_s hB (fun _ _ k => x_iast hB (Nat.lt_succ_self _) (by rw [xI_K, xI_K, xI_K]; exact nw_K) (by rw [xI_L, xI_L, xI_L, nw_L]; exact jn_ok (by omega) (by omega)) k) (fun hB => ?_)
    rw [jn_n (by omega)]
    refine q_s hB (fun _ _ k => x_aastI hB (Nat.lt_succ_of_lt hN.1) (Nat.lt_succ_self _) (by rw [xI_K, xI_K, xI_K, xI_K, nw_Kb hN.1]; exact hN.2.1) (by rw [xI_K, xI_K, xI_K, xI_K]; exact nw_K) (by rw [xI_L, xI_L, xI_L, xI_L, nw_Lb hN.1, hN.2.2]; exact jn_ok (by omega) (by omega)) k) (fun hB => ?_)
    rw [jn_n (by omega)]
    refine q_s hB (fun _ _ k => z_iinc hB rfl rfl k) (fun hB => ?_)
    rw [jn_add]
    refine q_s hB (fun _ _ k => z_goto hB k) (fun hB => ?_)
    have nan : ¬ na = w_n w := Nat.ne_of_lt hna
    have F1 : FR (fun _ => False) w (w_nw w 10 4) := FR_nw (by omega) (by omega)
    have F2 : FR (fun x => x = w_n w) (w_nw w 10 4) (w_sI (w_sI (w_sI (w_sI (w_nw w 10 4) (w_n w) 0 (jn q0)) (w_n w) 1 (jn (1 + q1))) (w_n w) 2 (jn q2)) (w_n w) 3 (jg 1)) :=
      (FR_I (by omega)).tr ((FR_I (by omega)).tr ((FR_I (by omega)).tr (FR_I (by omega)) (fun _ _ q => q) (fun _ _ q => q)) (fun _ _ q => q) (fun _ _ q => q)) (fun _ _ q => q) (fun _ _ q => q)
    have F3 := F1.tr (F2.tr (FR_R (a := na) (i := i) (x := some (w_n w))) (Z := fun x => x = na ∨ x = w_n w) (fun _ _ q => Or.inr q) (fun _ _ q => Or.inl q)) (Z := fun x => x = na) (fun _ _ q => q.elim) (fun x hx q => by rcases q with q | q; exact q; omega)
    refine ih (i + 1) (w := w_sR (w_sI (w_sI (w_sI (w_sI (w_nw w 10 4) (w_n w) 0 (jn q0)) (w_n w) 1 (jn (1 + q1))) (w_n w) 2 (jn q2)) (w_n w) 3 (jg 1)) na i (some (w_n w))) (by omega) (Nat.le_trans (Nat.le_of_eq F3.SL) hL) ⟨Nat.lt_succ_of_lt hd.1, (F3.K hd.1).trans hd.2⟩ ((congrFun (F3.R hd.1 (fun q => by rw [q] at hd; have := hd.2.symm.trans hN.2.1; omega)) 10).trans hr) ⟨Nat.lt_succ_of_lt hna, (F3.K hna).trans hN.2.1, (F3.L hna).trans hN.2.2⟩ ⟨F3.l.trans hll, by show w_n w + 1 + k ≤ 1000; omega⟩ (fun n hi9 => ?_) (fun w' y4 F e9 h9 => fin w' y4 (F3.tr F (fun _ _ q => q) (fun _ _ q => q)) (by rw [e9]; show w_n w + 1 + k = _; omega) h9)
    by_cases q9 : n = i
    · refine ⟨w_n w, by rw [q9, sR_at], ⟨Nat.lt_succ_self _, by rw [xR_K, xI_K, xI_K, xI_K, xI_K]; exact nw_K, by rw [xR_L, xI_L, xI_L, xI_L, xI_L]; exact nw_L⟩, ?_, ?_, ?_⟩
      · rw [xR_I, sI_ne (by omega), sI_ne (by omega), sI_ne (by omega), sI_at]
        exact ⟨q0, by omega, hq0, rfl⟩
      · rw [xR_I, sI_ne (by omega), sI_ne (by omega), sI_at]
        exact ⟨1 + q1, by omega, by omega, rfl⟩
      · rw [xR_I, sI_ne (by omega), sI_at]
        exact ⟨q2, by omega, hq2, rfl⟩
    · refine (hv n (by omega)).fr F3 (fun x q => by rw [q, hN.2.1]; omega) ?_
      rw [sR_ni q9, xI_R, xI_R, xI_R, xI_R, nw_Rb hna]
/-- a flag's numbers: nation, own colours, care, dirt, tub -/
def FG (w : ev_W) (f C N : Nat) : Prop := (f < w_n w ∧ w_K w f = 16) ∧ jgr (w_I w f 0) 0 (N - 1) ∧ jgr (w_I w f 1) 1 (2 ^ C - 1) ∧ jgr (w_I w f 2) 0 3 ∧ jgr (w_I w f 3) 0 5 ∧ w_I w f 8 = jg 1
theorem FG.fr {X : Nat → Prop} {w w1 : ev_W} {f C N : Nat} (S : FG w f C N) (F : FR X w w1) (h : ∀ x, X x → ¬ w_K w x = 16) : FG w1 f C N := by
  obtain ⟨⟨h1, h2⟩, h3⟩ := S
  have hI := F.I h1 (fun q => h f q h2)
  refine ⟨⟨Nat.lt_of_lt_of_le h1 F.n, (F.K h1).trans h2⟩, ?_⟩
  rw [hI]; exact h3
theorem n_dk4 {G : z_G} (hl : G.2.2.stackTraces = false) {P : Option Value → ev_W → Prop} {d na ru al C N F : Nat} {v : Int32} (hC : 1 ≤ C ∧ C ≤ 4) (hN0 : 1 ≤ N ∧ N ≤ 2) (hF : F ≤ 4) : ∀ (k i : Nat) {w : ev_W} {x5 x6 : Option Value} {ar : Nat} {fs : List Nat}, i + k = F → w_L w ev_S ≤ 1000 → (d < w_n w ∧ w_K w d = 8) → (w_R w d 10 = some na ∧ w_R w d 8 = some ru ∧ w_R w d 11 = some al) → (na < w_n w ∧ w_K w na = 20 ∧ w_L w na = N) → RWs w ru C → (w_l w = true ∧ w_n w + 2 * k ≤ 1000) → AL w al ar fs → fs.length = i ∧ fs.Nodup → (∀ f ∈ fs, FG w f C N) → (∀ w' ar' fs' y5 y6, FR (fun x => x = al ∨ (x = ar ∧ ar < w_n w)) w w' → w_n w' ≤ w_n w + 2 * k → AL w' al ar' fs' → fs'.length = F ∧ fs'.Nodup → (∀ f ∈ fs', FG w' f C N) → z_Q G 158 337 [some (.ref ev_S), some (.ref d), some (.int v), some (.int (jn F)), some (.int (jn F)), y5, y6] [] w' P) → z_Q G 158 230 [some (.ref ev_S), some (.ref d), some (.int v), some (.int (jn F)), some (.int (jn i)), x5, x6] [] w P := by
  intro k
  induction k with
  | zero =>
    intro i w x5 x6 ar fs e hL hd hr hN hR hn hA hfl hv fin
    have hfl0 := hfl.1
    have hB : z_all [z_is 158 230 (zf_iload 230 4 232), z_is 158 232 (zf_iload 232 3 233), z_is 158 233 (zf_if2 .ge 233 337 236)] = true := by decide +kernel
    refine q_s hB (fun _ _ k => z_iload hB rfl k) (fun hB => ?_)
    refine q_s hB (fun _ _ k => z_iload hB rfl k) (fun hB => ?_)
    refine q_s hB (fun _ _ k => z_ic_ge hB (fun _ => k) (fun h _ => absurd h ((by rw [jn_lt (by omega) (by omega)]; omega)))) (fun hB => ?_)
    have e2 : i = F := by omega
    rw [e2]
    exact fin w ar fs x5 x6 FR.rf (by omega) hA ⟨by omega, hfl.2⟩ hv
  | succ k ih =>
    intro i w x5 x6 ar fs e hL hd hr hN hR hn hA hfl hv fin
    have hfl0 := hfl.1
    have hi4 : i < 4 := by omega
    have hll := hn.1
    have hn8 := hn.2
    have hal := hA.1.1
    have F1 : FR (fun _ => False) w (w_nw w 16 12) := FR_nw (by omega) (by omega)
    have k0 := n_k (n_flag (w := w_nw w 16 12) hl (a := w_n w) (Nat.lt_succ_self _) (nw_K (w := w) (k := 16) (n := 12)))
    obtain ⟨q0, hq0, e0⟩ := jandr (a := 1) (by omega) (sc w (4 + i))
    obtain ⟨q1, hq1, e1⟩ := jandr (a := 15) (by omega) ((sc w (4 + i)).toUInt32 >>> ((jn 1).toUInt32 &&& Int32.toUInt32 31)).toInt32
    obtain ⟨q2, hq2, e2⟩ := jandr (a := 3) (by omega) ((sc w (4 + i)).toUInt32 >>> ((jn 5).toUInt32 &&& Int32.toUInt32 31)).toInt32
    obtain ⟨q3, hq3, e3⟩ := jandr (a := 7) (by omega) ((sc w (4 + i)).toUInt32 >>> ((jn 7).toUInt32 &&& Int32.toUInt32 31)).toInt32
    have e6 : jn q3 - jn q3 / jn 6 * jn 6 = jn (q3 % 6) := jm6 ⟨q3, by omega⟩
    have n0 := jmN ⟨q0, by omega⟩ ⟨N - 1, by omega⟩
    dsimp only at n0
    rw [show N - 1 + 1 = N by omega] at n0
    obtain ⟨n1, n2⟩ := n0
    have c0 := jmC ⟨q1, by omega⟩ ⟨C - 1, by omega⟩
    dsimp only at c0
    rw [show C - 1 + 1 = C by omega] at c0
    obtain ⟨c1, c2⟩ := c0
    have m1 : q0 % N < N := Nat.mod_lt _ (by omega)
    have p2 : 2 ^ 1 ≤ 2 ^ C := Nat.pow_le_pow_right (by omega) hC.1
    have m2 : q1 % (2 ^ C - 1) < 2 ^ C - 1 := Nat.mod_lt _ (by omega)
    have F2 : FR (fun x => x = w_n w) (w_nw w 16 12) (w_sI (w_sI (w_sI (w_sI (w_sI (w_sI (w_nw w 16 12) (w_n w) 8 (jg 1)) (w_n w) 9 (jg 1)) (w_n w) 0 (jn (q0 % N))) (w_n w) 1 (jn (1 + q1 % (2 ^ C - 1)))) (w_n w) 2 (jn q2)) (w_n w) 3 (jn (q3 % 6))) :=
      (FR_I (by omega)).tr ((FR_I (by omega)).tr ((FR_I (by omega)).tr ((FR_I (by omega)).tr ((FR_I (by omega)).tr (FR_I (by omega)) (fun _ _ q => q) (fun _ _ q => q)) (fun _ _ q => q) (fun _ _ q => q)) (fun _ _ q => q) (fun _ _ q => q)) (fun _ _ q => q) (fun _ _ q => q)) (fun _ _ q => q) (fun _ _ q => q)
    have F3 := F1.tr F2 (Z := fun _ => False) (fun _ _ q => q) (fun x hx q => by omega)
    have A3 := hA.fr F3 (fun q => q) (fun _ q => q)
    obtain ⟨v6, w6, k6, rfl, d6, A6, F6, n6, o6, l6⟩ := n_add hl A3 (x := w_n w) (Nat.lt_succ_self _) (by rw [xI_K, xI_K, xI_K, xI_K, xI_K, xI_K]; exact nw_K) (by omega) hll (by show w_n w + 1 < 1000; omega)
    have n7 : w_n w6 ≤ w_n w + 1 + 1 := n6
    have F4 := F3.tr F6 (Z := fun x => x = al ∨ (x = ar ∧ ar < w_n w)) (fun _ _ q => q.elim) (fun x hx q => by rcases q with q | q; exact Or.inl q; exact Or.inr ⟨q.1, by omega⟩)
    have hB : z_all [z_is 158 230 (zf_iload 230 4 232), z_is 158 232 (zf_iload 232 3 233), z_is 158 233 (zf_if2 .ge 233 337 236), z_is 158 236 (zf_aload 236 0 237), z_is 158 237 (zf_cst 237 (jn 4) 238), z_is 158 238 (zf_iload 238 4 240), z_is 158 240 (zf_iadd 240 241), z_is 158 241 (zf_cs 241 157 2 244), z_is 158 244 (zf_istore 244 5 246), z_at 158 246 (zx_new 246 16 12 249), z_at 158 249 (zx_dup 249 250), z_at 158 250 (zx_cN 250 153 0 253), z_is 158 253 (zf_astore 253 6 255), z_is 158 255 (zf_aload 255 6 257), z_is 158 257 (zf_iload 257 5 259), z_is 158 259 (zf_cst 259 (jn 1) 260), z_is 158 260 (zf_iand 260 261), z_is 158 261 (zf_aload 261 1 262), z_at 158 262 (zf_gr 262 8 10 265), z_at 158 265 (zx_alen2 265 266), z_is 158 266 (zf_irem 266 267), z_at 158 267 (zf_pi 267 16 0 270), z_is 158 270 (zf_aload 270 6 272), z_is 158 272 (zf_cst 272 (jn 1) 273), z_is 158 273 (zf_iload 273 5 275), z_is 158 275 (zf_cst 275 (jn 1) 276), z_at 158 276 (zf_iushr 276 277), z_is 158 277 (zf_cst 277 (jn 15) 279), z_is 158 279 (zf_iand 279 280), z_is 158 280 (zf_cst 280 (jn 1) 281), z_is 158 281 (zf_aload 281 1 282), z_at 158 282 (zf_gr 282 8 8 285), z_at 158 285 (zx_alen 285 286), z_is 158 286 (zf_ishl 286 287), z_is 158 287 (zf_cst 287 (jn 1) 288), z_is 158 288 (zf_isub 288 289), z_is 158 289 (zf_irem 289 290), z_is 158 290 (zf_iadd 290 291), z_at 158 291 (zf_pi 291 16 1 294), z_is 158 294 (zf_aload 294 6 296), z_is 158 296 (zf_iload 296 5 298), z_is 158 298 (zf_cst 298 (jn 5) 299), z_at 158 299 (zf_iushr 299 300), z_is 158 300 (zf_cst 300 (jn 3) 301), z_is 158 301 (zf_iand 301 302), z_at 158 302 (zf_pi 302 16 2 305), z_is 158 305 (zf_aload 305 6 307), z_is 158 307 (zf_iload 307 5 309), z_is 158 309 (zf_cst 309 (jn 7) 311), z_at 158 311 (zf_iushr 311 312), z_is 158 312 (zf_cst 312 (jn 7) 314), z_is 158 314 (zf_iand 314 315), z_is 158 315 (zf_cst 315 (jn 6) 317), z_is 158 317 (zf_irem 317 318), z_at 158 318 (zf_pi 318 16 3 321), z_is 158 321 (zf_aload 321 1 322), z_at 158 322 (zf_gr 322 8 11 325), z_is 158 325 (zf_aload 325 6 327), z_is 158 327 (zf_cv 327 164 1 17 330), z_at 158 330 (zx_pop 330 331), z_is 158 331 (zf_iinc 331 4 (jn 1) 334), z_is 158 334 (zf_goto 334 230)] = true := by decide +kernel
    refine q_s hB (fun _ _ k => z_iload hB rfl k) (fun hB => ?_)
    refine q_s hB (fun _ _ k => z_iload hB rfl k) (fun hB => ?_)
    refine q_s hB (fun _ _ k => z_ic_ge hB (fun h _ => absurd ((by rw [jn_lt (by omega) (by omega)]; omega)) h) (fun _ => k)) (fun hB => ?_)
    refine q_s hB (fun _ _ k => z_aload hB rfl k) (fun hB => ?_)
    refine q_s hB (fun _ _ k => z_cst hB k) (fun hB => ?_)
    refine q_s hB (fun _ _ k => z_iload hB rfl k) (fun hB => ?_)
    refine q_s hB (fun _ _ k => z_iadd hB k) (fun hB => ?_)
    rw [jn_add]
    refine q_s hB (fun _ _ k => z_callS hB (rest := []) rfl rfl rfl (n_cell hl hL (k := 4 + i) (by omega)) k) (fun hB => ?_)
    refine q_s hB (fun _ _ k => z_istore hB rfl rfl k) (fun hB => ?_)
    refine q_s hB (fun _ _ k => x_new hB hll (by omega) k) (fun hB => ?_)
    refine q_s hB (fun _ _ k => x_dup hB rfl k) (fun hB => ?_)
    refine q_s hB (fun _ _ k => x_cN hB (rest := [.ref (w_n w)]) rfl rfl rfl (Nat.lt_succ_self _) k0 k) (fun hB => ?_)
    refine q_s hB (fun _ _ k => z_astore hB rfl rfl k) (fun hB => ?_)
    refine q_s hB (fun _ _ k => z_aload hB rfl k) (fun hB => ?_)
    refine q_s hB (fun _ _ k => z_iload hB rfl k) (fun hB => ?_)
    refine q_s hB (fun _ _ k => z_cst hB k) (fun hB => ?_)
    refine q_s hB (fun _ _ k => z_iand hB k) (fun hB => ?_)
    rw [e0]
    refine q_s hB (fun _ _ k => z_aload hB rfl k) (fun hB => ?_)
    refine q_s hB (fun _ _ k => x_getr hB (Nat.lt_succ_of_lt hd.1) (by rw [xI_K, xI_K, nw_Kb hd.1]; exact hd.2) (by rw [xI_R, xI_R, nw_Rb hd.1]; exact hr.1) k) (fun hB => ?_)
    refine q_s hB (fun _ _ k => x_alen2 hB (Nat.lt_succ_of_lt hN.1) (by rw [xI_K, xI_K, nw_Kb hN.1]; exact hN.2.1) k) (fun hB => ?_)
    rw [xI_L, xI_L, nw_Lb hN.1, hN.2.2, show Int32.ofNat N = jn N from rfl]
    refine q_s hB (fun _ _ k => z_irem hB n1 k) (fun hB => ?_)
    rw [n2]
    refine q_s hB (fun _ _ k => x_puti hB (Nat.lt_succ_self _) (by rw [xI_K, xI_K]; exact nw_K) k) (fun hB => ?_)
    refine q_s hB (fun _ _ k => z_aload hB rfl k) (fun hB => ?_)
    refine q_s hB (fun _ _ k => z_cst hB k) (fun hB => ?_)
    refine q_s hB (fun _ _ k => z_iload hB rfl k) (fun hB => ?_)
    refine q_s hB (fun _ _ k => z_cst hB k) (fun hB => ?_)
    refine q_s hB (fun _ _ k => z_iushr hB k) (fun hB => ?_)
    refine q_s hB (fun _ _ k => z_cst hB k) (fun hB => ?_)
    refine q_s hB (fun _ _ k => z_iand hB k) (fun hB => ?_)
    rw [e1]
    refine q_s hB (fun _ _ k => z_cst hB k) (fun hB => ?_)
    refine q_s hB (fun _ _ k => z_aload hB rfl k) (fun hB => ?_)
    refine q_s hB (fun _ _ k => x_getr hB (Nat.lt_succ_of_lt hd.1) (by rw [xI_K, xI_K, xI_K, nw_Kb hd.1]; exact hd.2) (by rw [xI_R, xI_R, xI_R, nw_Rb hd.1]; exact hr.2.1) k) (fun hB => ?_)
    refine q_s hB (fun _ _ k => x_alen hB (Nat.lt_succ_of_lt hR.1) (by rw [xI_K, xI_K, xI_K, nw_Kb hR.1, hR.2.1]; omega) (by rw [xI_K, xI_K, xI_K, nw_Kb hR.1, hR.2.1]; omega) k) (fun hB => ?_)
    rw [xI_L, xI_L, xI_L, nw_Lb hR.1, hR.2.2, show Int32.ofNat C = jn C from rfl]
    refine q_s hB (fun _ _ k => z_ishl hB k) (fun hB => ?_)
    refine q_s hB (fun _ _ k => z_cst hB k) (fun hB => ?_)
    refine q_s hB (fun _ _ k => z_isub hB k) (fun hB => ?_)
    refine q_s hB (fun _ _ k => z_irem hB c1 k) (fun hB => ?_)
    rw [c2]
    refine q_s hB (fun _ _ k => z_iadd hB k) (fun hB => ?_)
    rw [jn_add]
    refine q_s hB (fun _ _ k => x_puti hB (Nat.lt_succ_self _) (by rw [xI_K, xI_K, xI_K]; exact nw_K) k) (fun hB => ?_)
    refine q_s hB (fun _ _ k => z_aload hB rfl k) (fun hB => ?_)
    refine q_s hB (fun _ _ k => z_iload hB rfl k) (fun hB => ?_)
    refine q_s hB (fun _ _ k => z_cst hB k) (fun hB => ?_)
    refine q_s hB (fun _ _ k => z_iushr hB k) (fun hB => ?_)
    refine q_s hB (fun _ _ k => z_cst hB k) (fun hB => ?_)
    refine q_s hB (fun _ _ k => z_iand hB k) (fun hB => ?_)
    rw [e2]
    refine q_s hB (fun _ _ k => x_puti hB (Nat.lt_succ_self _) (by rw [xI_K, xI_K, xI_K, xI_K]; exact nw_K) k) (fun hB => ?_)
    refine q_s hB (fun _ _ k => z_aload hB rfl k) (fun hB => ?_)
    refine q_s hB (fun _ _ k => z_iload hB rfl k) (fun hB => ?_)
    refine q_s hB (fun _ _ k => z_cst hB k) (fun hB => ?_)
    refine q_s hB (fun _ _ k => z_iushr hB k) (fun hB => ?_)
    refine q_s hB (fun _ _ k => z_cst hB k) (fun hB => ?_)
    refine q_s hB (fun _ _ k => z_iand hB k) (fun hB => ?_)
    rw [e3]
    refine q_s hB (fun _ _ k => z_cst hB k) (fun hB => ?_)
    refine q_s hB (fun _ _ k => z_irem hB (by decide) k) (fun hB => ?_)
    rw [e6]
    refine q_s hB (fun _ _ k => x_puti hB (Nat.lt_succ_self _) (by rw [xI_K, xI_K, xI_K, xI_K, xI_K]; exact nw_K) k) (fun hB => ?_)
    refine q_s hB (fun _ _ k => z_aload hB rfl k) (fun hB => ?_)
    refine q_s hB (fun _ _ k => x_getr hB (Nat.lt_succ_of_lt hd.1) (by rw [xI_K, xI_K, xI_K, xI_K, xI_K, xI_K, nw_Kb hd.1]; exact hd.2) (by rw [xI_R, xI_R, xI_R, xI_R, xI_R, xI_R, nw_Rb hd.1]; exact hr.2.2) k) (fun hB => ?_)
    refine q_s hB (fun _ _ k => z_aload hB rfl k) (fun hB => ?_)
    refine q_s hB (fun _ _ k => z_callV hB (rest := []) rfl rfl rfl (Nat.lt_succ_of_lt hA.1.1) (by rw [xI_K, xI_K, xI_K, xI_K, xI_K, xI_K, nw_Kb hA.1.1]; exact hA.1.2) k6 k) (fun hB => ?_)
    refine q_s hB (fun _ _ k => x_pop hB rfl k) (fun hB => ?_)
    refine q_s hB (fun _ _ k => z_iinc hB rfl rfl k) (fun hB => ?_)
    rw [jn_add]
    refine q_s hB (fun _ _ k => z_goto hB k) (fun hB => ?_)
    have hdn : ¬ (d = al ∨ (d = ar ∧ ar < w_n w)) := fun q => by
      rcases q with q | q
      · have h9 := hA.1.2; rw [← q, hd.2] at h9; omega
      · rcases hA.2.2 with q9 | q9
        · have h8 := q.2; rw [q9.2] at h8; unfold ev_S at h8; omega
        · have h9 := q9.2.1; rw [← q.1, hd.2] at h9; omega
    have hR4 := F4.R hd.1 hdn
    have hXK : ∀ x, (x = al ∨ (x = ar ∧ ar < w_n w)) → ¬ w_K w x = 16 := fun x q => by
      rcases q with q | q
      · rw [q, hA.1.2]; omega
      · rcases hA.2.2 with q9 | q9
        · have h8 := q.2; rw [q9.2] at h8; unfold ev_S at h8; omega
        · rw [q.1, q9.2.1]; omega
    have hn6 : w_n w < w_n w6 := Nat.lt_of_lt_of_le (Nat.lt_succ_self _) F6.n
    refine ih (i + 1) (w := w6) (ar := d6) (fs := fs ++ [w_n w]) (by omega) (Nat.le_trans (Nat.le_of_eq F4.SL) hL) ⟨Nat.lt_trans hd.1 hn6, (F4.K hd.1).trans hd.2⟩ ⟨(congrFun hR4 10).trans hr.1, (congrFun hR4 8).trans hr.2.1, (congrFun hR4 11).trans hr.2.2⟩ ⟨Nat.lt_trans hN.1 hn6, (F4.K hN.1).trans hN.2.1, (F4.L hN.1).trans hN.2.2⟩ (hR.fr F4) ⟨F4.l.trans hll, by omega⟩ A6 ⟨by rw [List.length_append, hfl0]; rfl, List.nodup_append.mpr ⟨hfl.2, List.nodup_cons.mpr ⟨List.not_mem_nil, List.nodup_nil⟩, fun x hx y hy q => by rw [List.mem_singleton.mp hy] at q; have := (hv x hx).1.1; omega⟩⟩ (fun f hf => ?_) (fun w' ar' fs' y5 y6 F e9 a9 l9 h9 => fin w' ar' fs' y5 y6 (F4.tr F (fun _ _ q => q) (fun x hx q => by
      rcases q with q | q
      · exact Or.inl q
      · rcases o6 with o6 | o6
        · exact Or.inr ⟨q.1.trans o6, by omega⟩
        · have o7 : w_n w + 1 ≤ d6 := o6
          omega)) (by omega) a9 l9 h9)
    rcases List.mem_append.mp hf with hf | hf
    · exact (hv f hf).fr F4 hXK
    · rw [List.mem_singleton.mp hf]
      have hnx : ¬ (w_n w = al ∨ (w_n w = ar ∧ ar < w_n w + 1)) := fun q => by
        rcases q with q | q
        · omega
        · rcases A3.2.2 with q9 | q9
          · have h8 := q.2; rw [q9.2] at h8; unfold ev_S at h8; omega
          · have h9 := q9.2.1; rw [← q.1, xI_K, xI_K, xI_K, xI_K, xI_K, xI_K, nw_K] at h9; omega
      have hI6 := F6.I (a := w_n w) (Nat.lt_succ_self _) hnx
      refine ⟨⟨hn6, (F6.K (a := w_n w) (Nat.lt_succ_self _)).trans (by rw [xI_K, xI_K, xI_K, xI_K, xI_K, xI_K]; exact nw_K)⟩, ?_⟩
      rw [hI6]
      refine ⟨⟨q0 % N, by omega, by omega, ?_⟩, ⟨1 + q1 % (2 ^ C - 1), by omega, by omega, ?_⟩, ⟨q2, by omega, by omega, ?_⟩, ⟨q3 % 6, by omega, by omega, ?_⟩, ?_⟩
      · rw [sI_ne (by omega), sI_ne (by omega), sI_ne (by omega), sI_at]
      · rw [sI_ne (by omega), sI_ne (by omega), sI_at]
      · rw [sI_ne (by omega), sI_at]
      · rw [sI_at]
      · rw [sI_ne (by omega), sI_ne (by omega), sI_ne (by omega), sI_ne (by omega), sI_ne (by omega), sI_at]
/-- the law's desk -/
def DK (w : ev_W) (d al ar ru na ro C N T : Nat) (fs : List Nat) : Prop := ((d < w_n w ∧ w_K w d = 8) ∧ jgr (w_I w d 0) 1 4 ∧ jgr (w_I w d 2) 0 9) ∧ (w_R w d 8 = some ru ∧ w_R w d 9 = some ro ∧ w_R w d 10 = some na ∧ w_R w d 11 = some al) ∧ ((1 ≤ C ∧ C ≤ 4) ∧ (1 ≤ N ∧ N ≤ 2) ∧ (1 ≤ T ∧ T ≤ 2) ∧ (1 ≤ fs.length ∧ fs.length ≤ 4) ∧ fs.Nodup) ∧ (RWs w ru C ∧ ∀ c, c < C → jgr (w_I w ru c) 0 4) ∧ (RWs w ro T ∧ ∀ t, t < T → jgr (w_I w ro t) 1 4) ∧ ((na < w_n w ∧ w_K w na = 20 ∧ w_L w na = N) ∧ ∀ n, n < N → NR w na n) ∧ AL w al ar fs ∧ ∀ f ∈ fs, FG w f C N
theorem n_desk {G : z_G} {w : ev_W} (hl : G.2.2.stackTraces = false) (hL : w_L w ev_S ≤ 1000) (hll : w_l w = true) (hn : w_n w + 24 ≤ 1000) : z_N G 158 [.ref ev_S] w (fun v w1 => ∃ d al ar ru na ro C N T fs, v = some (.ref d) ∧ DK w1 d al ar ru na ro C N T fs ∧ FR (fun _ => False) w w1 ∧ w_n w1 ≤ w_n w + 24) := by
  refine q_con hl (ml := 7) (by decide +kernel) rfl rfl ?_
  obtain ⟨q0, hq0, e0⟩ := jandr (a := 3) (by omega) (sc w 0)
  obtain ⟨q1, hq1, e1⟩ := jandr (a := 3) (by omega) ((sc w 0).toUInt32 >>> ((jn 2).toUInt32 &&& Int32.toUInt32 31)).toInt32
  obtain ⟨q2, hq2, e2⟩ := jandr (a := 1) (by omega) ((sc w 0).toUInt32 >>> ((jn 4).toUInt32 &&& Int32.toUInt32 31)).toInt32
  obtain ⟨q3, hq3, e3⟩ := jandr (a := 1) (by omega) ((sc w 0).toUInt32 >>> ((jn 5).toUInt32 &&& Int32.toUInt32 31)).toInt32
  obtain ⟨q4, hq4, e4⟩ := jandr (a := 15) (by omega) ((sc w 0).toUInt32 >>> ((jn 10).toUInt32 &&& Int32.toUInt32 31)).toInt32
  obtain ⟨q5, hq5, e5⟩ := jandr (a := 3) (by omega) ((sc w 0).toUInt32 >>> ((jn 14).toUInt32 &&& Int32.toUInt32 31)).toInt32
  have e6 : jn q4 - jn q4 / jn 10 * jn 10 = jn (q4 % 10) := jm10 ⟨q4, by omega⟩
  have F0 : FR (fun _ => False) w (w_nw w 8 12) := FR_nw (by omega) (by omega)
  obtain ⟨v1, w1, k1, rfl, A1, R1, F1, n1⟩ := n_desk0 (w := w_nw w 8 12) hl (a := w_n w) (Nat.lt_succ_self _) (nw_K (w := w) (k := 8) (n := 12)) hll (by show w_n w + 1 < 1000; omega)
  have n1b : w_n w1 = w_n w + 2 := n1
  have A1 : AL w1 (w_n w + 1) (ev_S + 100) [] := A1
  have R1 : w_R w1 (w_n w) 11 = some (w_n w + 1) := R1
  have G1 := F0.tr F1 (Z := fun _ => False) (fun _ _ q => q) (fun x hx q => by omega)
  have kd1 : w_K w1 (w_n w) = 8 := (F1.K (a := w_n w) (Nat.lt_succ_self _)).trans (nw_K (w := w) (k := 8) (n := 12))
  have hd1 : w_n w < w_n w1 := by omega
  have hS1 : ∀ k, sc w1 k = sc w k := sc_fr G1
  have l1 := G1.l.trans hll
  have L1 := Nat.le_trans (Nat.le_of_eq G1.SL) hL
  have hB : z_all [z_at 158 0 (zx_new 0 8 12 3), z_at 158 3 (zx_dup 3 4), z_at 158 4 (zx_cN 4 148 0 7), z_is 158 7 (zf_astore 7 1 8), z_is 158 8 (zf_aload 8 0 9), z_is 158 9 (zf_cst 9 (jn 0) 10), z_is 158 10 (zf_cs 10 157 2 13), z_is 158 13 (zf_istore 13 2 14), z_is 158 14 (zf_aload 14 1 15), z_is 158 15 (zf_cst 15 (jn 1) 16), z_is 158 16 (zf_iload 16 2 17), z_is 158 17 (zf_cst 17 (jn 3) 18), z_is 158 18 (zf_iand 18 19), z_is 158 19 (zf_iadd 19 20), z_at 158 20 (zf_pi 20 8 0 23), z_is 158 23 (zf_aload 23 1 24), z_is 158 24 (zf_cst 24 (jn 1) 25), z_is 158 25 (zf_iload 25 2 26), z_is 158 26 (zf_cst 26 (jn 2) 27), z_at 158 27 (zf_iushr 27 28), z_is 158 28 (zf_cst 28 (jn 3) 29), z_is 158 29 (zf_iand 29 30), z_is 158 30 (zf_iadd 30 31), z_at 158 31 (zx_newa 31 10 33), z_at 158 33 (zf_pr 33 8 8 36), z_is 158 36 (zf_cst 36 (jn 0) 37), z_is 158 37 (zf_istore 37 3 38)] = true := by decide +kernel
  refine q_s hB (fun _ _ k => x_new hB hll (by omega) k) (fun hB => ?_)
  refine q_s hB (fun _ _ k => x_dup hB rfl k) (fun hB => ?_)
  refine q_s hB (fun _ _ k => x_cN hB (rest := [.ref (w_n w)]) rfl rfl rfl (Nat.lt_succ_self _) k1 k) (fun hB => ?_)
  refine q_s hB (fun _ _ k => z_astore hB rfl rfl k) (fun hB => ?_)
  refine q_s hB (fun _ _ k => z_aload hB rfl k) (fun hB => ?_)
  refine q_s hB (fun _ _ k => z_cst hB k) (fun hB => ?_)
  refine q_s hB (fun _ _ k => z_callS hB (rest := []) rfl rfl rfl (n_cell hl L1 (k := 0) (by omega)) k) (fun hB => ?_)
  rw [hS1]
  refine q_s hB (fun _ _ k => z_istore hB rfl rfl k) (fun hB => ?_)
  refine q_s hB (fun _ _ k => z_aload hB rfl k) (fun hB => ?_)
  refine q_s hB (fun _ _ k => z_cst hB k) (fun hB => ?_)
  refine q_s hB (fun _ _ k => z_iload hB rfl k) (fun hB => ?_)
  refine q_s hB (fun _ _ k => z_cst hB k) (fun hB => ?_)
  refine q_s hB (fun _ _ k => z_iand hB k) (fun hB => ?_)
  rw [e0]
  refine q_s hB (fun _ _ k => z_iadd hB k) (fun hB => ?_)
  rw [jn_add]
  refine q_s hB (fun _ _ k => x_puti hB hd1 kd1 k) (fun hB => ?_)
  refine q_s hB (fun _ _ k => z_aload hB rfl k) (fun hB => ?_)
  refine q_s hB (fun _ _ k => z_cst hB k) (fun hB => ?_)
  refine q_s hB (fun _ _ k => z_iload hB rfl k) (fun hB => ?_)
  refine q_s hB (fun _ _ k => z_cst hB k) (fun hB => ?_)
  refine q_s hB (fun _ _ k => z_iushr hB k) (fun hB => ?_)
  refine q_s hB (fun _ _ k => z_cst hB k) (fun hB => ?_)
  refine q_s hB (fun _ _ k => z_iand hB k) (fun hB => ?_)
  rw [e1]
  refine q_s hB (fun _ _ k => z_iadd hB k) (fun hB => ?_)
  rw [jn_add]
  refine q_s hB (fun _ _ k => x_newa hB l1 (by show w_n w1 < 1000; omega) (jn_ok (by omega) (by omega)) k) (fun hB => ?_)
  rw [jn_n (by omega), xI_n]
  refine q_s hB (fun _ _ k => x_putr hB (show w_n w < w_n w1 + 1 by omega) ((nw_Kb (w := w_sI w1 (w_n w) 0 (jn (1 + q0))) (k := 10) (n := 1 + q1) hd1).trans kd1) k) (fun hB => ?_)
  refine q_s hB (fun _ _ k => z_cst hB k) (fun hB => ?_)
  refine q_s hB (fun _ _ k => z_istore hB rfl rfl k) (fun hB => ?_)
  have FA1 : FR (fun x => x = w_n w) w1 (w_sI w1 (w_n w) 0 (jn (1 + q0))) := FR_I (by omega)
  have FA2 : FR (fun _ => False) (w_sI w1 (w_n w) 0 (jn (1 + q0))) (w_nw (w_sI w1 (w_n w) 0 (jn (1 + q0))) 10 (1 + q1)) := FR_nw (by show w_n w1 < 1001; omega) (by omega)
  have FA := FA1.tr (FA2.tr (FR_R (a := w_n w) (i := 8) (x := some (w_n w1))) (Z := fun x => x = w_n w) (fun _ _ q => q.elim) (fun _ _ q => q)) (Z := fun x => x = w_n w) (fun _ _ q => q) (fun _ _ q => q)
  have nA : w_n (w_sR (w_nw (w_sI w1 (w_n w) 0 (jn (1 + q0))) 10 (1 + q1)) (w_n w) 8 (some (w_n w1))) = w_n w + 3 := by show w_n w1 + 1 = _; omega
  have r8A : w_R (w_sR (w_nw (w_sI w1 (w_n w) 0 (jn (1 + q0))) 10 (1 + q1)) (w_n w) 8 (some (w_n w1))) (w_n w) 8 = some (w_n w1) := sR_at
  have r11A : w_R (w_sR (w_nw (w_sI w1 (w_n w) 0 (jn (1 + q0))) 10 (1 + q1)) (w_n w) 8 (some (w_n w1))) (w_n w) 11 = some (w_n w + 1) := by
    rw [sR_ni (by omega)]
    exact (congrFun (nw_Rb (w := w_sI w1 (w_n w) 0 (jn (1 + q0))) (k := 10) (n := 1 + q1) hd1) 11).trans R1
  have iA : w_I (w_sR (w_nw (w_sI w1 (w_n w) 0 (jn (1 + q0))) 10 (1 + q1)) (w_n w) 8 (some (w_n w1))) (w_n w) 0 = jn (1 + q0) :=
    (congrFun (nw_Ib (w := w_sI w1 (w_n w) 0 (jn (1 + q0))) (k := 10) (n := 1 + q1) hd1) 0).trans sI_at
  have uA : RWs (w_sR (w_nw (w_sI w1 (w_n w) 0 (jn (1 + q0))) 10 (1 + q1)) (w_n w) 8 (some (w_n w1))) (w_n w1) (1 + q1) := ⟨Nat.lt_succ_self _, nw_K (w := w_sI w1 (w_n w) 0 (jn (1 + q0))) (k := 10) (n := 1 + q1), nw_L (w := w_sI w1 (w_n w) 0 (jn (1 + q0))) (k := 10) (n := 1 + q1)⟩
  generalize (w_sR (w_nw (w_sI w1 (w_n w) 0 (jn (1 + q0))) 10 (1 + q1)) (w_n w) 8 (some (w_n w1))) = wA at FA nA r8A r11A iA uA ⊢
  have GA := G1.tr FA (Z := fun _ => False) (fun _ _ q => q) (fun x hx q => by omega)
  have dA : w_n w < w_n wA ∧ w_K wA (w_n w) = 8 := ⟨by omega, (FA.K hd1).trans kd1⟩
  have aA := A1.fr FA (by omega) (fun q => by unfold ev_S at q; omega)
  refine n_dk1 hl (C := 1 + q1) (by omega) (1 + q1) 0 (by omega) (Nat.le_trans (Nat.le_of_eq GA.SL) hL) dA r8A uA (by omega) (fun c hc => absurd hc (Nat.not_lt_zero _)) (fun wB FB nB vB => ?_)
  have GB := GA.tr FB (Z := fun _ => False) (fun _ _ q => q) (fun x hx q => by omega)
  have dB : w_n w < w_n wB ∧ w_K wB (w_n w) = 8 := ⟨by omega, (FB.K dA.1).trans dA.2⟩
  have ndB : ¬ w_n w = w_n w1 := by omega
  have iB := (congrFun (FB.I dA.1 ndB) 0).trans iA
  have r8B := (congrFun (FB.R dA.1 ndB) 8).trans r8A
  have r11B := (congrFun (FB.R dA.1 ndB) 11).trans r11A
  have uB := uA.fr FB
  have aB := aA.fr FB (by omega) (fun q => by unfold ev_S at q; omega)
  have lB := GB.l.trans hll
  have hB : z_all [z_is 158 73 (zf_aload 73 1 74), z_is 158 74 (zf_cst 74 (jn 1) 75), z_is 158 75 (zf_iload 75 2 76), z_is 158 76 (zf_cst 76 (jn 4) 77), z_at 158 77 (zf_iushr 77 78), z_is 158 78 (zf_cst 78 (jn 1) 79), z_is 158 79 (zf_iand 79 80), z_is 158 80 (zf_iadd 80 81), z_at 158 81 (zx_anw 81 20 40 84), z_at 158 84 (zf_pr 84 8 10 87), z_is 158 87 (zf_cst 87 (jn 0) 88), z_is 158 88 (zf_istore 88 3 89)] = true := by decide +kernel
  refine q_s hB (fun _ _ k => z_aload hB rfl k) (fun hB => ?_)
  refine q_s hB (fun _ _ k => z_cst hB k) (fun hB => ?_)
  refine q_s hB (fun _ _ k => z_iload hB rfl k) (fun hB => ?_)
  refine q_s hB (fun _ _ k => z_cst hB k) (fun hB => ?_)
  refine q_s hB (fun _ _ k => z_iushr hB k) (fun hB => ?_)
  refine q_s hB (fun _ _ k => z_cst hB k) (fun hB => ?_)
  refine q_s hB (fun _ _ k => z_iand hB k) (fun hB => ?_)
  rw [e2]
  refine q_s hB (fun _ _ k => z_iadd hB k) (fun hB => ?_)
  rw [jn_add]
  refine q_s hB (fun _ _ k => x_anw hB (Or.inr ⟨rfl, rfl, rfl⟩) lB (by omega) (jn_ok (by omega) (by omega)) k) (fun hB => ?_)
  rw [jn_n (by omega)]
  refine q_s hB (fun _ _ k => x_putr hB (Nat.lt_succ_of_lt dB.1) ((nw_Kb (w := wB) (k := 20) (n := 1 + q2) dB.1).trans dB.2) k) (fun hB => ?_)
  refine q_s hB (fun _ _ k => z_cst hB k) (fun hB => ?_)
  refine q_s hB (fun _ _ k => z_istore hB rfl rfl k) (fun hB => ?_)
  have FC1 : FR (fun _ => False) wB (w_nw wB 20 (1 + q2)) := FR_nw (by omega) (by omega)
  have FC0 := FC1.tr (FR_R (a := w_n w) (i := 10) (x := some (w_n wB))) (Z := fun x => x = w_n w) (fun _ _ q => q.elim) (fun _ _ q => q)
  have nC0 : w_n (w_sR (w_nw wB 20 (1 + q2)) (w_n w) 10 (some (w_n wB))) = w_n wB + 1 := rfl
  have r10C0 : w_R (w_sR (w_nw wB 20 (1 + q2)) (w_n w) 10 (some (w_n wB))) (w_n w) 10 = some (w_n wB) := sR_at
  have rC0 : ∀ k, ¬ k = 10 → w_R (w_sR (w_nw wB 20 (1 + q2)) (w_n w) 10 (some (w_n wB))) (w_n w) k = w_R wB (w_n w) k := fun k hk => (sR_ni hk).trans (congrFun (nw_Rb dB.1) k)
  have iC0 : w_I (w_sR (w_nw wB 20 (1 + q2)) (w_n w) 10 (some (w_n wB))) (w_n w) 0 = jn (1 + q0) := (congrFun (nw_Ib (w := wB) (k := 20) (n := 1 + q2) dB.1) 0).trans iB
  have tC0 : w_n wB < w_n (w_sR (w_nw wB 20 (1 + q2)) (w_n w) 10 (some (w_n wB))) ∧ w_K (w_sR (w_nw wB 20 (1 + q2)) (w_n w) 10 (some (w_n wB))) (w_n wB) = 20 ∧ w_L (w_sR (w_nw wB 20 (1 + q2)) (w_n w) 10 (some (w_n wB))) (w_n wB) = 1 + q2 := ⟨Nat.lt_succ_self _, nw_K (w := wB) (k := 20) (n := 1 + q2), nw_L (w := wB) (k := 20) (n := 1 + q2)⟩
  generalize (w_sR (w_nw wB 20 (1 + q2)) (w_n w) 10 (some (w_n wB))) = wC0 at FC0 nC0 r10C0 rC0 iC0 tC0 ⊢
  have GC0 := GB.tr FC0 (Z := fun _ => False) (fun _ _ q => q) (fun x hx q => by omega)
  have dC0 : w_n w < w_n wC0 ∧ w_K wC0 (w_n w) = 8 := ⟨by omega, (FC0.K dB.1).trans dB.2⟩
  refine n_dk2 hl (C := 1 + q2) (by omega) (1 + q2) 0 (by omega) (Nat.le_trans (Nat.le_of_eq GC0.SL) hL) dC0 r10C0 tC0 ⟨GC0.l.trans hll, by omega⟩ (fun n hn9 => absurd hn9 (Nat.not_lt_zero _)) (fun wC y4 FC nC vC => ?_)
  have FBC := FC0.tr FC (Z := fun x => x = w_n w) (fun _ _ q => q) (fun x hx q => by omega)
  have GC := GB.tr FBC (Z := fun _ => False) (fun _ _ q => q) (fun x hx q => by omega)
  have dC : w_n w < w_n wC ∧ w_K wC (w_n w) = 8 := ⟨by omega, (FC.K dC0.1).trans dC0.2⟩
  have ndC : ¬ w_n w = w_n wB := by omega
  have iC := (congrFun (FC.I dC0.1 ndC) 0).trans iC0
  have r8C := (congrFun (FC.R dC0.1 ndC) 8).trans ((rC0 8 (by omega)).trans r8B)
  have r11C := (congrFun (FC.R dC0.1 ndC) 11).trans ((rC0 11 (by omega)).trans r11B)
  have r10C := (congrFun (FC.R dC0.1 ndC) 10).trans r10C0
  have tC : w_n wB < w_n wC ∧ w_K wC (w_n wB) = 20 ∧ w_L wC (w_n wB) = 1 + q2 := ⟨by omega, (FC.K tC0.1).trans tC0.2.1, (FC.L tC0.1).trans tC0.2.2⟩
  have lC := GC.l.trans hll
  have hB : z_all [z_is 158 156 (zf_aload 156 1 157), z_is 158 157 (zf_cst 157 (jn 1) 158), z_is 158 158 (zf_iload 158 2 159), z_is 158 159 (zf_cst 159 (jn 5) 160), z_at 158 160 (zf_iushr 160 161), z_is 158 161 (zf_cst 161 (jn 1) 162), z_is 158 162 (zf_iand 162 163), z_is 158 163 (zf_iadd 163 164), z_at 158 164 (zx_newa 164 10 166), z_at 158 166 (zf_pr 166 8 9 169), z_is 158 169 (zf_cst 169 (jn 0) 170), z_is 158 170 (zf_istore 170 3 171)] = true := by decide +kernel
  refine q_s hB (fun _ _ k => z_aload hB rfl k) (fun hB => ?_)
  refine q_s hB (fun _ _ k => z_cst hB k) (fun hB => ?_)
  refine q_s hB (fun _ _ k => z_iload hB rfl k) (fun hB => ?_)
  refine q_s hB (fun _ _ k => z_cst hB k) (fun hB => ?_)
  refine q_s hB (fun _ _ k => z_iushr hB k) (fun hB => ?_)
  refine q_s hB (fun _ _ k => z_cst hB k) (fun hB => ?_)
  refine q_s hB (fun _ _ k => z_iand hB k) (fun hB => ?_)
  rw [e3]
  refine q_s hB (fun _ _ k => z_iadd hB k) (fun hB => ?_)
  rw [jn_add]
  refine q_s hB (fun _ _ k => x_newa hB lC (by omega) (jn_ok (by omega) (by omega)) k) (fun hB => ?_)
  rw [jn_n (by omega)]
  refine q_s hB (fun _ _ k => x_putr hB (Nat.lt_succ_of_lt dC.1) ((nw_Kb (w := wC) (k := 10) (n := 1 + q3) dC.1).trans dC.2) k) (fun hB => ?_)
  refine q_s hB (fun _ _ k => z_cst hB k) (fun hB => ?_)
  refine q_s hB (fun _ _ k => z_istore hB rfl rfl k) (fun hB => ?_)
  have FE1 : FR (fun _ => False) wC (w_nw wC 10 (1 + q3)) := FR_nw (by omega) (by omega)
  have FE0 := FE1.tr (FR_R (a := w_n w) (i := 9) (x := some (w_n wC))) (Z := fun x => x = w_n w) (fun _ _ q => q.elim) (fun _ _ q => q)
  have nE0 : w_n (w_sR (w_nw wC 10 (1 + q3)) (w_n w) 9 (some (w_n wC))) = w_n wC + 1 := rfl
  have r9E0 : w_R (w_sR (w_nw wC 10 (1 + q3)) (w_n w) 9 (some (w_n wC))) (w_n w) 9 = some (w_n wC) := sR_at
  have rE0 : ∀ k, ¬ k = 9 → w_R (w_sR (w_nw wC 10 (1 + q3)) (w_n w) 9 (some (w_n wC))) (w_n w) k = w_R wC (w_n w) k := fun k hk => (sR_ni hk).trans (congrFun (nw_Rb dC.1) k)
  have iE0 : w_I (w_sR (w_nw wC 10 (1 + q3)) (w_n w) 9 (some (w_n wC))) (w_n w) 0 = jn (1 + q0) := (congrFun (nw_Ib (w := wC) (k := 10) (n := 1 + q3) dC.1) 0).trans iC
  have oE0 : RWs (w_sR (w_nw wC 10 (1 + q3)) (w_n w) 9 (some (w_n wC))) (w_n wC) (1 + q3) := ⟨Nat.lt_succ_self _, nw_K (w := wC) (k := 10) (n := 1 + q3), nw_L (w := wC) (k := 10) (n := 1 + q3)⟩
  generalize (w_sR (w_nw wC 10 (1 + q3)) (w_n w) 9 (some (w_n wC))) = wE0 at FE0 nE0 r9E0 rE0 iE0 oE0 ⊢
  have GE0 := GC.tr FE0 (Z := fun _ => False) (fun _ _ q => q) (fun x hx q => by omega)
  have dE0 : w_n w < w_n wE0 ∧ w_K wE0 (w_n w) = 8 := ⟨by omega, (FE0.K dC.1).trans dC.2⟩
  refine n_dk3 hl (C := 1 + q3) (by omega) (1 + q3) 0 (by omega) (Nat.le_trans (Nat.le_of_eq GE0.SL) hL) dE0 r9E0 oE0 (by omega) (fun n hn9 => absurd hn9 (Nat.not_lt_zero _)) (fun wE FE nE vE => ?_)
  have FCE := FE0.tr FE (Z := fun x => x = w_n w) (fun _ _ q => q) (fun x hx q => by omega)
  have GE := GC.tr FCE (Z := fun _ => False) (fun _ _ q => q) (fun x hx q => by omega)
  have dE : w_n w < w_n wE ∧ w_K wE (w_n w) = 8 := ⟨by omega, (FE.K dE0.1).trans dE0.2⟩
  have ndE : ¬ w_n w = w_n wC := by omega
  have iE := (congrFun (FE.I dE0.1 ndE) 0).trans iE0
  have r8E := (congrFun (FE.R dE0.1 ndE) 8).trans ((rE0 8 (by omega)).trans r8C)
  have r11E := (congrFun (FE.R dE0.1 ndE) 11).trans ((rE0 11 (by omega)).trans r11C)
  have r10E := (congrFun (FE.R dE0.1 ndE) 10).trans ((rE0 10 (by omega)).trans r10C)
  have r9E := (congrFun (FE.R dE0.1 ndE) 9).trans r9E0
  have oE := oE0.fr FE
  have lE := GE.l.trans hll
  have hB : z_all [z_is 158 204 (zf_aload 204 1 205), z_is 158 205 (zf_iload 205 2 206), z_is 158 206 (zf_cst 206 (jn 10) 208), z_at 158 208 (zf_iushr 208 209), z_is 158 209 (zf_cst 209 (jn 15) 211), z_is 158 211 (zf_iand 211 212), z_is 158 212 (zf_cst 212 (jn 10) 214), z_is 158 214 (zf_irem 214 215), z_at 158 215 (zf_pi 215 8 2 218), z_is 158 218 (zf_cst 218 (jn 1) 219), z_is 158 219 (zf_iload 219 2 220), z_is 158 220 (zf_cst 220 (jn 14) 222), z_at 158 222 (zf_iushr 222 223), z_is 158 223 (zf_cst 223 (jn 3) 224), z_is 158 224 (zf_iand 224 225), z_is 158 225 (zf_iadd 225 226), z_is 158 226 (zf_istore 226 3 227), z_is 158 227 (zf_cst 227 (jn 0) 228), z_is 158 228 (zf_istore 228 4 230)] = true := by decide +kernel
  refine q_s hB (fun _ _ k => z_aload hB rfl k) (fun hB => ?_)
  refine q_s hB (fun _ _ k => z_iload hB rfl k) (fun hB => ?_)
  refine q_s hB (fun _ _ k => z_cst hB k) (fun hB => ?_)
  refine q_s hB (fun _ _ k => z_iushr hB k) (fun hB => ?_)
  refine q_s hB (fun _ _ k => z_cst hB k) (fun hB => ?_)
  refine q_s hB (fun _ _ k => z_iand hB k) (fun hB => ?_)
  rw [e4]
  refine q_s hB (fun _ _ k => z_cst hB k) (fun hB => ?_)
  refine q_s hB (fun _ _ k => z_irem hB (by decide) k) (fun hB => ?_)
  rw [e6]
  refine q_s hB (fun _ _ k => x_puti hB dE.1 dE.2 k) (fun hB => ?_)
  refine q_s hB (fun _ _ k => z_cst hB k) (fun hB => ?_)
  refine q_s hB (fun _ _ k => z_iload hB rfl k) (fun hB => ?_)
  refine q_s hB (fun _ _ k => z_cst hB k) (fun hB => ?_)
  refine q_s hB (fun _ _ k => z_iushr hB k) (fun hB => ?_)
  refine q_s hB (fun _ _ k => z_cst hB k) (fun hB => ?_)
  refine q_s hB (fun _ _ k => z_iand hB k) (fun hB => ?_)
  rw [e5]
  refine q_s hB (fun _ _ k => z_iadd hB k) (fun hB => ?_)
  rw [jn_add]
  refine q_s hB (fun _ _ k => z_istore hB rfl rfl k) (fun hB => ?_)
  refine q_s hB (fun _ _ k => z_cst hB k) (fun hB => ?_)
  refine q_s hB (fun _ _ k => z_istore hB rfl rfl k) (fun hB => ?_)
  have FH : FR (fun x => x = w_n w) wE (w_sI wE (w_n w) 2 (jn (q4 % 10))) := FR_I (by omega)
  have nH : w_n (w_sI wE (w_n w) 2 (jn (q4 % 10))) = w_n wE := rfl
  have iH : w_I (w_sI wE (w_n w) 2 (jn (q4 % 10))) (w_n w) 0 = jn (1 + q0) := (sI_ne (by omega)).trans iE
  have iH2 : w_I (w_sI wE (w_n w) 2 (jn (q4 % 10))) (w_n w) 2 = jn (q4 % 10) := sI_at
  have rH : ∀ k, w_R (w_sI wE (w_n w) 2 (jn (q4 % 10))) (w_n w) k = w_R wE (w_n w) k := fun k => rfl
  generalize (w_sI wE (w_n w) 2 (jn (q4 % 10))) = wH at FH nH iH iH2 rH ⊢
  have FCH := FCE.tr FH (Z := fun x => x = w_n w) (fun _ _ q => q) (fun x hx q => q)
  have FBH := FBC.tr FCH (Z := fun x => x = w_n w) (fun _ _ q => q) (fun x hx q => q)
  have GH := GE.tr FH (Z := fun _ => False) (fun _ _ q => q) (fun x hx q => by omega)
  have dH : w_n w < w_n wH ∧ w_K wH (w_n w) = 8 := ⟨by omega, (FH.K dE.1).trans dE.2⟩
  have aH := aB.fr FBH (by omega) (fun q => by unfold ev_S at q; omega)
  have tH : w_n wB < w_n wH ∧ w_K wH (w_n wB) = 20 ∧ w_L wH (w_n wB) = 1 + q2 := ⟨by omega, (FCH.K tC.1).trans tC.2.1, (FCH.L tC.1).trans tC.2.2⟩
  refine n_dk4 hl (C := 1 + q1) (N := 1 + q2) (F := 1 + q5) ⟨by omega, by omega⟩ ⟨by omega, by omega⟩ (by omega) (1 + q5) 0 (by omega) (Nat.le_trans (Nat.le_of_eq GH.SL) hL) dH ⟨(rH 10).trans r10E, (rH 8).trans r8E, (rH 11).trans r11E⟩ tH (uB.fr FBH) ⟨GH.l.trans hll, by omega⟩ aH ⟨rfl, List.nodup_nil⟩ (fun f hf => absurd hf List.not_mem_nil) (fun wZ ar fs y5 y6 FZ0 nZ aZ hfs vZ => ?_)
  have FZ : FR (fun x => x = w_n w + 1) wH wZ := FZ0.mo (fun x hx q => by rcases q with q | q; exact q; have h9 := q.2; unfold ev_S at h9; omega)
  have GZ := GH.tr FZ (Z := fun _ => False) (fun _ _ q => q) (fun x hx q => by omega)
  have ndZ : ¬ w_n w = w_n w + 1 := by omega
  have IZ := FZ.I dH.1 ndZ
  have RZ := FZ.R dH.1 ndZ
  have FBZ := FBH.tr FZ (Z := fun x => x = w_n w ∨ x = w_n w + 1) (fun _ _ q => Or.inl q) (fun _ _ q => Or.inr q)
  have FCZ := FCH.tr FZ (Z := fun x => x = w_n w ∨ x = w_n w + 1) (fun _ _ q => Or.inl q) (fun _ _ q => Or.inr q)
  have FEZ := FH.tr FZ (Z := fun x => x = w_n w ∨ x = w_n w + 1) (fun _ _ q => Or.inl q) (fun _ _ q => Or.inr q)
  have IuZ := FBZ.I uB.1 (by omega)
  have IoZ := FEZ.I oE.1 (by omega)
  have tZ : w_n wB < w_n wZ ∧ w_K wZ (w_n wB) = 20 ∧ w_L wZ (w_n wB) = 1 + q2 := ⟨Nat.lt_of_lt_of_le tH.1 FZ.n, (FZ.K tH.1).trans tH.2.1, (FZ.L tH.1).trans tH.2.2⟩
  have RnZ := FCZ.R tC.1 (by omega)
  have kal := aH.1.2
  have kalC : w_n w + 1 < w_n wC → w_K wC (w_n w + 1) = 17 := fun h9 => (FCH.K h9).symm.trans kal
  have hB : z_all [z_is 158 337 (zf_aload 337 1 338), z_is 158 338 (zf_ret 5)] = true := by decide +kernel
  refine q_s hB (fun _ _ k => z_aload hB rfl k) (fun hB => ?_)
  refine q_r (z_reta hB) ⟨w_n w, w_n w + 1, ar, w_n w1, w_n wB, w_n wC, 1 + q1, 1 + q2, 1 + q3, fs, rfl, ⟨⟨⟨Nat.lt_of_lt_of_le dH.1 FZ.n, (FZ.K dH.1).trans dH.2⟩, ?_, ?_⟩, ⟨?_, ?_, ?_, ?_⟩, ⟨⟨by omega, by omega⟩, ⟨by omega, by omega⟩, ⟨by omega, by omega⟩, ⟨by omega, by omega⟩, hfs.2⟩, ⟨uB.fr FBZ, fun c hc => ?_⟩, ⟨oE.fr FEZ, fun c hc => ?_⟩, ⟨tZ, fun n hn9 => ?_⟩, aZ, vZ⟩, GZ, by omega⟩
  · rw [IZ, iH]; exact ⟨1 + q0, by omega, by omega, rfl⟩
  · rw [IZ, iH2]; exact ⟨q4 % 10, by omega, by omega, rfl⟩
  · rw [RZ, rH]; exact r8E
  · rw [RZ, rH]; exact r9E
  · rw [RZ, rH]; exact r10E
  · rw [RZ, rH]; exact r11E
  · rw [IuZ]; exact vB c hc
  · rw [IoZ]; exact vE c hc
  · refine (vC n hn9).fr FCZ (fun x q => ?_) (congrFun RnZ n)
    rcases q with q | q
    · rw [q, dC.2]; omega
    · rw [q, kalC (by omega)]; omega
