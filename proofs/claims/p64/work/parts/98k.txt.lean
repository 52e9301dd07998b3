/-! the law's text(Desk): what it says; appends: by wip/gen/p64/j98k.py -/
def xcol (r : Nat → Nat) : Nat → List Nat
  | 0 => []
  | c + 1 => xcol r c ++ (zs_tx 21 ++ dg (r c))
def xnat (v : Nat → Nat → Nat) : Nat → List Nat
  | 0 => []
  | n + 1 => xnat v n ++ (((((zs_tx 22 ++ dg (v n 0)) ++ [32]) ++ dg (v n 1)) ++ [32]) ++ dg (v n 2))
def xtub (r : Nat → Nat) : Nat → List Nat
  | 0 => []
  | c + 1 => xtub r c ++ (zs_tx 23 ++ dg (r c))
def xbit (m : Int32) : Nat → List Nat
  | 0 => []
  | c + 1 => xbit m c ++ (if (m >>> (jn c &&& 31)) &&& jn 1 = jn 1 then [32] ++ dg c else [])
def xflg (C : Nat) (v : Nat → Nat → Nat) (m : Nat → Int32) : Nat → List Nat
  | 0 => []
  | k + 1 => xflg C v m k ++ ((((((zs_tx 24 ++ dg (v k 0)) ++ [32]) ++ dg (v k 2)) ++ [32]) ++ dg (v k 3)) ++ xbit (m k) C)
theorem dg_len (v : Nat) : (dg v).length ≤ 2 := by
  unfold dg
  by_cases h : v < 10
  · rw [if_pos h]; show 1 ≤ 2; omega
  · rw [if_neg h]; show 2 ≤ 2; omega
theorem zs_l9 : zs_ln 20 = 5 ∧ zs_ln 21 = 8 ∧ zs_ln 22 = 8 ∧ zs_ln 23 = 5 ∧ zs_ln 24 = 6 ∧ zs_ln 25 = 6 ∧ zs_ln 26 = 5 ∧ zs_ln 27 = 2 ∧ zs_ln 28 = 9 := by decide +kernel
theorem xcol_len (r : Nat → Nat) : ∀ n, (xcol r n).length ≤ 10 * n
  | 0 => Nat.le_refl _
  | n + 1 => by
    have h := xcol_len r n
    have h2 := dg_len (r n)
    have h3 := zs_l9
    show (xcol r n ++ (zs_tx 21 ++ dg (r n))).length ≤ _
    rw [List.length_append, List.length_append, zs_txl]
    omega
theorem xtub_len (r : Nat → Nat) : ∀ n, (xtub r n).length ≤ 10 * n
  | 0 => Nat.le_refl _
  | n + 1 => by
    have h := xtub_len r n
    have h2 := dg_len (r n)
    have h3 := zs_l9
    show (xtub r n ++ (zs_tx 23 ++ dg (r n))).length ≤ _
    rw [List.length_append, List.length_append, zs_txl]
    omega
theorem xnat_len (v : Nat → Nat → Nat) : ∀ n, (xnat v n).length ≤ 16 * n
  | 0 => Nat.le_refl _
  | n + 1 => by
    have h := xnat_len v n
    have h0 := dg_len (v n 0)
    have h1 := dg_len (v n 1)
    have h2 := dg_len (v n 2)
    have h3 := zs_l9
    show (xnat v n ++ (((((zs_tx 22 ++ dg (v n 0)) ++ [32]) ++ dg (v n 1)) ++ [32]) ++ dg (v n 2))).length ≤ _
    simp only [List.length_append, zs_txl, List.length_cons, List.length_nil]
    omega
theorem xbit_len (m : Int32) : ∀ n, (xbit m n).length ≤ 3 * n
  | 0 => Nat.le_refl _
  | n + 1 => by
    have h := xbit_len m n
    have h0 := dg_len n
    show (xbit m n ++ (if (m >>> (jn n &&& 31)) &&& jn 1 = jn 1 then [32] ++ dg n else [])).length ≤ _
    by_cases q : (m >>> (jn n &&& 31)) &&& jn 1 = jn 1
    · rw [if_pos q]
      simp only [List.length_append, List.length_cons, List.length_nil]
      omega
    · rw [if_neg q]
      simp only [List.length_append, List.length_nil]
      omega
theorem xflg_len (C : Nat) (hC : C ≤ 4) (v : Nat → Nat → Nat) (m : Nat → Int32) : ∀ n, (xflg C v m n).length ≤ 26 * n
  | 0 => Nat.le_refl _
  | n + 1 => by
    have h := xflg_len C hC v m n
    have h0 := dg_len (v n 0)
    have h1 := dg_len (v n 2)
    have h2 := dg_len (v n 3)
    have h3 := zs_l9
    have h4 := xbit_len (m n) C
    show (xflg C v m n ++ ((((((zs_tx 24 ++ dg (v n 0)) ++ [32]) ++ dg (v n 2)) ++ [32]) ++ dg (v n 3)) ++ xbit (m n) C)).length ≤ _
    simp only [List.length_append, zs_txl, List.length_cons, List.length_nil]
    omega
theorem jgr_z {x : Int32} {lo hi : Nat} (h : jgr x lo hi) (hh : hi < 1000) : x = jn (z_n x) ∧ lo ≤ z_n x ∧ z_n x ≤ hi := by
  obtain ⟨k, h1, h2, h3⟩ := h
  have h4 : z_n x = k := by rw [h3]; exact jn_n (by omega)
  rw [h4]
  exact ⟨h3, h1, h2⟩
/-- the StringBuilder a of the text, since world w0 (whose bytes row was b0); Y: what else may have changed -/
def TX (Y : Nat → Prop) (w0 : ev_W) (a b0 : Nat) (w : ev_W) (l : List Nat) (B : Nat) : Prop := (w_l w0 = true ∧ (a < w_n w0 ∧ w_K w0 a = 18) ∧ (b0 < w_n w0 ∧ w_K w0 b0 = 9)) ∧ ∃ b cap, SB w a b cap l ∧ FR (fun x => (x = a ∨ x = b0) ∨ Y x) w0 w ∧ (b = b0 ∨ w_n w0 ≤ b) ∧ w_n w ≤ w_n w0 + B
theorem TX.n {Y : Nat → Prop} {w0 w : ev_W} {a b0 B : Nat} {l : List Nat} (T : TX Y w0 a b0 w l B) : w_n w ≤ w_n w0 + B := by
  obtain ⟨-, b, cap, h⟩ := T
  exact h.2.2.2
theorem TX.F {Y : Nat → Prop} {w0 w : ev_W} {a b0 B : Nat} {l : List Nat} (T : TX Y w0 a b0 w l B) : FR (fun x => (x = a ∨ x = b0) ∨ Y x) w0 w := by
  obtain ⟨-, b, cap, h⟩ := T
  exact h.2.1
theorem TX.sb {Y : Nat → Prop} {w0 w : ev_W} {a b0 B : Nat} {l : List Nat} (T : TX Y w0 a b0 w l B) : a < w_n w ∧ w_K w a = 18 := by
  obtain ⟨-, b, cap, h⟩ := T
  exact h.1.1
theorem TX.l {Y : Nat → Prop} {w0 w : ev_W} {a b0 B : Nat} {l : List Nat} (T : TX Y w0 a b0 w l B) : w_l w = true := T.F.l.trans T.1.1
/-- what the appends leave alone -/
theorem TX.E {Y : Nat → Prop} {w0 w : ev_W} {a b0 B : Nat} {l : List Nat} (T : TX Y w0 a b0 w l B) {x κ : Nat} (hx : x < w_n w0) (hk : w_K w0 x = κ) (hκ : ¬ κ = 18 ∧ ¬ κ = 9) (hY : ¬ Y x) : (x < w_n w ∧ w_K w x = κ) ∧ w_L w x = w_L w0 x ∧ w_I w x = w_I w0 x ∧ w_R w x = w_R w0 x := by
  have F := T.F
  have hne : ¬ ((x = a ∨ x = b0) ∨ Y x) := fun q => by
    rcases q with (q | q) | q
    · rw [q, T.1.2.1.2] at hk; exact hκ.1 hk.symm
    · rw [q, T.1.2.2.2] at hk; exact hκ.2 hk.symm
    · exact hY q
  exact ⟨⟨Nat.lt_of_lt_of_le hx F.n, (F.K hx).trans hk⟩, F.L hx, F.I hx hne, F.R hx hne⟩
theorem TX.E0 {w0 w : ev_W} {a b0 B : Nat} {l : List Nat} (T : TX (fun _ => False) w0 a b0 w l B) {x κ : Nat} (hx : x < w_n w0) (hk : w_K w0 x = κ) (hκ : ¬ κ = 18 ∧ ¬ κ = 9) : (x < w_n w ∧ w_K w x = κ) ∧ w_L w x = w_L w0 x ∧ w_I w x = w_I w0 x ∧ w_R w x = w_R w0 x := T.E hx hk hκ (fun q => q)
theorem TX.A {Y : Nat → Prop} {w0 w : ev_W} {a b0 B al ar : Nat} {l fs : List Nat} (T : TX Y w0 a b0 w l B) (A : AL w0 al ar fs) (h1 : 1 ≤ fs.length) (hal : ¬ Y al) (har : ¬ Y ar) : AL w al ar fs := by
  rcases A.2.2 with q9 | q9
  · rw [q9.1] at h1; exact absurd h1 (by decide)
  · refine A.fr T.F (fun q => ?_) (fun _ q => ?_)
    · rcases q with (q | q) | q
      · have h := A.1.2; rw [q, T.1.2.1.2] at h; omega
      · have h := A.1.2; rw [q, T.1.2.2.2] at h; omega
      · exact hal q
    · rcases q with (q | q) | q
      · have h := q9.2.1; rw [q, T.1.2.1.2] at h; omega
      · have h := q9.2.1; rw [q, T.1.2.2.2] at h; omega
      · exact har q
section TXA
variable {G : z_G} {Y : Nat → Prop} {w0 w : ev_W} {a b0 B : Nat} {l : List Nat}
theorem t_S (hl : G.2.2.stackTraces = false) (T : TX Y w0 a b0 w l B) {k9 : Nat} (hk9 : k9 < 29) (h2 : l.length + zs_ln k9 ≤ 300) (hn : w_n w0 + B < 999) : ∃ w5, z_K G 174 [.ref a, .ref (ev_S + 1 + k9)] w (.inl (some (.ref a))) w5 ∧ TX Y w0 a b0 w5 (l ++ zs_tx k9) (B + 1) := by
  have h0 := T
  obtain ⟨-, b, cap, S, F, d, n⟩ := T
  obtain ⟨v5, w5, k5, rfl, h5⟩ := n_appS hl S hk9 h2 h0.l (by omega)
  obtain ⟨b1, cap1, S1, F1, n1, d1⟩ := h5
  have hF := F.n
  refine ⟨w5, k5, h0.1, b1, cap1, S1, F.tr F1 (fun _ _ q => q) (fun x hx q => ?_), ?_, by omega⟩
  · rcases q with q | q
    · exact Or.inl (Or.inl q)
    · rcases d with d | d
      · exact Or.inl (Or.inr (q.trans d))
      · omega
  · rcases d1 with d1 | d1
    · rw [d1]; exact d
    · exact Or.inr (by omega)
theorem t_I (hl : G.2.2.stackTraces = false) (T : TX Y w0 a b0 w l B) {v : Nat} (hv : v < 17) (h2 : l.length + 2 ≤ 300) (hn : w_n w0 + B < 999) : ∃ w5, z_K G 176 [.ref a, .int (jn v)] w (.inl (some (.ref a))) w5 ∧ TX Y w0 a b0 w5 (l ++ dg v) (B + 1) := by
  have h0 := T
  obtain ⟨-, b, cap, S, F, d, n⟩ := T
  obtain ⟨v5, w5, k5, rfl, h5⟩ := n_appI hl S hv h2 h0.l (by omega)
  obtain ⟨b1, cap1, S1, F1, n1, d1⟩ := h5
  have hF := F.n
  refine ⟨w5, k5, h0.1, b1, cap1, S1, F.tr F1 (fun _ _ q => q) (fun x hx q => ?_), ?_, by omega⟩
  · rcases q with q | q
    · exact Or.inl (Or.inl q)
    · rcases d with d | d
      · exact Or.inl (Or.inr (q.trans d))
      · omega
  · rcases d1 with d1 | d1
    · rw [d1]; exact d
    · exact Or.inr (by omega)
theorem t_C (hl : G.2.2.stackTraces = false) (T : TX Y w0 a b0 w l B) (h2 : l.length + 1 ≤ 300) (hn : w_n w0 + B < 999) : ∃ w5, z_K G 175 [.ref a, .int (jn 32)] w (.inl (some (.ref a))) w5 ∧ TX Y w0 a b0 w5 (l ++ [32]) (B + 1) := by
  have h0 := T
  obtain ⟨-, b, cap, S, F, d, n⟩ := T
  obtain ⟨v5, w5, k5, rfl, h5⟩ := n_appC hl S h2 h0.l (by omega)
  obtain ⟨b1, cap1, S1, F1, n1, d1⟩ := h5
  have hF := F.n
  refine ⟨w5, k5, h0.1, b1, cap1, S1, F.tr F1 (fun _ _ q => q) (fun x hx q => ?_), ?_, by omega⟩
  · rcases q with q | q
    · exact Or.inl (Or.inl q)
    · rcases d with d | d
      · exact Or.inl (Or.inr (q.trans d))
      · omega
  · rcases d1 with d1 | d1
    · rw [d1]; exact d
    · exact Or.inr (by omega)
end TXA
