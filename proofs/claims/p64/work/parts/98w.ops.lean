/-! the class's readers and deeds as calls: by wip/gen/p64/j98w.py -/
section KO
variable {G : z_G} {w : ev_W} {n : Nat} {L : LL} {U : List LL} {V : Nat → Option LL}
theorem kc_freePegs (ok : z_Ok G w) (hn : z_fc w n) (h : cIv n L U V (w_I w)) : z_K G 112 [.ref 0] w (.inl (some (.int (jn (qP L) - qct (fun f => qf L f 8 = jn 2) (qF L))))) w := by
  have k9 := t_F_freePegs ok hn (I := w_I w) (cr_freePegs h)
  rw [z_w_w] at k9
  exact k9
theorem kc_why (ok : z_Ok G w) (hn : z_fc w n) (h : cIv n L U V (w_I w)) {k : Nat} (hk : k < qF L) : z_K G 114 [.ref 0, .int (jn k)] w (.inl (some (.int (ywhy (ybs L k))))) w := by
  have k9 := t_F_why ok hn (I := w_I w) (cr_why h hk)
  rw [z_w_w] at k9
  exact k9
theorem kc_culprit (ok : z_Ok G w) (hn : z_fc w n) (h : cIv n L U V (w_I w)) {k : Nat} (hk : k < qN L) : z_K G 115 [.ref 0, .int (jn k)] w (.inl (some (.int (ycul L k)))) w := by
  have k9 := t_F_culprit ok hn (I := w_I w) (cr_culprit h hk)
  rw [z_w_w] at k9
  exact k9
theorem kc_whyNotPut (ok : z_Ok G w) (hn : z_fc w n) (h : cIv n L U V (w_I w)) {k t : Nat} (hk : k < qF L) (ht : t < qT L) : z_K G 116 [.ref 0, .int (jn k), .int (jn t)] w (.inl (some (.int (yput L k t)))) w := by
  have k9 := t_F_whyNotPut ok hn (I := w_I w) (cr_whyNotPut h hk ht)
  rw [z_w_w] at k9
  exact k9
theorem kc_whyNotWash (ok : z_Ok G w) (hn : z_fc w n) (h : cIv n L U V (w_I w)) {t : Nat} (ht : t < qT L) {x : Int32} (hx : hOk x) : z_K G 117 [.ref 0, .int (jn t), .int x] w (.inl (some (.int (ywash L t x)))) w := by
  have k9 := t_F_whyNotWash ok hn (I := w_I w) (cr_whyNotWash h ht hx)
  rw [z_w_w] at k9
  exact k9
theorem kc_whyNotIron (ok : z_Ok G w) (hn : z_fc w n) (h : cIv n L U V (w_I w)) {k : Nat} (hk : k < qF L) {x : Int32} (hx : hOk x) : z_K G 118 [.ref 0, .int (jn k), .int x] w (.inl (some (.int (yiron L k x)))) w := by
  have k9 := t_F_whyNotIron ok hn (I := w_I w) (cr_whyNotIron h hk hx)
  rw [z_w_w] at k9
  exact k9
theorem kc_whyNotBleach (ok : z_Ok G w) (hn : z_fc w n) (h : cIv n L U V (w_I w)) {k : Nat} (hk : k < qF L) : z_K G 119 [.ref 0, .int (jn k)] w (.inl (some (.int (yble L k)))) w := by
  have k9 := t_F_whyNotBleach ok hn (I := w_I w) (cr_whyNotBleach h hk)
  rw [z_w_w] at k9
  exact k9
theorem kc_stainedIf (ok : z_Ok G w) (hn : z_fc w n) (h : cIv n L U V (w_I w)) {t : Nat} (ht : t < qT L) {x : Int32} (hx : hOk x) : z_K G 120 [.ref 0, .int (jn t), .int x] w (.inl (some (.int (ystn L t (yrunt L t x))))) w := by
  have k9 := t_F_stainedIf ok hn (I := w_I w) (cr_stainedIf h ht hx)
  rw [z_w_w] at k9
  exact k9
theorem kc_bestHeat (ok : z_Ok G w) (hn : z_fc w n) (h : cIv n L U V (w_I w)) {t : Nat} (ht : t < qT L) : z_K G 121 [.ref 0, .int (jn t)] w (.inl (some (.int (ybh L t)))) w := by
  have k9 := t_F_bestHeat ok hn (I := w_I w) (cr_bestHeat h ht)
  rw [z_w_w] at k9
  exact k9
theorem kc_firstSafe (ok : z_Ok G w) (hn : z_fc w n) (h : cIv n L U V (w_I w)) {t : Nat} (ht : t < qT L) {x : Int32} (hx : hOk x) : z_K G 122 [.ref 0, .int (jn t), .int x] w (.inl (some (.int (ysafe L t x)))) w := by
  have k9 := t_F_firstSafe ok hn (I := w_I w) (cr_firstSafe h ht hx)
  rw [z_w_w] at k9
  exact k9
theorem kc_dryIn (ok : z_Ok G w) (hn : z_fc w n) (h : cIv n L U V (w_I w)) {k : Nat} (hk : k < qF L) {v : Nat} (hv : v < 10) (ev : qs L 1 = jn v) : z_K G 123 [.ref 0, .int (jn k)] w (.inl (some (.int (ydry L k v)))) w := by
  have k9 := t_F_dryIn ok hn (I := w_I w) (cr_dryIn h hk hv ev)
  rw [z_w_w] at k9
  exact k9
theorem kc_dryByWind (ok : z_Ok G w) (hn : z_fc w n) (h : cIv n L U V (w_I w)) {k : Nat} (hk : k < qF L) {v : Nat} (hv : v < 10) : z_K G 124 [.ref 0, .int (jn k), .int (jn v)] w (.inl (some (.int (ydry L k v)))) w := by
  have k9 := t_F_dryByWind ok hn (I := w_I w) (cr_dryByWind h hk hv)
  rw [z_w_w] at k9
  exact k9
theorem kc_fallsIn (ok : z_Ok G w) (hn : z_fc w n) (h : cIv n L U V (w_I w)) {k : Nat} (hk : k < 100) : z_K G 125 [.ref 0, .int (jn k)] w (.inl (some (.int (yfls L k)))) w := by
  have k9 := t_F_fallsIn ok hn (I := w_I w) (cr_fallsIn h hk)
  rw [z_w_w] at k9
  exact k9
theorem kc_payIf (ok : z_Ok G w) (hn : z_fc w n) (h : cIv n L U V (w_I w)) {k : Nat} (hk : k < qN L) {x : Int32} (hx : ¬ x < jn 0 ∧ ¬ jn 99 < x) : z_K G 126 [.ref 0, .int (jn k), .int x] w (.inl (some (.int (yahead L k x)))) w := by
  have k9 := t_F_payIf ok hn (I := w_I w) (cr_payIf h hk hx)
  rw [z_w_w] at k9
  exact k9
theorem kc_undoable (ok : z_Ok G w) (h : cIv n L U V (w_I w)) : z_K G 136 [.ref 0] w (.inl (some (.int (jn U.length)))) w := by
  have k9 := t_F_undoable ok (I := w_I w) (r := jn U.length) (by rw [← h.2.2.2.2.2.2.1.1]; rfl)
  rw [z_w_w] at k9
  exact k9
theorem kd_put (ok : z_Ok G w) (hn : z_fc w n) (h : cIv n L U V (w_I w)) {k t : Nat} (hk : k < qF L) (ht : t < qT L) (y : yput L k t = jn 0) : ∃ J, cIv n (Lput L k t) (kU U L) V J ∧ z_K G 128 [.ref 0, .int (jn k), .int (jn t)] w (.inl (some (.int (jn ((qt L t).length + 1))))) (z_w w J) := by
  obtain ⟨J, e, c, -⟩ := cc_put h hk ht y
  have k9 := t_F_put ok hn (I := w_I w) e
  rw [z_w_w] at k9
  exact ⟨J, c, k9⟩
theorem kd_wash (ok : z_Ok G w) (hn : z_fc w n) (h : cIv n L U V (w_I w)) {t : Nat} (ht : t < qT L) {x : Int32} (hx : hOk x) (y : ywash L t x = jn 0) : ∃ J, cIv n (Lwsh L t x) (kU U L) V J ∧ z_K G 129 [.ref 0, .int (jn t), .int x] w (.inl (some (.int (ystn L t (yrunt L t x))))) (z_w w J) := by
  obtain ⟨J, e, c, -⟩ := cc_wash h ht hx y
  have k9 := t_F_wash ok hn (I := w_I w) e
  rw [z_w_w] at k9
  exact ⟨J, c, k9⟩
theorem kd_hangAll (ok : z_Ok G w) (hn : z_fc w n) (h : cIv n L U V (w_I w)) : ∃ J, cIv n (Lhal L (qF L)).2 (kU U L) V J ∧ z_K G 130 [.ref 0] w (.inl (some (.int ((Lhal L (qF L)).1)))) (z_w w J) := by
  obtain ⟨J, e, c, -⟩ := cc_hangAll h
  have k9 := t_F_hangAll ok hn (I := w_I w) e
  rw [z_w_w] at k9
  exact ⟨J, c, k9⟩
theorem kd_iron (ok : z_Ok G w) (hn : z_fc w n) (h : cIv n L U V (w_I w)) {k : Nat} (hk : k < qF L) {x : Int32} (hx : hOk x) (y : yiron L k x = jn 0) : ∃ J, cIv n (Liron L k x) (kU U L) V J ∧ z_K G 131 [.ref 0, .int (jn k), .int x] w (.inl (some (.int (qf (Liron L k x) k 5)))) (z_w w J) := by
  obtain ⟨J, e, c, -⟩ := cc_iron h hk hx y
  have k9 := t_F_iron ok hn (I := w_I w) e
  rw [z_w_w] at k9
  exact ⟨J, c, k9⟩
theorem kd_bleach (ok : z_Ok G w) (hn : z_fc w n) (h : cIv n L U V (w_I w)) {k : Nat} (hk : k < qF L) (y : yble L k = jn 0) : ∃ J, cIv n (Lble L k) (kU U L) V J ∧ z_K G 132 [.ref 0, .int (jn k)] w (.inl (some (.int (ystc L k)))) (z_w w J) := by
  obtain ⟨J, e, c, -⟩ := cc_bleach h hk y
  have k9 := t_F_bleach ok hn (I := w_I w) e
  rw [z_w_w] at k9
  exact ⟨J, c, k9⟩
theorem kd_handOver (ok : z_Ok G w) (hn : z_fc w n) (h : cIv n L U V (w_I w)) {k : Nat} (hk : k < qN L) (y : jn 0 < yof L k ∧ ¬ qn L k 3 = jn 1 ∧ ycul L k = jg 1) : ∃ J, cIv n (Lhov L k) (kU U L) V J ∧ z_K G 133 [.ref 0, .int (jn k)] w (.inl (some (.int (ypd L k)))) (z_w w J) := by
  obtain ⟨J, e, c, -⟩ := cc_handOver h hk y
  have k9 := t_F_handOver ok hn (I := w_I w) e
  rw [z_w_w] at k9
  exact ⟨J, c, k9⟩
theorem kd_pass (ok : z_Ok G w) (hn : z_fc w n) (h : cIv n L U V (w_I w)) {k : Nat} (hk : 1 ≤ k ∧ k ≤ 50) : ∃ J, cIv n (Lpss L k) (kU U L) V J ∧ z_K G 134 [.ref 0, .int (jn k)] w (.inl (some (.int (qs (Lpss L k) 5 - qs L 5)))) (z_w w J) := by
  obtain ⟨J, e, c, -⟩ := cc_pass h hk
  have k9 := t_F_pass ok hn (I := w_I w) e
  rw [z_w_w] at k9
  exact ⟨J, c, k9⟩
theorem kd_setWind (ok : z_Ok G w) (hn : z_fc w n) (h : cIv n L U V (w_I w)) {k : Nat} (hk : k < 10) : ∃ J, cIv n (ls L 1 (jn k)) (kU U L) V J ∧ z_K G 135 [.ref 0, .int (jn k)] w (.inl (some (.int (qs L 1)))) (z_w w J) := by
  obtain ⟨J, e, c, -⟩ := cc_setWind h hk
  have k9 := t_F_setWind ok hn (I := w_I w) e
  rw [z_w_w] at k9
  exact ⟨J, c, k9⟩
theorem kd_save (ok : z_Ok G w) (hn : z_fc w n) (h : cIv n L U V (w_I w)) {k : Nat} (hk : k < 2) : ∃ J, cIv n L U (sV V k L) J ∧ z_K G 137 [.ref 0, .int (jn k)] w (.inl (some (.int (qs L 0)))) (z_w w J) := by
  obtain ⟨J, e, c, -⟩ := cc_save h hk
  have k9 := t_F_save ok hn (I := w_I w) e
  rw [z_w_w] at k9
  exact ⟨J, c, k9⟩
theorem kd_restore (ok : z_Ok G w) (hn : z_fc w n) (h : cIv n L U V (w_I w)) {k : Nat} (hk : k < 2) {M : LL} (hV : V k = some M) : ∃ J, cIv n M [] V J ∧ z_K G 138 [.ref 0, .int (jn k)] w (.inl (some (.int (qs M 0)))) (z_w w J) := by
  obtain ⟨J, e, c, -⟩ := cc_restore h hk hV
  have k9 := t_F_restore ok hn (I := w_I w) e
  rw [z_w_w] at k9
  exact ⟨J, c, k9⟩
end KO
