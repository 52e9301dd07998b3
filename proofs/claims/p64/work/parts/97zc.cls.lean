/-! what the class's readers answer, of a laundry that was told: by wip/gen/zc.py -/
/-- the class holds the laundry L, its changes U and what was saved V -/
def cIv (n : Nat) (L : LL) (U : List LL) (V : Nat → Option LL) (I : z_H) : Prop := (n = 2 ∨ n = 28) ∧ I 0 4 = jn 1 ∧ qG L ∧ gU U ∧ gV V ∧ qS L I (n + 7) (n + 1) ∧ hU U I (n + 1) ∧ hV V I (n + 1)
theorem jltj {k m : Nat} (h : k < m) : jlt (jn k) m := ⟨k, h, rfl⟩
section CLS
variable {n : Nat} {L : LL} {U : List LL} {V : Nat → Option LL} {I : z_H}
theorem cr_freePegs (h : cIv n L U V I) : d_F_freePegs n I = some (.inr (jn (qP L) - qct (fun f => qf L f 8 = jn 2) (qF L))) := by
  obtain ⟨hn_, a_, g_, _, _, S_, _, _⟩ := h
  have n10_ : ¬ jn 1 = jn 0 := by decide
  have F_ := g_.1
  have C_ := g_.2.1
  have N_ := g_.2.2.1
  have T_ := g_.2.2.2.1
  have P_ := g_.2.2.2.2.1
  simp only [d_F_freePegs, f_t1 a_, sq_flagsAt S_ g_, S_.2.2.1, ob_s, eq_self, if_true, if_false, n10_, not_false_eq_true] <;> rfl
theorem cr_gap (h : cIv n L U V I) : d_F_gap n I = some (.inr (ygap L)) := by
  obtain ⟨hn_, a_, g_, _, _, S_, _, _⟩ := h
  have n10_ : ¬ jn 1 = jn 0 := by decide
  have F_ := g_.1
  have C_ := g_.2.1
  have N_ := g_.2.2.1
  have T_ := g_.2.2.2.1
  have P_ := g_.2.2.2.2.1
  simp only [d_F_gap, f_t1 a_, sq_gap S_ g_, ob_s, eq_self, if_true, if_false, n10_, not_false_eq_true] <;> rfl
theorem cr_why (h : cIv n L U V I) {k_ : Nat} (hk_ : k_ < qF L) : d_F_why n (jn k_) I = some (.inr (ywhy (ybs L k_))) := by
  obtain ⟨hn_, a_, g_, _, _, S_, _, _⟩ := h
  have n10_ : ¬ jn 1 = jn 0 := by decide
  have F_ := g_.1
  have C_ := g_.2.1
  have N_ := g_.2.2.1
  have T_ := g_.2.2.2.1
  have P_ := g_.2.2.2.2.1
  have hx2_ := jltj hk_
  simp only [d_F_why, f_fY a_ S_ g_ hx2_, if_pos (sq_in g_ hk_), sq_n g_ hk_, sq_why S_ hk_, ob_s, eq_self, if_true, if_false, n10_, not_false_eq_true] <;> rfl
theorem cr_culprit (h : cIv n L U V I) {k_ : Nat} (hk_ : k_ < qN L) : d_F_culprit n (jn k_) I = some (.inr (ycul L k_)) := by
  obtain ⟨hn_, a_, g_, _, _, S_, _, _⟩ := h
  have n10_ : ¬ jn 1 = jn 0 := by decide
  have F_ := g_.1
  have C_ := g_.2.1
  have N_ := g_.2.2.1
  have T_ := g_.2.2.2.1
  have P_ := g_.2.2.2.2.1
  have hx2_ := jltj hk_
  simp only [d_F_culprit, f_nY a_ S_ g_ hx2_, sq_culprit S_ g_, ob_s, eq_self, if_true, if_false, n10_, not_false_eq_true] <;> rfl
theorem cr_whyNotWash (h : cIv n L U V I) {k_ : Nat} (hk_ : k_ < qT L) {x2 : Int32} (hy_ : hOk x2) : d_F_whyNotWash n (jn k_) x2 I = some (.inr (ywash L k_ x2)) := by
  obtain ⟨hn_, a_, g_, _, _, S_, _, _⟩ := h
  have n10_ : ¬ jn 1 = jn 0 := by decide
  have F_ := g_.1
  have C_ := g_.2.1
  have N_ := g_.2.2.1
  have T_ := g_.2.2.2.1
  have P_ := g_.2.2.2.2.1
  have hx2_ := jltj hk_
  simp only [d_F_whyNotWash, f_uY a_ S_ g_ hx2_, f_hY hy_, sq_wash S_ g_ hk_, ob_s, eq_self, if_true, if_false, n10_, not_false_eq_true] <;> rfl
theorem cr_whyNotIron (h : cIv n L U V I) {k_ : Nat} (hk_ : k_ < qF L) {x2 : Int32} (hy_ : hOk x2) : d_F_whyNotIron n (jn k_) x2 I = some (.inr (yiron L k_ x2)) := by
  obtain ⟨hn_, a_, g_, _, _, S_, _, _⟩ := h
  have n10_ : ¬ jn 1 = jn 0 := by decide
  have F_ := g_.1
  have C_ := g_.2.1
  have N_ := g_.2.2.1
  have T_ := g_.2.2.2.1
  have P_ := g_.2.2.2.2.1
  have hx2_ := jltj hk_
  simp only [d_F_whyNotIron, f_fY a_ S_ g_ hx2_, f_hY hy_, if_pos (sq_in g_ hk_), sq_n g_ hk_, sq_iron S_ hk_, ob_s, eq_self, if_true, if_false, n10_, not_false_eq_true] <;> rfl
theorem cr_whyNotBleach (h : cIv n L U V I) {k_ : Nat} (hk_ : k_ < qF L) : d_F_whyNotBleach n (jn k_) I = some (.inr (yble L k_)) := by
  obtain ⟨hn_, a_, g_, _, _, S_, _, _⟩ := h
  have n10_ : ¬ jn 1 = jn 0 := by decide
  have F_ := g_.1
  have C_ := g_.2.1
  have N_ := g_.2.2.1
  have T_ := g_.2.2.2.1
  have P_ := g_.2.2.2.2.1
  have hx2_ := jltj hk_
  simp only [d_F_whyNotBleach, f_fY a_ S_ g_ hx2_, if_pos (sq_in g_ hk_), sq_n g_ hk_, sq_ble S_ g_ hk_, ob_s, eq_self, if_true, if_false, n10_, not_false_eq_true] <;> rfl
theorem cr_stainedIf (h : cIv n L U V I) {k_ : Nat} (hk_ : k_ < qT L) {x2 : Int32} (hy_ : hOk x2) : d_F_stainedIf n (jn k_) x2 I = some (.inr (ystn L k_ (yrunt L k_ x2))) := by
  obtain ⟨hn_, a_, g_, _, _, S_, _, _⟩ := h
  have n10_ : ¬ jn 1 = jn 0 := by decide
  have F_ := g_.1
  have C_ := g_.2.1
  have N_ := g_.2.2.1
  have T_ := g_.2.2.2.1
  have P_ := g_.2.2.2.2.1
  have hx2_ := jltj hk_
  simp only [d_F_stainedIf, f_uY a_ S_ g_ hx2_, f_hY hy_, sq_runningIn S_ g_ hk_, sq_stained S_ g_ hk_, ob_s, eq_self, if_true, if_false, n10_, not_false_eq_true] <;> rfl
theorem cr_payIf (h : cIv n L U V I) {k_ : Nat} (hk_ : k_ < qN L) {x2 : Int32} (hy_ : ¬ x2 < jn 0 ∧ ¬ jn 99 < x2) : d_F_payIf n (jn k_) x2 I = some (.inr (yahead L k_ x2)) := by
  obtain ⟨hn_, a_, g_, _, _, S_, _, _⟩ := h
  have n10_ : ¬ jn 1 = jn 0 := by decide
  have F_ := g_.1
  have C_ := g_.2.1
  have N_ := g_.2.2.1
  have T_ := g_.2.2.2.1
  have P_ := g_.2.2.2.2.1
  have hx2_ := jltj hk_
  simp only [d_F_payIf, f_nY a_ S_ g_ hx2_, f_rYi hy_, sq_ahead S_ g_ hk_, ob_s, eq_self, if_true, if_false, n10_, not_false_eq_true] <;> rfl
theorem cr_whyNotPut (h : cIv n L U V I) {k_ : Nat} (hk_ : k_ < qF L) {t_ : Nat} (ht_ : t_ < qT L) : d_F_whyNotPut n (jn k_) (jn t_) I = some (.inr (yput L k_ t_)) := by
  obtain ⟨hn_, a_, g_, _, _, S_, _, _⟩ := h
  have n10_ : ¬ jn 1 = jn 0 := by decide
  have F_ := g_.1
  have C_ := g_.2.1
  have N_ := g_.2.2.1
  have T_ := g_.2.2.2.1
  have P_ := g_.2.2.2.2.1
  have hx2_ := jltj hk_
  have hy2_ := jltj ht_
  simp only [d_F_whyNotPut, f_fY a_ S_ g_ hx2_, f_uY a_ S_ g_ hy2_, sq_put S_ g_ hk_ ht_, ob_s, eq_self, if_true, if_false, n10_, not_false_eq_true] <;> rfl
theorem cr_bestHeat (h : cIv n L U V I) {k_ : Nat} (hk_ : k_ < qT L) : d_F_bestHeat n (jn k_) I = some (.inr (ybh L k_)) := by
  obtain ⟨hn_, a_, g_, _, _, S_, _, _⟩ := h
  have n10_ : ¬ jn 1 = jn 0 := by decide
  have F_ := g_.1
  have C_ := g_.2.1
  have N_ := g_.2.2.1
  have T_ := g_.2.2.2.1
  have P_ := g_.2.2.2.2.1
  have hx2_ := jltj hk_
  simp only [d_F_bestHeat, f_uY a_ S_ g_ hx2_, sq_best S_ g_ hk_, ob_s] <;> rfl
theorem cr_firstSafe (h : cIv n L U V I) {k_ : Nat} (hk_ : k_ < qT L) {x2 : Int32} (hy_ : hOk x2) : d_F_firstSafe n (jn k_) x2 I = some (.inr (ysafe L k_ x2)) := by
  obtain ⟨hn_, a_, g_, _, _, S_, _, _⟩ := h
  have n10_ : ¬ jn 1 = jn 0 := by decide
  have F_ := g_.1
  have C_ := g_.2.1
  have N_ := g_.2.2.1
  have T_ := g_.2.2.2.1
  have P_ := g_.2.2.2.2.1
  have hx2_ := jltj hk_
  simp only [d_F_firstSafe, f_uY a_ S_ g_ hx2_, f_hY hy_, ob_s, sq_safe S_ g_ hk_] <;> rfl
theorem cr_dryIn (h : cIv n L U V I) {k_ : Nat} (hk_ : k_ < qF L) {w_ : Nat} (hw_ : w_ < 10) (ew_ : qs L 1 = jn w_) : d_F_dryIn n (jn k_) I = some (.inr (ydry L k_ w_)) := by
  obtain ⟨hn_, a_, g_, _, _, S_, _, _⟩ := h
  have n10_ : ¬ jn 1 = jn 0 := by decide
  have F_ := g_.1
  have C_ := g_.2.1
  have N_ := g_.2.2.1
  have T_ := g_.2.2.2.1
  have P_ := g_.2.2.2.2.1
  have hx2_ := jltj hk_
  have iw_ : I (n + 7) 1 = jn w_ := (S_.1 1 (by omega)).trans ew_
  simp only [d_F_dryIn, f_fY a_ S_ g_ hx2_, ob_s, iw_, sq_dryIn S_ g_ hk_ hw_] <;> rfl
theorem cr_dryByWind (h : cIv n L U V I) {k_ : Nat} (hk_ : k_ < qF L) {w_ : Nat} (hw_ : w_ < 10) : d_F_dryByWind n (jn k_) (jn w_) I = some (.inr (ydry L k_ w_)) := by
  obtain ⟨hn_, a_, g_, _, _, S_, _, _⟩ := h
  have n10_ : ¬ jn 1 = jn 0 := by decide
  have F_ := g_.1
  have C_ := g_.2.1
  have N_ := g_.2.2.1
  have T_ := g_.2.2.2.1
  have P_ := g_.2.2.2.2.1
  have hx2_ := jltj hk_
  have hy2_ : ¬ jn w_ < jn 0 ∧ ¬ jn 9 < jn w_ := ⟨by rw [jn_lt (by omega) (by omega)]; omega, by rw [jn_lt (by omega) (by omega)]; omega⟩
  simp only [d_F_dryByWind, f_fY a_ S_ g_ hx2_, f_rYi hy2_, ob_s, sq_dryIn S_ g_ hk_ (show w_ < 10 by omega)] <;> rfl
theorem cr_fallsIn (h : cIv n L U V I) {k_ : Nat} (hk_ : k_ < 100) : d_F_fallsIn n (jn k_) I = some (.inr (yfls L k_)) := by
  obtain ⟨hn_, a_, g_, _, _, S_, _, _⟩ := h
  have n10_ : ¬ jn 1 = jn 0 := by decide
  have F_ := g_.1
  have C_ := g_.2.1
  have N_ := g_.2.2.1
  have T_ := g_.2.2.2.1
  have P_ := g_.2.2.2.2.1
  have hy2_ : ¬ jn k_ < jn 0 ∧ ¬ jn 99 < jn k_ := ⟨by rw [jn_lt (by omega) (by omega)]; omega, by rw [jn_lt (by omega) (by omega)]; omega⟩
  have w1_ : I (n + 7) 1 = qs L 1 := S_.1 1 (by omega)
  unfold yfls
  by_cases q_ : qs L 1 < jn 7
  · simp only [d_F_fallsIn, f_t1 a_, f_rYi hy2_, ob_s, w1_, if_pos q_]
  · simp only [d_F_fallsIn, f_t1 a_, f_rYi hy2_, ob_s, w1_, if_neg q_, sq_line S_ g_]
theorem cr_flag (h : cIv n L U V I) {f_ : Nat} (hf_ : f_ < qF L) {k_ : Nat} (hk_ : k_ < 10) : d_F_flag n (jn f_) (jn k_) I = some (.inr (qf L f_ k_)) := by
  obtain ⟨hn_, a_, g_, _, _, S_, _, _⟩ := h
  have n10_ : ¬ jn 1 = jn 0 := by decide
  have F_ := g_.1
  have C_ := g_.2.1
  have N_ := g_.2.2.1
  have T_ := g_.2.2.2.1
  have P_ := g_.2.2.2.2.1
  have hx2_ := jltj hf_
  have hy2_ : ¬ jn k_ < jn 0 ∧ ¬ jn 9 < jn k_ := ⟨by rw [jn_lt (by omega) (by omega)]; omega, by rw [jn_lt (by omega) (by omega)]; omega⟩
  have c_ : k_ = 0 ∨ k_ = 1 ∨ k_ = 2 ∨ k_ = 3 ∨ k_ = 4 ∨ k_ = 5 ∨ k_ = 6 ∨ k_ = 7 ∨ k_ = 8 ∨ k_ = 9 := by omega
  rcases c_ with rfl | rfl | rfl | rfl | rfl | rfl | rfl | rfl | rfl | rfl
  · simp only [d_F_flag, f_fY a_ S_ g_ hx2_, f_rYi hy2_, if_pos (sq_in g_ hf_), sq_n g_ hf_, sq_f S_ hf_ (show 0 < 10 by omega), ob_s, eq_self, if_true, if_false, n10_, not_false_eq_true] <;> rfl
  · simp only [d_F_flag, f_fY a_ S_ g_ hx2_, f_rYi hy2_, if_pos (sq_in g_ hf_), sq_n g_ hf_, (show ¬ jn 1 = jn 0 by decide), sq_f S_ hf_ (show 1 < 10 by omega), ob_s, eq_self, if_true, if_false, n10_, not_false_eq_true] <;> rfl
  · simp only [d_F_flag, f_fY a_ S_ g_ hx2_, f_rYi hy2_, if_pos (sq_in g_ hf_), sq_n g_ hf_, (show ¬ jn 2 = jn 0 by decide), (show ¬ jn 2 = jn 1 by decide), sq_f S_ hf_ (show 2 < 10 by omega), ob_s, eq_self, if_true, if_false, n10_, not_false_eq_true] <;> rfl
  · simp only [d_F_flag, f_fY a_ S_ g_ hx2_, f_rYi hy2_, if_pos (sq_in g_ hf_), sq_n g_ hf_, (show ¬ jn 3 = jn 0 by decide), (show ¬ jn 3 = jn 1 by decide), (show ¬ jn 3 = jn 2 by decide), sq_f S_ hf_ (show 3 < 10 by omega), ob_s, eq_self, if_true, if_false, n10_, not_false_eq_true] <;> rfl
  · simp only [d_F_flag, f_fY a_ S_ g_ hx2_, f_rYi hy2_, if_pos (sq_in g_ hf_), sq_n g_ hf_, (show ¬ jn 4 = jn 0 by decide), (show ¬ jn 4 = jn 1 by decide), (show ¬ jn 4 = jn 2 by decide), (show ¬ jn 4 = jn 3 by decide), sq_f S_ hf_ (show 4 < 10 by omega), ob_s, eq_self, if_true, if_false, n10_, not_false_eq_true] <;> rfl
  · simp only [d_F_flag, f_fY a_ S_ g_ hx2_, f_rYi hy2_, if_pos (sq_in g_ hf_), sq_n g_ hf_, (show ¬ jn 5 = jn 0 by decide), (show ¬ jn 5 = jn 1 by decide), (show ¬ jn 5 = jn 2 by decide), (show ¬ jn 5 = jn 3 by decide), (show ¬ jn 5 = jn 4 by decide), sq_f S_ hf_ (show 5 < 10 by omega), ob_s, eq_self, if_true, if_false, n10_, not_false_eq_true] <;> rfl
  · simp only [d_F_flag, f_fY a_ S_ g_ hx2_, f_rYi hy2_, if_pos (sq_in g_ hf_), sq_n g_ hf_, (show ¬ jn 6 = jn 0 by decide), (show ¬ jn 6 = jn 1 by decide), (show ¬ jn 6 = jn 2 by decide), (show ¬ jn 6 = jn 3 by decide), (show ¬ jn 6 = jn 4 by decide), (show ¬ jn 6 = jn 5 by decide), sq_f S_ hf_ (show 6 < 10 by omega), ob_s, eq_self, if_true, if_false, n10_, not_false_eq_true] <;> rfl
  · simp only [d_F_flag, f_fY a_ S_ g_ hx2_, f_rYi hy2_, if_pos (sq_in g_ hf_), sq_n g_ hf_, (show ¬ jn 7 = jn 0 by decide), (show ¬ jn 7 = jn 1 by decide), (show ¬ jn 7 = jn 2 by decide), (show ¬ jn 7 = jn 3 by decide), (show ¬ jn 7 = jn 4 by decide), (show ¬ jn 7 = jn 5 by decide), (show ¬ jn 7 = jn 6 by decide), sq_f S_ hf_ (show 7 < 10 by omega), ob_s, eq_self, if_true, if_false, n10_, not_false_eq_true] <;> rfl
  · simp only [d_F_flag, f_fY a_ S_ g_ hx2_, f_rYi hy2_, if_pos (sq_in g_ hf_), sq_n g_ hf_, (show ¬ jn 8 = jn 0 by decide), (show ¬ jn 8 = jn 1 by decide), (show ¬ jn 8 = jn 2 by decide), (show ¬ jn 8 = jn 3 by decide), (show ¬ jn 8 = jn 4 by decide), (show ¬ jn 8 = jn 5 by decide), (show ¬ jn 8 = jn 6 by decide), (show ¬ jn 8 = jn 7 by decide), sq_f S_ hf_ (show 8 < 10 by omega), ob_s, eq_self, if_true, if_false, n10_, not_false_eq_true] <;> rfl
  · simp only [d_F_flag, f_fY a_ S_ g_ hx2_, f_rYi hy2_, if_pos (sq_in g_ hf_), sq_n g_ hf_, (show ¬ jn 9 = jn 0 by decide), (show ¬ jn 9 = jn 1 by decide), (show ¬ jn 9 = jn 2 by decide), (show ¬ jn 9 = jn 3 by decide), (show ¬ jn 9 = jn 4 by decide), (show ¬ jn 9 = jn 5 by decide), (show ¬ jn 9 = jn 6 by decide), (show ¬ jn 9 = jn 7 by decide), (show ¬ jn 9 = jn 8 by decide), sq_f S_ hf_ (show 9 < 10 by omega), ob_s, eq_self, if_true, if_false, n10_, not_false_eq_true] <;> rfl
/-- what count tells -/
def ycount (L : LL) (k : Nat) : Int32 := match k with
  | 0 => jn (qC L)
  | 1 => jn (qN L)
  | 2 => jn (qT L)
  | 3 => jn (qP L)
  | 4 => jn (qF L)
  | 5 => qs L 0
  | 6 => qs L 1
  | 7 => qct (fun f => qf L f 8 = jn 0) (qF L)
  | 8 => qct (fun f => qf L f 8 = jn 1) (qF L)
  | 9 => qct (fun f => qf L f 8 = jn 2) (qF L)
  | 10 => qct (fun f => qf L f 8 = jn 3) (qF L)
  | 11 => qs L 2
  | 12 => qs L 3
  | 13 => qs L 4
  | 14 => qs L 5
  | _ => qct (fun f => ywhy (ybs L f) = jn 0) (qF L)
/-- what nation tells -/
def ynat (L : LL) (t k : Nat) : Int32 := match k with
  | 0 => qn L t 0
  | 1 => qn L t 1
  | 2 => qn L t 2
  | 3 => yof L t
  | 4 => qct (fun f => qf L f 0 = jn t ∧ ywhy (ybs L f) = jn 0) (qF L)
  | 5 => if qn L t 3 = jn 1 then jn 1 else jn 0
  | _ => yhrs L t
theorem cr_count (h : cIv n L U V I) {k_ : Nat} (hk_ : k_ < 16) : d_F_count n (jn k_) I = some (.inr (ycount L k_)) := by
  obtain ⟨hn_, a_, g_, _, _, S_, _, _⟩ := h
  have n10_ : ¬ jn 1 = jn 0 := by decide
  have F_ := g_.1
  have C_ := g_.2.1
  have N_ := g_.2.2.1
  have T_ := g_.2.2.2.1
  have P_ := g_.2.2.2.2.1
  have hy2_ : ¬ jn k_ < jn 0 ∧ ¬ jn 15 < jn k_ := ⟨by rw [jn_lt (by omega) (by omega)]; omega, by rw [jn_lt (by omega) (by omega)]; omega⟩
  have c_ : k_ = 0 ∨ k_ = 1 ∨ k_ = 2 ∨ k_ = 3 ∨ k_ = 4 ∨ k_ = 5 ∨ k_ = 6 ∨ k_ = 7 ∨ k_ = 8 ∨ k_ = 9 ∨ k_ = 10 ∨ k_ = 11 ∨ k_ = 12 ∨ k_ = 13 ∨ k_ = 14 ∨ k_ = 15 := by omega
  rcases c_ with rfl | rfl | rfl | rfl | rfl | rfl | rfl | rfl | rfl | rfl | rfl | rfl | rfl | rfl | rfl | rfl
  · simp only [d_F_count, f_t1 a_, f_rYi hy2_, S_.2.2.2.1, ob_s, eq_self, if_true, if_false, n10_, not_false_eq_true] <;> rfl
  · simp only [d_F_count, f_t1 a_, f_rYi hy2_, (show ¬ jn 1 = jn 0 by decide), S_.2.2.2.2.1, ob_s, eq_self, if_true, if_false, n10_, not_false_eq_true] <;> rfl
  · simp only [d_F_count, f_t1 a_, f_rYi hy2_, (show ¬ jn 2 = jn 0 by decide), (show ¬ jn 2 = jn 1 by decide), S_.2.2.2.2.2.1, ob_s, eq_self, if_true, if_false, n10_, not_false_eq_true] <;> rfl
  · simp only [d_F_count, f_t1 a_, f_rYi hy2_, (show ¬ jn 3 = jn 0 by decide), (show ¬ jn 3 = jn 1 by decide), (show ¬ jn 3 = jn 2 by decide), S_.2.2.1, ob_s, eq_self, if_true, if_false, n10_, not_false_eq_true] <;> rfl
  · simp only [d_F_count, f_t1 a_, f_rYi hy2_, (show ¬ jn 4 = jn 0 by decide), (show ¬ jn 4 = jn 1 by decide), (show ¬ jn 4 = jn 2 by decide), (show ¬ jn 4 = jn 3 by decide), S_.2.1, ob_s, eq_self, if_true, if_false, n10_, not_false_eq_true] <;> rfl
  · simp only [d_F_count, f_t1 a_, f_rYi hy2_, (show ¬ jn 5 = jn 0 by decide), (show ¬ jn 5 = jn 1 by decide), (show ¬ jn 5 = jn 2 by decide), (show ¬ jn 5 = jn 3 by decide), (show ¬ jn 5 = jn 4 by decide), sq_now S_ (show 0 < 6 by omega), ob_s, eq_self, if_true, if_false, n10_, not_false_eq_true] <;> rfl
  · simp only [d_F_count, f_t1 a_, f_rYi hy2_, (show ¬ jn 6 = jn 0 by decide), (show ¬ jn 6 = jn 1 by decide), (show ¬ jn 6 = jn 2 by decide), (show ¬ jn 6 = jn 3 by decide), (show ¬ jn 6 = jn 4 by decide), (show ¬ jn 6 = jn 5 by decide), sq_now S_ (show 1 < 6 by omega), ob_s, eq_self, if_true, if_false, n10_, not_false_eq_true] <;> rfl
  · simp only [d_F_count, f_t1 a_, f_rYi hy2_, (show ¬ jn 7 = jn 0 by decide), (show ¬ jn 7 = jn 1 by decide), (show ¬ jn 7 = jn 2 by decide), (show ¬ jn 7 = jn 3 by decide), (show ¬ jn 7 = jn 4 by decide), (show ¬ jn 7 = jn 5 by decide), (show ¬ jn 7 = jn 6 by decide), sq_flagsAt S_ g_, ob_s, eq_self, if_true, if_false, n10_, not_false_eq_true] <;> rfl
  · simp only [d_F_count, f_t1 a_, f_rYi hy2_, (show ¬ jn 8 = jn 0 by decide), (show ¬ jn 8 = jn 1 by decide), (show ¬ jn 8 = jn 2 by decide), (show ¬ jn 8 = jn 3 by decide), (show ¬ jn 8 = jn 4 by decide), (show ¬ jn 8 = jn 5 by decide), (show ¬ jn 8 = jn 6 by decide), (show ¬ jn 8 = jn 7 by decide), sq_flagsAt S_ g_, ob_s, eq_self, if_true, if_false, n10_, not_false_eq_true] <;> rfl
  · simp only [d_F_count, f_t1 a_, f_rYi hy2_, (show ¬ jn 9 = jn 0 by decide), (show ¬ jn 9 = jn 1 by decide), (show ¬ jn 9 = jn 2 by decide), (show ¬ jn 9 = jn 3 by decide), (show ¬ jn 9 = jn 4 by decide), (show ¬ jn 9 = jn 5 by decide), (show ¬ jn 9 = jn 6 by decide), (show ¬ jn 9 = jn 7 by decide), (show ¬ jn 9 = jn 8 by decide), sq_flagsAt S_ g_, ob_s, eq_self, if_true, if_false, n10_, not_false_eq_true] <;> rfl
  · simp only [d_F_count, f_t1 a_, f_rYi hy2_, (show ¬ jn 10 = jn 0 by decide), (show ¬ jn 10 = jn 1 by decide), (show ¬ jn 10 = jn 2 by decide), (show ¬ jn 10 = jn 3 by decide), (show ¬ jn 10 = jn 4 by decide), (show ¬ jn 10 = jn 5 by decide), (show ¬ jn 10 = jn 6 by decide), (show ¬ jn 10 = jn 7 by decide), (show ¬ jn 10 = jn 8 by decide), (show ¬ jn 10 = jn 9 by decide), sq_flagsAt S_ g_, ob_s, eq_self, if_true, if_false, n10_, not_false_eq_true] <;> rfl
  · simp only [d_F_count, f_t1 a_, f_rYi hy2_, (show ¬ jn 11 = jn 0 by decide), (show ¬ jn 11 = jn 1 by decide), (show ¬ jn 11 = jn 2 by decide), (show ¬ jn 11 = jn 3 by decide), (show ¬ jn 11 = jn 4 by decide), (show ¬ jn 11 = jn 5 by decide), (show ¬ jn 11 = jn 6 by decide), (show ¬ jn 11 = jn 7 by decide), (show ¬ jn 11 = jn 8 by decide), (show ¬ jn 11 = jn 9 by decide), (show ¬ jn 11 = jn 10 by decide), sq_now S_ (show 2 < 6 by omega), ob_s, eq_self, if_true, if_false, n10_, not_false_eq_true] <;> rfl
  · simp only [d_F_count, f_t1 a_, f_rYi hy2_, (show ¬ jn 12 = jn 0 by decide), (show ¬ jn 12 = jn 1 by decide), (show ¬ jn 12 = jn 2 by decide), (show ¬ jn 12 = jn 3 by decide), (show ¬ jn 12 = jn 4 by decide), (show ¬ jn 12 = jn 5 by decide), (show ¬ jn 12 = jn 6 by decide), (show ¬ jn 12 = jn 7 by decide), (show ¬ jn 12 = jn 8 by decide), (show ¬ jn 12 = jn 9 by decide), (show ¬ jn 12 = jn 10 by decide), (show ¬ jn 12 = jn 11 by decide), sq_now S_ (show 3 < 6 by omega), ob_s, eq_self, if_true, if_false, n10_, not_false_eq_true] <;> rfl
  · simp only [d_F_count, f_t1 a_, f_rYi hy2_, (show ¬ jn 13 = jn 0 by decide), (show ¬ jn 13 = jn 1 by decide), (show ¬ jn 13 = jn 2 by decide), (show ¬ jn 13 = jn 3 by decide), (show ¬ jn 13 = jn 4 by decide), (show ¬ jn 13 = jn 5 by decide), (show ¬ jn 13 = jn 6 by decide), (show ¬ jn 13 = jn 7 by decide), (show ¬ jn 13 = jn 8 by decide), (show ¬ jn 13 = jn 9 by decide), (show ¬ jn 13 = jn 10 by decide), (show ¬ jn 13 = jn 11 by decide), (show ¬ jn 13 = jn 12 by decide), sq_now S_ (show 4 < 6 by omega), ob_s, eq_self, if_true, if_false, n10_, not_false_eq_true] <;> rfl
  · simp only [d_F_count, f_t1 a_, f_rYi hy2_, (show ¬ jn 14 = jn 0 by decide), (show ¬ jn 14 = jn 1 by decide), (show ¬ jn 14 = jn 2 by decide), (show ¬ jn 14 = jn 3 by decide), (show ¬ jn 14 = jn 4 by decide), (show ¬ jn 14 = jn 5 by decide), (show ¬ jn 14 = jn 6 by decide), (show ¬ jn 14 = jn 7 by decide), (show ¬ jn 14 = jn 8 by decide), (show ¬ jn 14 = jn 9 by decide), (show ¬ jn 14 = jn 10 by decide), (show ¬ jn 14 = jn 11 by decide), (show ¬ jn 14 = jn 12 by decide), (show ¬ jn 14 = jn 13 by decide), sq_now S_ (show 5 < 6 by omega), ob_s, eq_self, if_true, if_false, n10_, not_false_eq_true] <;> rfl
  · simp only [d_F_count, f_t1 a_, f_rYi hy2_, (show ¬ jn 15 = jn 0 by decide), (show ¬ jn 15 = jn 1 by decide), (show ¬ jn 15 = jn 2 by decide), (show ¬ jn 15 = jn 3 by decide), (show ¬ jn 15 = jn 4 by decide), (show ¬ jn 15 = jn 5 by decide), (show ¬ jn 15 = jn 6 by decide), (show ¬ jn 15 = jn 7 by decide), (show ¬ jn 15 = jn 8 by decide), (show ¬ jn 15 = jn 9 by decide), (show ¬ jn 15 = jn 10 by decide), (show ¬ jn 15 = jn 11 by decide), (show ¬ jn 15 = jn 12 by decide), (show ¬ jn 15 = jn 13 by decide), (show ¬ jn 15 = jn 14 by decide), sq_readyFlags S_ g_, ob_s, eq_self, if_true, if_false, n10_, not_false_eq_true] <;> rfl
theorem cr_nation (h : cIv n L U V I) {t_ : Nat} (ht_ : t_ < qN L) {k_ : Nat} (hk_ : k_ < 7) : d_F_nation n (jn t_) (jn k_) I = some (.inr (ynat L t_ k_)) := by
  obtain ⟨hn_, a_, g_, _, _, S_, _, _⟩ := h
  have n10_ : ¬ jn 1 = jn 0 := by decide
  have F_ := g_.1
  have C_ := g_.2.1
  have N_ := g_.2.2.1
  have T_ := g_.2.2.2.1
  have P_ := g_.2.2.2.2.1
  have hx2_ := jltj ht_
  obtain ⟨r0_, r1_, r2_, _⟩ := S_.2.2.2.2.2.2.2.1 t_ ht_
  have n3_ := (g_.2.2.2.2.2.2.1 t_ ht_).2.2.2
  have hy2_ : ¬ jn k_ < jn 0 ∧ ¬ jn 6 < jn k_ := ⟨by rw [jn_lt (by omega) (by omega)]; omega, by rw [jn_lt (by omega) (by omega)]; omega⟩
  have c_ : k_ = 0 ∨ k_ = 1 ∨ k_ = 2 ∨ k_ = 3 ∨ k_ = 4 ∨ k_ = 5 ∨ k_ = 6 := by omega
  rcases c_ with rfl | rfl | rfl | rfl | rfl | rfl | rfl
  · simp only [d_F_nation, f_nY a_ S_ g_ hx2_, f_rYi hy2_, if_pos (sq_nin g_ ht_), sq_nn g_ ht_, r0_, ob_s, eq_self, if_true, if_false, n10_, not_false_eq_true] <;> rfl
  · simp only [d_F_nation, f_nY a_ S_ g_ hx2_, f_rYi hy2_, (show ¬ jn 1 = jn 0 by decide), if_pos (sq_nin g_ ht_), sq_nn g_ ht_, r1_, ob_s, eq_self, if_true, if_false, n10_, not_false_eq_true] <;> rfl
  · simp only [d_F_nation, f_nY a_ S_ g_ hx2_, f_rYi hy2_, (show ¬ jn 2 = jn 0 by decide), (show ¬ jn 2 = jn 1 by decide), if_pos (sq_nin g_ ht_), sq_nn g_ ht_, r2_, ob_s, eq_self, if_true, if_false, n10_, not_false_eq_true] <;> rfl
  · simp only [d_F_nation, f_nY a_ S_ g_ hx2_, f_rYi hy2_, (show ¬ jn 3 = jn 0 by decide), (show ¬ jn 3 = jn 1 by decide), (show ¬ jn 3 = jn 2 by decide), sq_flagsOf S_ g_, ob_s, eq_self, if_true, if_false, n10_, not_false_eq_true] <;> rfl
  · simp only [d_F_nation, f_nY a_ S_ g_ hx2_, f_rYi hy2_, (show ¬ jn 4 = jn 0 by decide), (show ¬ jn 4 = jn 1 by decide), (show ¬ jn 4 = jn 2 by decide), (show ¬ jn 4 = jn 3 by decide), sq_readyOf S_ g_, ob_s, eq_self, if_true, if_false, n10_, not_false_eq_true] <;> rfl
  · rcases n3_ with w_ | ⟨w_, _⟩
    · have nw_ : ¬ qn L t_ 3 = jn 1 := by rw [w_]; decide
      rw [show ynat L t_ 5 = jn 0 from if_neg nw_]
      simp only [d_F_nation, f_nY a_ S_ g_ hx2_, f_rYi hy2_, (show ¬ jn 5 = jn 0 by decide), (show ¬ jn 5 = jn 1 by decide), (show ¬ jn 5 = jn 2 by decide), (show ¬ jn 5 = jn 3 by decide), (show ¬ jn 5 = jn 4 by decide), sq_hand S_ g_ ht_, nw_, ob_s, eq_self, if_true, if_false, n10_, not_false_eq_true] <;> rfl
    · rw [show ynat L t_ 5 = jn 1 from if_pos w_]
      simp only [d_F_nation, f_nY a_ S_ g_ hx2_, f_rYi hy2_, (show ¬ jn 5 = jn 0 by decide), (show ¬ jn 5 = jn 1 by decide), (show ¬ jn 5 = jn 2 by decide), (show ¬ jn 5 = jn 3 by decide), (show ¬ jn 5 = jn 4 by decide), sq_hand S_ g_ ht_, w_, ob_s, eq_self, if_true, if_false, n10_, not_false_eq_true] <;> rfl
  · simp only [d_F_nation, f_nY a_ S_ g_ hx2_, f_rYi hy2_, (show ¬ jn 6 = jn 0 by decide), (show ¬ jn 6 = jn 1 by decide), (show ¬ jn 6 = jn 2 by decide), (show ¬ jn 6 = jn 3 by decide), (show ¬ jn 6 = jn 4 by decide), (show ¬ jn 6 = jn 5 by decide), sq_hours S_ g_ ht_, ob_s, eq_self, if_true, if_false, n10_, not_false_eq_true] <;> rfl
theorem cr_tub1 (h : cIv n L U V I) {t_ : Nat} (ht_ : t_ < qT L) : d_F_tub n (jn t_) (jn 1) I = some (.inr (jn (qt L t_).length)) := by
  obtain ⟨hn_, a_, g_, _, _, S_, _, _⟩ := h
  have n10_ : ¬ jn 1 = jn 0 := by decide
  have F_ := g_.1
  have C_ := g_.2.1
  have N_ := g_.2.2.1
  have T_ := g_.2.2.2.1
  have P_ := g_.2.2.2.2.1
  have hx2_ := jltj ht_
  have hy2_ : ¬ jn 1 < jn 0 ∧ ¬ jn 4 < jn 1 := by decide
  simp only [d_F_tub, f_uY a_ S_ g_ hx2_, f_rYi hy2_, (show ¬ jn 1 = jn 0 by decide), if_pos (sq_tin g_ ht_), sq_tn g_ ht_, sq_many S_ ht_, ob_s, eq_self, if_true, if_false, n10_, not_false_eq_true] <;> rfl
theorem cr_inTub (h : cIv n L U V I) {k_ : Nat} (hk_ : k_ < qT L) {x2 : Int32} : d_F_inTub n (jn k_) x2 I = some (.inr (yin L k_ x2)) := by
  obtain ⟨hn_, a_, g_, _, _, S_, _, _⟩ := h
  have n10_ : ¬ jn 1 = jn 0 := by decide
  have F_ := g_.1
  have C_ := g_.2.1
  have N_ := g_.2.2.1
  have T_ := g_.2.2.2.1
  have P_ := g_.2.2.2.2.1
  have hx2_ := jltj hk_
  unfold d_F_inTub
  rw [f_uY a_ S_ g_ hx2_, ob_s]
  dsimp only
  rw [sq_inT S_ g_ hk_, ob_s]
end CLS
