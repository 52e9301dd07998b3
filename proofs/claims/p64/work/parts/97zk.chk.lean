/-! String.checkIndex goes through, by wip/gen/p64/x64h.py -/
section XCHK
variable {G : z_G} {j pc n : Nat} {ls : ev_L} {st r : List Value} {w : ev_W} {o : Option Value ⊕ Nat} {w1 : ev_W} {t : List Bool}
def zx_chk (pc n : Nat) (z : ev_ME) (ins : Instr) (len : Nat) : Bool := match ins with
  | .invokestatic ix => xn pc len n 3 && (Nat.beq ix 9 && (Nat.beq (ev_own1 z) 26 && (Nat.ble 2 (ev_fr z) && Nat.ble 43 (ev_lo z))))
  | _ => false
theorem x_chk {i m9 : Int32} (h : z_all (z_at j pc (zx_chk pc n) :: t) = true) (h0 : ¬ i < 0) (h1 : i < m9) (hcat : Nat.ble (ev_cat r) 8 = true) (kk : z_all t = true → z_R G j n ls r w o w1) : z_R G j pc ls (.int m9 :: .int i :: r) w o w1 := by
  obtain ⟨h2_, z0_, ins_, len_, hz_, hi_, hf_⟩ := z_any h
  unfold zx_chk at hf_
  split at hf_
  · rename_i ix_
    simp only [Bool.and_eq_true] at hf_
    obtain ⟨g1_, g2_, g3_, g6_, g7_⟩ := hf_
    obtain ⟨rfl, rfl⟩ := xn_of g1_
    have g4_ : ix_ = 9 := Nat.eq_of_beq_eq_true g2_
    have g5_ : ev_own1 z0_ = 26 := Nat.eq_of_beq_eq_true g3_
    have g8_ : 2 ≤ ev_fr z0_ := Nat.le_of_ble_eq_true g6_
    have g9_ : 43 ≤ ev_lo z0_ := Nat.le_of_ble_eq_true g7_
    subst g4_
    have hc8 : ev_cat r ≤ 8 := Nat.le_of_ble_eq_true hcat
    intro D cy base ext
    have hk := kk h2_ D cy base ext
    refine ⟨hk.1, hk.2.1, fun z hz p e R s m args below meth c hC H locs cells slots Q L K N9 hM hS hE hc hs hK hN9 hend => ?_⟩
    cases hz_.symm.trans hz
    have ho := hC.2.2.2.2.2.2.2.2.2.2.2.1
    rw [g5_] at ho
    have ho' : "java/lang/StringLatin1" = (ev_y z0_).cls := ho
    have hts_ := hC.2.2.2.2.2.1
    have hw_ : (Cond.methodLink (ev_y z0_).cls 9 zs_yK).before args s = true := by
      rw [← ho']
      exact hts_ _ (zs_all (zs_in (k := .methodLink "java/lang/StringLatin1" 9 zs_yK) 24 rfl))
    have hz1_ := (hC.2.2.2.2.2.2.2.2.2.1.2.2.2.2.2.2.2.2.1).2.1.kept hS.2.1
    have hfr_ := hC.2.2.2.2.2.2.2.2.2.2.2.2.2.1
    have hlo_ := hC.2.2.2.2.2.2.2.2.2.2.2.2.2.2.1
    have b1_ := hk.1
    have b2_ := hk.2.1
    refine va_callv (va_runS (As := [.int i, .int m9]) (rest := r.map (ev_v base ext)) ⟨hC.1, hC.2.1, hC.2.2.2.1, hC.2.2.2.2.1, hts_⟩ (zs_mK G.2.2 (Z := H.size) h0 h1) ⟨callB_of 2 hts_ (zs_gall (zs_in 2 rfl)) rfl rfl rfl (hts_ _ (zs_all (zs_in (k := .initialized "java/lang/String") 18 rfl))) hw_ (by decide +kernel) ⟨by show 1 + 1 ≤ _; omega, by show 8 + (2 + 11) + 22 ≤ _; omega⟩, hts_ _ (zs_all (zs_in (k := .static zs_yK) 3 rfl))⟩ ⟨fun a9 U g mk q => ⟨q.1, va_Zq.moved (Vm.Alike.refl U.vm) q.2.1, q.2.2⟩, fun U hU hW => ⟨rfl, by
      have h9_ := (va_Zq.moved hW.alike hz1_).narrow (B := zs_N) (fun q hq => hq.elim)
      rw [← hU] at h9_
      exact h9_, congrArg Array.size hU⟩⟩ rfl rfl hE.2.1 rfl (ev_monr hc8) hi_ ⟨by show cells + 0 ≤ _; omega, by show slots + 0 ≤ _; omega⟩) hS (fun q _ h9_ => h9_.elim) (fun q h9_ => h9_.elim) (fun u t H1 locs1 ht hvm hw9 hB hz9 hk9 hS9 => ?_)
    exact hk.2.2 z0_ hz_ p e R s m args below meth c hC H1 locs1 cells slots Q L K N9 (ev_M_kz hM (by rw [← ht]; exact hB) (fun q hq => hk9 q hq (fun h9_ => h9_))) hS9 hE hc hs hK hN9 hend
  · cases hf_
end XCHK
