/-! the objects after the constructors, by wip/gen/zw.py -/
/-- numbers, as the texts write them -/
def jn (k : Nat) : Int32 := Int32.ofNat k
def jg (k : Nat) : Int32 := Int32.ofInt (-(k : Int))
def z_kl : List Nat := [7, 9, 2, 4, 10, 10, 10, 10, 10, 5, 12, 0, 0, 0, 0, 0, 0, 0, 0, 0, 0, 0, 0, 10, 10, 10, 10, 10, 2, 4, 10, 10, 10, 10, 10, 5, 12, 0, 0, 0, 0, 0, 0, 0, 0, 0, 0, 0, 0, 10, 10, 10, 10, 10, 3, 1, 13, 5, 12, 0, 0, 0, 0, 0, 0, 0, 0, 0, 0, 0, 0, 10, 10, 10, 10, 5, 12, 0, 0, 0, 0, 0, 0, 0, 0, 0, 0, 0, 0, 10, 10, 10, 10, 5, 12, 0, 0, 0, 0, 0, 0, 0, 0, 0, 0, 0, 0, 10, 10, 10, 10, 5, 12, 0, 0, 0, 0, 0, 0, 0, 0, 0, 0, 0, 0, 10, 10, 10, 10, 5, 12, 0, 0, 0, 0, 0, 0, 0, 0, 0, 0, 0, 0, 10, 10, 10, 10, 5, 12, 0, 0, 0, 0, 0, 0, 0, 0, 0, 0, 0, 0, 10, 10, 10, 10, 5, 12, 0, 0, 0, 0, 0, 0, 0, 0, 0, 0, 0, 0, 10, 10, 10, 10, 5, 12, 0, 0, 0, 0, 0, 0, 0, 0, 0, 0, 0, 0, 10, 10, 10, 10, 13, 5, 12, 0, 0, 0, 0, 0, 0, 0, 0, 0, 0, 0, 0, 10, 10, 10, 10, 5, 12, 0, 0, 0, 0, 0, 0, 0, 0, 0, 0, 0, 0, 10, 10, 10, 10, 11, 6, 10, 8, 10, 10, 10, 10, 11, 9, 10, 9, 14, 15]
def z_ll : List Nat := [10, 500, 3, 9, 6, 4, 4, 4, 3, 12, 12, 10, 10, 10, 10, 10, 10, 10, 10, 10, 10, 10, 10, 3, 18, 8, 4, 12, 3, 9, 6, 4, 4, 4, 3, 12, 12, 10, 10, 10, 10, 10, 10, 10, 10, 10, 10, 10, 10, 3, 18, 8, 4, 12, 9, 5, 8, 12, 12, 10, 10, 10, 10, 10, 10, 10, 10, 10, 10, 10, 10, 3, 18, 8, 4, 12, 12, 10, 10, 10, 10, 10, 10, 10, 10, 10, 10, 10, 10, 3, 18, 8, 4, 12, 12, 10, 10, 10, 10, 10, 10, 10, 10, 10, 10, 10, 10, 3, 18, 8, 4, 12, 12, 10, 10, 10, 10, 10, 10, 10, 10, 10, 10, 10, 10, 3, 18, 8, 4, 12, 12, 10, 10, 10, 10, 10, 10, 10, 10, 10, 10, 10, 10, 3, 18, 8, 4, 12, 12, 10, 10, 10, 10, 10, 10, 10, 10, 10, 10, 10, 10, 3, 18, 8, 4, 12, 12, 10, 10, 10, 10, 10, 10, 10, 10, 10, 10, 10, 10, 3, 18, 8, 4, 12, 12, 10, 10, 10, 10, 10, 10, 10, 10, 10, 10, 10, 10, 3, 18, 8, 4, 2, 12, 12, 10, 10, 10, 10, 10, 10, 10, 10, 10, 10, 10, 10, 3, 18, 8, 4, 12, 12, 10, 10, 10, 10, 10, 10, 10, 10, 10, 10, 10, 10, 3, 18, 8, 4, 2, 2, 100, 20, 173, 173, 1384, 346, 2, 500, 12, 60, 1, 1]
def z_rl : List (List (Nat × Nat)) := [[(0, 1), (7, 54), (8, 55), (9, 239)], [], [(0, 3), (1, 9), (2, 27)], [(4, 4), (5, 5), (6, 6), (7, 7), (8, 8)], [], [], [], [], [], [(7, 10), (8, 23), (9, 24), (10, 25), (11, 26)], [(0, 11), (1, 12), (2, 13), (3, 14), (4, 15), (5, 16), (6, 17), (7, 18), (8, 19), (9, 20), (10, 21), (11, 22)], [], [], [], [], [], [], [], [], [], [], [], [], [], [], [], [], [], [(0, 29), (1, 35), (2, 53)], [(4, 30), (5, 31), (6, 32), (7, 33), (8, 34)], [], [], [], [], [], [(7, 36), (8, 49), (9, 50), (10, 51), (11, 52)], [(0, 37), (1, 38), (2, 39), (3, 40), (4, 41), (5, 42), (6, 43), (7, 44), (8, 45), (9, 46), (10, 47), (11, 48)], [], [], [], [], [], [], [], [], [], [], [], [], [], [], [], [], [], [], [(1, 238), (3, 56), (4, 201)], [(0, 57), (1, 75), (2, 93), (3, 111), (4, 129), (5, 147), (6, 165), (7, 183)], [(7, 58), (8, 71), (9, 72), (10, 73), (11, 74)], [(0, 59), (1, 60), (2, 61), (3, 62), (4, 63), (5, 64), (6, 65), (7, 66), (8, 67), (9, 68), (10, 69), (11, 70)], [], [], [], [], [], [], [], [], [], [], [], [], [], [], [], [], [(7, 76), (8, 89), (9, 90), (10, 91), (11, 92)], [(0, 77), (1, 78), (2, 79), (3, 80), (4, 81), (5, 82), (6, 83), (7, 84), (8, 85), (9, 86), (10, 87), (11, 88)], [], [], [], [], [], [], [], [], [], [], [], [], [], [], [], [], [(7, 94), (8, 107), (9, 108), (10, 109), (11, 110)], [(0, 95), (1, 96), (2, 97), (3, 98), (4, 99), (5, 100), (6, 101), (7, 102), (8, 103), (9, 104), (10, 105), (11, 106)], [], [], [], [], [], [], [], [], [], [], [], [], [], [], [], [], [(7, 112), (8, 125), (9, 126), (10, 127), (11, 128)], [(0, 113), (1, 114), (2, 115), (3, 116), (4, 117), (5, 118), (6, 119), (7, 120), (8, 121), (9, 122), (10, 123), (11, 124)], [], [], [], [], [], [], [], [], [], [], [], [], [], [], [], [], [(7, 130), (8, 143), (9, 144), (10, 145), (11, 146)], [(0, 131), (1, 132), (2, 133), (3, 134), (4, 135), (5, 136), (6, 137), (7, 138), (8, 139), (9, 140), (10, 141), (11, 142)], [], [], [], [], [], [], [], [], [], [], [], [], [], [], [], [], [(7, 148), (8, 161), (9, 162), (10, 163), (11, 164)], [(0, 149), (1, 150), (2, 151), (3, 152), (4, 153), (5, 154), (6, 155), (7, 156), (8, 157), (9, 158), (10, 159), (11, 160)], [], [], [], [], [], [], [], [], [], [], [], [], [], [], [], [], [(7, 166), (8, 179), (9, 180), (10, 181), (11, 182)], [(0, 167), (1, 168), (2, 169), (3, 170), (4, 171), (5, 172), (6, 173), (7, 174), (8, 175), (9, 176), (10, 177), (11, 178)], [], [], [], [], [], [], [], [], [], [], [], [], [], [], [], [], [(7, 184), (8, 197), (9, 198), (10, 199), (11, 200)], [(0, 185), (1, 186), (2, 187), (3, 188), (4, 189), (5, 190), (6, 191), (7, 192), (8, 193), (9, 194), (10, 195), (11, 196)], [], [], [], [], [], [], [], [], [], [], [], [], [], [], [], [], [(0, 202), (1, 220)], [(7, 203), (8, 216), (9, 217), (10, 218), (11, 219)], [(0, 204), (1, 205), (2, 206), (3, 207), (4, 208), (5, 209), (6, 210), (7, 211), (8, 212), (9, 213), (10, 214), (11, 215)], [], [], [], [], [], [], [], [], [], [], [], [], [], [], [], [], [(7, 221), (8, 234), (9, 235), (10, 236), (11, 237)], [(0, 222), (1, 223), (2, 224), (3, 225), (4, 226), (5, 227), (6, 228), (7, 229), (8, 230), (9, 231), (10, 232), (11, 233)], [], [], [], [], [], [], [], [], [], [], [], [], [], [], [], [], [], [(1, 240)], [], [(1, 242), (2, 243), (3, 244), (4, 245), (5, 246), (8, 247), (17, 248), (18, 249)], [], [], [], [], [], [], [], [], [], []]
def z_k (a : Nat) : Nat := z_kl.getD a 99
def z_l (a : Nat) : Nat := z_ll.getD a 0
def z_r (a i : Nat) : Option Nat := ev_look i (z_rl.getD a [])
/-- the object a is of the kind c -/
def zt (c a : Nat) : Bool := Nat.blt a 252 && Nat.beq (z_k a) c
def zr (a i b : Nat) : Bool := match z_r a i with
  | some x => Nat.beq x b
  | none => false
def z_Ok (G : z_G) (w : ev_W) : Prop := G.2.2.stackTraces = false ∧ w_n w = 252 ∧ w_l w = false ∧ (∀ a, a < 252 → w_K w a = z_k a ∧ w_L w a = z_l a) ∧ (∀ a i b, z_r a i = some b → w_R w a i = some b) ∧ w_L w ev_S = G.1
theorem zt_n {G : z_G} {w : ev_W} {c a : Nat} (ok : z_Ok G w) (h : zt c a = true) : a < w_n w ∧ w_n w ≤ 1000 ∧ w_K w a = c ∧ w_L w a = z_l a := by
  unfold zt at h
  rw [Bool.and_eq_true] at h
  obtain ⟨h1_, h2_⟩ := h
  have h3_ : a < 252 := Nat.le_of_ble_eq_true h1_
  obtain ⟨-, k1_, -, k2_, -, -⟩ := ok
  exact ⟨by rw [k1_]; exact h3_, by rw [k1_]; decide, by rw [(k2_ a h3_).1]; exact Nat.eq_of_beq_eq_true h2_, (k2_ a h3_).2⟩
theorem zr_R {G : z_G} {w : ev_W} {a i b : Nat} (ok : z_Ok G w) (h : zr a i b = true) : w_R w a i = some b := by
  unfold zr at h
  split at h
  · rename_i x_ hx_
    rw [ok.2.2.2.2.1 a i x_ hx_, Nat.eq_of_beq_eq_true h]
  · cases h
def z_sh_st (s : Nat) : List Bool := [zr s 7 (s + 1), zr s 8 (s + 14), zr s 9 (s + 15), zr s 10 (s + 16), zr s 11 (s + 17), zt 12 (s + 1), zt 10 (s + 14), zt 10 (s + 15), zt 10 (s + 16), zt 10 (s + 17), Nat.beq (z_l (s + 1)) 12, Nat.beq (z_l (s + 14)) 3, Nat.beq (z_l (s + 15)) 18, Nat.beq (z_l (s + 16)) 8, Nat.beq (z_l (s + 17)) 4, (List.range 12).all (fun f => zr (s + 1) f (s + 2 + f)), (List.range 12).all (fun f => zt 0 (s + 2 + f))]
theorem z_sh_st_all : (List.range 252).all (fun s => !(zt 5 s) || (z_sh_st s).all (fun b => b)) = true := by decide +kernel
theorem z_sh_st_of {s : Nat} (h : zt 5 s = true) : (z_sh_st s).all (fun b => b) = true := by
  have h1_ := List.all_eq_true.mp z_sh_st_all s (List.mem_range.mpr (by
    unfold zt at h
    rw [Bool.and_eq_true] at h
    exact Nat.le_of_ble_eq_true h.1))
  rw [h] at h1_
  exact h1_
theorem zst_r7 {s : Nat} (h : zt 5 s = true) : (zr s 7 (s + 1)) = true := List.all_eq_true.mp (z_sh_st_of h) _ (List.mem_of_getElem? (i := 0) rfl)
theorem zst_r8 {s : Nat} (h : zt 5 s = true) : (zr s 8 (s + 14)) = true := List.all_eq_true.mp (z_sh_st_of h) _ (List.mem_of_getElem? (i := 1) rfl)
theorem zst_r9 {s : Nat} (h : zt 5 s = true) : (zr s 9 (s + 15)) = true := List.all_eq_true.mp (z_sh_st_of h) _ (List.mem_of_getElem? (i := 2) rfl)
theorem zst_r10 {s : Nat} (h : zt 5 s = true) : (zr s 10 (s + 16)) = true := List.all_eq_true.mp (z_sh_st_of h) _ (List.mem_of_getElem? (i := 3) rfl)
theorem zst_r11 {s : Nat} (h : zt 5 s = true) : (zr s 11 (s + 17)) = true := List.all_eq_true.mp (z_sh_st_of h) _ (List.mem_of_getElem? (i := 4) rfl)
theorem zst_k1 {s : Nat} (h : zt 5 s = true) : (zt 12 (s + 1)) = true := List.all_eq_true.mp (z_sh_st_of h) _ (List.mem_of_getElem? (i := 5) rfl)
theorem zst_k14 {s : Nat} (h : zt 5 s = true) : (zt 10 (s + 14)) = true := List.all_eq_true.mp (z_sh_st_of h) _ (List.mem_of_getElem? (i := 6) rfl)
theorem zst_k15 {s : Nat} (h : zt 5 s = true) : (zt 10 (s + 15)) = true := List.all_eq_true.mp (z_sh_st_of h) _ (List.mem_of_getElem? (i := 7) rfl)
theorem zst_k16 {s : Nat} (h : zt 5 s = true) : (zt 10 (s + 16)) = true := List.all_eq_true.mp (z_sh_st_of h) _ (List.mem_of_getElem? (i := 8) rfl)
theorem zst_k17 {s : Nat} (h : zt 5 s = true) : (zt 10 (s + 17)) = true := List.all_eq_true.mp (z_sh_st_of h) _ (List.mem_of_getElem? (i := 9) rfl)
theorem zst_b1 {s : Nat} (h : zt 5 s = true) : (Nat.beq (z_l (s + 1)) 12) = true := List.all_eq_true.mp (z_sh_st_of h) _ (List.mem_of_getElem? (i := 10) rfl)
theorem zst_b14 {s : Nat} (h : zt 5 s = true) : (Nat.beq (z_l (s + 14)) 3) = true := List.all_eq_true.mp (z_sh_st_of h) _ (List.mem_of_getElem? (i := 11) rfl)
theorem zst_b15 {s : Nat} (h : zt 5 s = true) : (Nat.beq (z_l (s + 15)) 18) = true := List.all_eq_true.mp (z_sh_st_of h) _ (List.mem_of_getElem? (i := 12) rfl)
theorem zst_b16 {s : Nat} (h : zt 5 s = true) : (Nat.beq (z_l (s + 16)) 8) = true := List.all_eq_true.mp (z_sh_st_of h) _ (List.mem_of_getElem? (i := 13) rfl)
theorem zst_b17 {s : Nat} (h : zt 5 s = true) : (Nat.beq (z_l (s + 17)) 4) = true := List.all_eq_true.mp (z_sh_st_of h) _ (List.mem_of_getElem? (i := 14) rfl)
theorem zst_fr {s : Nat} (h : zt 5 s = true) : ((List.range 12).all (fun f => zr (s + 1) f (s + 2 + f))) = true := List.all_eq_true.mp (z_sh_st_of h) _ (List.mem_of_getElem? (i := 15) rfl)
theorem zst_fk {s : Nat} (h : zt 5 s = true) : ((List.range 12).all (fun f => zt 0 (s + 2 + f))) = true := List.all_eq_true.mp (z_sh_st_of h) _ (List.mem_of_getElem? (i := 16) rfl)
theorem zst_l1 {s : Nat} (h : zt 5 s = true) : z_l (s + 1) = 12 := Nat.eq_of_beq_eq_true (zst_b1 h)
theorem zst_l14 {s : Nat} (h : zt 5 s = true) : z_l (s + 14) = 3 := Nat.eq_of_beq_eq_true (zst_b14 h)
theorem zst_l15 {s : Nat} (h : zt 5 s = true) : z_l (s + 15) = 18 := Nat.eq_of_beq_eq_true (zst_b15 h)
theorem zst_l16 {s : Nat} (h : zt 5 s = true) : z_l (s + 16) = 8 := Nat.eq_of_beq_eq_true (zst_b16 h)
theorem zst_l17 {s : Nat} (h : zt 5 s = true) : z_l (s + 17) = 4 := Nat.eq_of_beq_eq_true (zst_b17 h)
def z_sh_su (s : Nat) : List Bool := [zr s 4 (s + 1), zr s 5 (s + 2), zr s 6 (s + 3), zr s 7 (s + 4), zr s 8 (s + 5), zt 10 (s + 1), zt 10 (s + 2), zt 10 (s + 3), zt 10 (s + 4), zt 10 (s + 5), Nat.beq (z_l (s + 1)) 6, Nat.beq (z_l (s + 2)) 4, Nat.beq (z_l (s + 3)) 4, Nat.beq (z_l (s + 4)) 4, Nat.beq (z_l (s + 5)) 3]
theorem z_sh_su_all : (List.range 252).all (fun s => !(zt 4 s) || (z_sh_su s).all (fun b => b)) = true := by decide +kernel
theorem z_sh_su_of {s : Nat} (h : zt 4 s = true) : (z_sh_su s).all (fun b => b) = true := by
  have h1_ := List.all_eq_true.mp z_sh_su_all s (List.mem_range.mpr (by
    unfold zt at h
    rw [Bool.and_eq_true] at h
    exact Nat.le_of_ble_eq_true h.1))
  rw [h] at h1_
  exact h1_
theorem zsu_r4 {s : Nat} (h : zt 4 s = true) : (zr s 4 (s + 1)) = true := List.all_eq_true.mp (z_sh_su_of h) _ (List.mem_of_getElem? (i := 0) rfl)
theorem zsu_r5 {s : Nat} (h : zt 4 s = true) : (zr s 5 (s + 2)) = true := List.all_eq_true.mp (z_sh_su_of h) _ (List.mem_of_getElem? (i := 1) rfl)
theorem zsu_r6 {s : Nat} (h : zt 4 s = true) : (zr s 6 (s + 3)) = true := List.all_eq_true.mp (z_sh_su_of h) _ (List.mem_of_getElem? (i := 2) rfl)
theorem zsu_r7 {s : Nat} (h : zt 4 s = true) : (zr s 7 (s + 4)) = true := List.all_eq_true.mp (z_sh_su_of h) _ (List.mem_of_getElem? (i := 3) rfl)
theorem zsu_r8 {s : Nat} (h : zt 4 s = true) : (zr s 8 (s + 5)) = true := List.all_eq_true.mp (z_sh_su_of h) _ (List.mem_of_getElem? (i := 4) rfl)
theorem zsu_k4 {s : Nat} (h : zt 4 s = true) : (zt 10 (s + 1)) = true := List.all_eq_true.mp (z_sh_su_of h) _ (List.mem_of_getElem? (i := 5) rfl)
theorem zsu_k5 {s : Nat} (h : zt 4 s = true) : (zt 10 (s + 2)) = true := List.all_eq_true.mp (z_sh_su_of h) _ (List.mem_of_getElem? (i := 6) rfl)
theorem zsu_k6 {s : Nat} (h : zt 4 s = true) : (zt 10 (s + 3)) = true := List.all_eq_true.mp (z_sh_su_of h) _ (List.mem_of_getElem? (i := 7) rfl)
theorem zsu_k7 {s : Nat} (h : zt 4 s = true) : (zt 10 (s + 4)) = true := List.all_eq_true.mp (z_sh_su_of h) _ (List.mem_of_getElem? (i := 8) rfl)
theorem zsu_k8 {s : Nat} (h : zt 4 s = true) : (zt 10 (s + 5)) = true := List.all_eq_true.mp (z_sh_su_of h) _ (List.mem_of_getElem? (i := 9) rfl)
theorem zsu_b4 {s : Nat} (h : zt 4 s = true) : (Nat.beq (z_l (s + 1)) 6) = true := List.all_eq_true.mp (z_sh_su_of h) _ (List.mem_of_getElem? (i := 10) rfl)
theorem zsu_b5 {s : Nat} (h : zt 4 s = true) : (Nat.beq (z_l (s + 2)) 4) = true := List.all_eq_true.mp (z_sh_su_of h) _ (List.mem_of_getElem? (i := 11) rfl)
theorem zsu_b6 {s : Nat} (h : zt 4 s = true) : (Nat.beq (z_l (s + 3)) 4) = true := List.all_eq_true.mp (z_sh_su_of h) _ (List.mem_of_getElem? (i := 12) rfl)
theorem zsu_b7 {s : Nat} (h : zt 4 s = true) : (Nat.beq (z_l (s + 4)) 4) = true := List.all_eq_true.mp (z_sh_su_of h) _ (List.mem_of_getElem? (i := 13) rfl)
theorem zsu_b8 {s : Nat} (h : zt 4 s = true) : (Nat.beq (z_l (s + 5)) 3) = true := List.all_eq_true.mp (z_sh_su_of h) _ (List.mem_of_getElem? (i := 14) rfl)
theorem zsu_l4 {s : Nat} (h : zt 4 s = true) : z_l (s + 1) = 6 := Nat.eq_of_beq_eq_true (zsu_b4 h)
theorem zsu_l5 {s : Nat} (h : zt 4 s = true) : z_l (s + 2) = 4 := Nat.eq_of_beq_eq_true (zsu_b5 h)
theorem zsu_l6 {s : Nat} (h : zt 4 s = true) : z_l (s + 3) = 4 := Nat.eq_of_beq_eq_true (zsu_b6 h)
theorem zsu_l7 {s : Nat} (h : zt 4 s = true) : z_l (s + 4) = 4 := Nat.eq_of_beq_eq_true (zsu_b7 h)
theorem zsu_l8 {s : Nat} (h : zt 4 s = true) : z_l (s + 5) = 3 := Nat.eq_of_beq_eq_true (zsu_b8 h)
def z_sh_la (s : Nat) : List Bool := [zr s 0 (s + 1), zr s 1 (s + 7), zr s 2 (s + 25), zt 4 (s + 1), zt 5 (s + 7), zt 10 (s + 25), Nat.beq (z_l (s + 25)) 12]
theorem z_sh_la_all : (List.range 252).all (fun s => !(zt 2 s) || (z_sh_la s).all (fun b => b)) = true := by decide +kernel
theorem z_sh_la_of {s : Nat} (h : zt 2 s = true) : (z_sh_la s).all (fun b => b) = true := by
  have h1_ := List.all_eq_true.mp z_sh_la_all s (List.mem_range.mpr (by
    unfold zt at h
    rw [Bool.and_eq_true] at h
    exact Nat.le_of_ble_eq_true h.1))
  rw [h] at h1_
  exact h1_
theorem zla_r0 {s : Nat} (h : zt 2 s = true) : (zr s 0 (s + 1)) = true := List.all_eq_true.mp (z_sh_la_of h) _ (List.mem_of_getElem? (i := 0) rfl)
theorem zla_r1 {s : Nat} (h : zt 2 s = true) : (zr s 1 (s + 7)) = true := List.all_eq_true.mp (z_sh_la_of h) _ (List.mem_of_getElem? (i := 1) rfl)
theorem zla_r2 {s : Nat} (h : zt 2 s = true) : (zr s 2 (s + 25)) = true := List.all_eq_true.mp (z_sh_la_of h) _ (List.mem_of_getElem? (i := 2) rfl)
theorem zla_k0 {s : Nat} (h : zt 2 s = true) : (zt 4 (s + 1)) = true := List.all_eq_true.mp (z_sh_la_of h) _ (List.mem_of_getElem? (i := 3) rfl)
theorem zla_k1 {s : Nat} (h : zt 2 s = true) : (zt 5 (s + 7)) = true := List.all_eq_true.mp (z_sh_la_of h) _ (List.mem_of_getElem? (i := 4) rfl)
theorem zla_k2 {s : Nat} (h : zt 2 s = true) : (zt 10 (s + 25)) = true := List.all_eq_true.mp (z_sh_la_of h) _ (List.mem_of_getElem? (i := 5) rfl)
theorem zla_b2 {s : Nat} (h : zt 2 s = true) : (Nat.beq (z_l (s + 25)) 12) = true := List.all_eq_true.mp (z_sh_la_of h) _ (List.mem_of_getElem? (i := 6) rfl)
theorem zla_l2 {s : Nat} (h : zt 2 s = true) : z_l (s + 25) = 12 := Nat.eq_of_beq_eq_true (zla_b2 h)
theorem z_ok_lt {i : Int32} {n : Nat} (h : ev_ok i n = true) : i.toNatClampNeg < n := by
  unfold ev_ok at h
  rw [Bool.and_eq_true] at h
  exact of_decide_eq_true h.2
theorem zst_fR {s : Nat} {i : Int32} (h : zt 5 s = true) (hi : ev_ok i 12 = true) : zr (s + 1) (z_n i) (s + 2 + z_n i) = true := List.all_eq_true.mp (zst_fr h) _ (List.mem_range.mpr (z_ok_lt hi))
theorem zst_fK {s : Nat} {i : Int32} (h : zt 5 s = true) (hi : ev_ok i 12 = true) : zt 0 (s + 2 + z_n i) = true := List.all_eq_true.mp (zst_fk h) _ (List.mem_range.mpr (z_ok_lt hi))
theorem zhb_all : (List.range 8).all (fun k => zr 56 k (57 + 18 * k) && zt 5 (57 + 18 * k)) = true := by decide +kernel
theorem zhs_all : (List.range 2).all (fun k => zr 201 k (202 + 18 * k) && zt 5 (202 + 18 * k)) = true := by decide +kernel
theorem zhb_R {i : Int32} (hi : ev_ok i 8 = true) : zr 56 (z_n i) (57 + 18 * z_n i) = true := (Bool.and_eq_true_iff.mp (List.all_eq_true.mp zhb_all _ (List.mem_range.mpr (z_ok_lt hi)))).1
theorem zhb_K {i : Int32} (hi : ev_ok i 8 = true) : zt 5 (57 + 18 * z_n i) = true := (Bool.and_eq_true_iff.mp (List.all_eq_true.mp zhb_all _ (List.mem_range.mpr (z_ok_lt hi)))).2
theorem zhs_R {i : Int32} (hi : ev_ok i 2 = true) : zr 201 (z_n i) (202 + 18 * z_n i) = true := (Bool.and_eq_true_iff.mp (List.all_eq_true.mp zhs_all _ (List.mem_range.mpr (z_ok_lt hi)))).1
theorem zhs_K {i : Int32} (hi : ev_ok i 2 = true) : zt 5 (202 + 18 * z_n i) = true := (Bool.and_eq_true_iff.mp (List.all_eq_true.mp zhs_all _ (List.mem_range.mpr (z_ok_lt hi)))).2
section YRUL
variable {G : z_G} {j pc n : Nat} {ls : ev_L} {st r : List Value} {w : ev_W} {I : z_H} {o : Option Value ⊕ Nat} {w1 : ev_W} {t : List Bool}
theorem y_geti {ci k a : Nat} (ok : z_Ok G w) (h : z_all (z_is j pc (zf_geti pc ci k n) :: t) = true) (ha : zt ci a = true) (kk : z_all t = true → z_R G j n ls (.int (I a k) :: r) (z_w w I) o w1) : z_R G j pc ls (.ref a :: r) (z_w w I) o w1 := z_geti h (zt_n ok ha).1 (zt_n ok ha).2.2.1 kk
theorem y_getr {ci k a b : Nat} (ok : z_Ok G w) (h : z_all (z_is j pc (zf_getr pc ci k n) :: t) = true) (ha : zt ci a = true) (hr : zr a k b = true) (kk : z_all t = true → z_R G j n ls (.ref b :: r) (z_w w I) o w1) : z_R G j pc ls (.ref a :: r) (z_w w I) o w1 := z_getr h (zt_n ok ha).1 (zt_n ok ha).2.2.1 (show w_R w a k = some b from zr_R ok hr) kk
theorem y_getm {ci k a b : Nat} (ok : z_Ok G w) (h : z_all (z_is j pc (zf_getr pc ci k n) :: t) = true) (ha : zt ci a = true) (hr : w_R w a k = some b) (kk : z_all t = true → z_R G j n ls (.ref b :: r) (z_w w I) o w1) : z_R G j pc ls (.ref a :: r) (z_w w I) o w1 := z_getr h (zt_n ok ha).1 (zt_n ok ha).2.2.1 (show w_R w a k = some b from hr) kk
theorem y_puti {ci k a : Nat} {x : Int32} (ok : z_Ok G w) (h : z_all (z_is j pc (zf_puti pc ci k n) :: t) = true) (ha : zt ci a = true) (kk : z_all t = true → z_R G j n ls r (z_w w (ev_u2 I a k x)) o w1) : z_R G j pc ls (.int x :: .ref a :: r) (z_w w I) o w1 := z_puti h (zt_n ok ha).1 (zt_n ok ha).2.2.1 kk
theorem y_putz {ci k a : Nat} {x : Int32} (ok : z_Ok G w) (h : z_all (z_is j pc (zf_putz pc ci k n) :: t) = true) (ha : zt ci a = true) (hx : x = 0 ∨ x = 1) (kk : z_all t = true → z_R G j n ls r (z_w w (ev_u2 I a k x)) o w1) : z_R G j pc ls (.int x :: .ref a :: r) (z_w w I) o w1 := z_putz h (zt_n ok ha).1 (zt_n ok ha).2.2.1 hx kk
theorem y_putr {ci k a b : Nat} (ok : z_Ok G w) (h : z_all (z_is j pc (zf_putr pc ci k n) :: t) = true) (ha : zt ci a = true) (kk : z_all t = true → z_R G j n ls r (z_w (w_sR w a k (some b)) I) o w1) : z_R G j pc ls (.ref b :: .ref a :: r) (z_w w I) o w1 := z_putr h (zt_n ok ha).1 (zt_n ok ha).2.2.1 kk
theorem y_iald {a N : Nat} {i : Int32} (ok : z_Ok G w) (h : z_all (z_is j pc (zf_iald pc n) :: t) = true) (ha : zt 10 a = true) (hL : z_l a = N) (hi : ev_ok i N = true) (kk : z_all t = true → z_R G j n ls (.int (I a (z_n i)) :: r) (z_w w I) o w1) : z_R G j pc ls (.int i :: .ref a :: r) (z_w w I) o w1 := z_iald h (zt_n ok ha).1 (zt_n ok ha).2.1 (zt_n ok ha).2.2.1 (by rw [(zt_n ok ha).2.2.2, hL]; exact hi) kk
theorem y_bald {a N : Nat} {i : Int32} (ok : z_Ok G w) (h : z_all (z_is j pc (zf_bald pc n) :: t) = true) (ha : zt 9 a = true) (hL : z_l a = N) (hi : ev_ok i N = true) (kk : z_all t = true → z_R G j n ls (.int (I a (z_n i)) :: r) (z_w w I) o w1) : z_R G j pc ls (.int i :: .ref a :: r) (z_w w I) o w1 := z_bald h (zt_n ok ha).1 (zt_n ok ha).2.1 (zt_n ok ha).2.2.1 (Or.inl rfl) (by rw [(zt_n ok ha).2.2.2, hL]; exact hi) kk
theorem y_zald {a N : Nat} {i : Int32} (ok : z_Ok G w) (h : z_all (z_is j pc (zf_bald pc n) :: t) = true) (ha : zt 11 a = true) (hL : z_l a = N) (hi : ev_ok i N = true) (kk : z_all t = true → z_R G j n ls (.int (I a (z_n i)) :: r) (z_w w I) o w1) : z_R G j pc ls (.int i :: .ref a :: r) (z_w w I) o w1 := z_bald h (zt_n ok ha).1 (zt_n ok ha).2.1 (zt_n ok ha).2.2.1 (Or.inr rfl) (by rw [(zt_n ok ha).2.2.2, hL]; exact hi) kk
theorem y_fald {a b : Nat} {i : Int32} (ok : z_Ok G w) (h : z_all (z_is j pc (zf_aald pc n) :: t) = true) (ha : zt 12 a = true) (hL : z_l a = 12) (hi : ev_ok i 12 = true) (hr : zr a (z_n i) b = true) (kk : z_all t = true → z_R G j n ls (.ref b :: r) (z_w w I) o w1) : z_R G j pc ls (.int i :: .ref a :: r) (z_w w I) o w1 := z_aald h (zt_n ok ha).1 (zt_n ok ha).2.1 (zt_n ok ha).2.2.1 (Or.inl rfl) (zr_R ok hr) (by rw [(zt_n ok ha).2.2.2, hL]; exact hi) kk
theorem y_sald {a b N : Nat} {i : Int32} (ok : z_Ok G w) (h : z_all (z_is j pc (zf_aald pc n) :: t) = true) (ha : zt 13 a = true) (hL : z_l a = N) (hi : ev_ok i N = true) (hr : zr a (z_n i) b = true) (kk : z_all t = true → z_R G j n ls (.ref b :: r) (z_w w I) o w1) : z_R G j pc ls (.int i :: .ref a :: r) (z_w w I) o w1 := z_aald h (zt_n ok ha).1 (zt_n ok ha).2.1 (zt_n ok ha).2.2.1 (Or.inr rfl) (zr_R ok hr) (by rw [(zt_n ok ha).2.2.2, hL]; exact hi) kk
theorem y_iast {a N : Nat} {i x : Int32} (ok : z_Ok G w) (h : z_all (z_is j pc (zf_iast pc n) :: t) = true) (ha : zt 10 a = true) (hL : z_l a = N) (hi : ev_ok i N = true) (kk : z_all t = true → z_R G j n ls r (z_w w (ev_u2 I a (z_n i) x)) o w1) : z_R G j pc ls (.int x :: .int i :: .ref a :: r) (z_w w I) o w1 := z_iast h (zt_n ok ha).1 (zt_n ok ha).2.1 (zt_n ok ha).2.2.1 (by rw [(zt_n ok ha).2.2.2, hL]; exact hi) kk
theorem y_bast {a N : Nat} {i x : Int32} (ok : z_Ok G w) (h : z_all (z_is j pc (zf_bast pc n) :: t) = true) (ha : zt 9 a = true) (hL : z_l a = N) (hi : ev_ok i N = true) (kk : z_all t = true → z_R G j n ls r (z_w w (ev_u2 I a (z_n i) (vp_nar .byte x))) o w1) : z_R G j pc ls (.int x :: .int i :: .ref a :: r) (z_w w I) o w1 := z_bast h (zt_n ok ha).1 (zt_n ok ha).2.1 (zt_n ok ha).2.2.1 (by rw [(zt_n ok ha).2.2.2, hL]; exact hi) kk
theorem y_zast {a N : Nat} {i x : Int32} (ok : z_Ok G w) (h : z_all (z_is j pc (zf_zast pc n) :: t) = true) (ha : zt 11 a = true) (hL : z_l a = N) (hi : ev_ok i N = true) (kk : z_all t = true → z_R G j n ls r (z_w w (ev_u2 I a (z_n i) (vp_nar .boolean x))) o w1) : z_R G j pc ls (.int x :: .int i :: .ref a :: r) (z_w w I) o w1 := z_zast h (zt_n ok ha).1 (zt_n ok ha).2.1 (zt_n ok ha).2.2.1 (by rw [(zt_n ok ha).2.2.2, hL]; exact hi) kk
theorem y_alen {a : Nat} (ok : z_Ok G w) (h : z_all (z_is j pc (zf_alen pc n) :: t) = true) (ha : zt 10 a = true) (kk : z_all t = true → z_R G j n ls (.int (Int32.ofNat (z_l a)) :: r) (z_w w I) o w1) : z_R G j pc ls (.ref a :: r) (z_w w I) o w1 := z_alen h (zt_n ok ha).1 (zt_n ok ha).2.1 (by rw [show w_K (z_w w I) a = 10 from (zt_n ok ha).2.2.1]; decide) (by rw [show w_K (z_w w I) a = 10 from (zt_n ok ha).2.2.1]; decide) (fun h9_ => by rw [show w_L (z_w w I) a = z_l a from (zt_n ok ha).2.2.2]; exact kk h9_)
/-- an int, nothing, or an object comes back -/
theorem y_cv {j2 na ow a : Nat} {as rest : List Value} {v : Option Value} {I2 : z_H} (ok : z_Ok G w) (h : z_all (z_is j pc (zf_cv pc j2 na ow n) :: t) = true) (hst : st = as.reverse ++ .ref a :: rest) (hlen : as.length = na) (hcat : Nat.ble (ev_cat rest) 8 = true) (ha : zt ow a = true) (hc : z_K G j2 (.ref a :: as) (z_w w I) (.inl v) (z_w w I2)) (kk : z_all t = true → z_R G j n ls (v.toList ++ rest) (z_w w I2) o w1) : z_R G j pc ls st (z_w w I) o w1 := z_callV h hst hlen hcat (zt_n ok ha).1 (zt_n ok ha).2.2.1 hc kk
theorem y_cvx {j2 na ow a E : Nat} {as rest : List Value} {w2 : ev_W} (ok : z_Ok G w) (h : z_all (z_is j pc (zf_cv pc j2 na ow n) :: t) = true) (hst : st = as.reverse ++ .ref a :: rest) (hnh : z_nh j = true) (hlen : as.length = na) (hcat : Nat.ble (ev_cat rest) 8 = true) (ha : zt ow a = true) (hc : z_K G j2 (.ref a :: as) (z_w w I) (.inr E) w2) : z_R G j pc ls st (z_w w I) (.inr E) w2 := z_callVx h hst hnh hlen hcat (zt_n ok ha).1 (zt_n ok ha).2.2.1 hc
/-- fewer locals are known -/
def z_sub (x y : ev_L) : Prop := match x, y with
  | [], [] => True
  | a :: r, b :: s => (a = none ∨ a = b) ∧ z_sub r s
  | _, _ => False
theorem z_s0 : z_sub [] [] := trivial
theorem z_sn {b : Option Value} {x y : ev_L} (h : z_sub x y) : z_sub (none :: x) (b :: y) := ⟨Or.inl rfl, h⟩
theorem z_se {a : Option Value} {x y : ev_L} (h : z_sub x y) : z_sub (a :: x) (a :: y) := ⟨Or.inr rfl, h⟩
theorem z_sub_of : ∀ {x y : ev_L}, z_sub x y → x.length = y.length ∧ ∀ (i : Nat) (v : Value), x[i]? = some (some v) → y[i]? = some (some v)
  | [], [], _ => ⟨rfl, fun i v hv => by simp at hv⟩
  | [], _ :: _, h => absurd h (fun q => q)
  | _ :: _, [], h => absurd h (fun q => q)
  | a :: r, b :: s, h => by
    obtain ⟨h1_, h2_⟩ := h
    obtain ⟨i1_, i2_⟩ := z_sub_of h2_
    refine ⟨by rw [List.length_cons, List.length_cons, i1_], fun i v hv => ?_⟩
    cases i with
    | zero =>
      rw [List.getElem?_cons_zero] at hv ⊢
      rcases h1_ with h1_ | h1_
      · rw [h1_] at hv; cases hv
      · rw [← h1_]; exact hv
    | succ i =>
      rw [List.getElem?_cons_succ] at hv ⊢
      exact i2_ i v hv
theorem z_weak {ls2 : ev_L} {w : ev_W} (h : z_R G j pc ls2 st w o w1) (hs : z_sub ls2 ls) : z_R G j pc ls st w o w1 := by
  intro D cy base ext
  obtain ⟨h1_, h2_, h3_⟩ := h D cy base ext
  obtain ⟨i1_, i2_⟩ := z_sub_of hs
  exact ⟨h1_, h2_, fun z hz p e R s m args below meth c hC H locs cells slots Q L K N hM hS hE => h3_ z hz p e R s m args below meth c hC H locs cells slots Q L K N hM hS ⟨by rw [i1_]; exact hE.1, hE.2.1, hE.2.2.1, fun i v hv => hE.2.2.2 i v (i2_ i v hv)⟩⟩
end YRUL
theorem z_it_o {σ ρ : Type} {f : σ → Option (σ ⊕ ρ)} {n : Nat} {s : σ} {r : ρ} (h : z_it f (n + 1) s = some r) : ∃ q, f s = some q ∧ (match q with
    | .inl s' => z_it f n s' = some r
    | .inr r' => r' = r) := by
  rcases z_it_s h with ⟨s', h1_, h2_⟩ | h1_
  · exact ⟨_, h1_, h2_⟩
  · exact ⟨_, h1_, rfl⟩
def z_F : Nat := 100000
/-- where the class's laundry stands; where the parser's -/
def z_fc (w : ev_W) (n : Nat) : Prop := w_R w 0 5 = some n ∧ zt 2 n = true
def z_pc (w : ev_W) (a : Nat) : Prop := w_R w 54 2 = some 1 ∧ w_R w 54 8 = some a ∧ zt 2 a = true
/-- an outcome: an exception, or an answer -/
def z_o {α : Type} (f : α → Option Value) (q : Nat ⊕ α) : Option Value ⊕ Nat := match q with
  | .inl E => .inr E
  | .inr v => .inl (f v)
def z_ow {α : Type} (w : ev_W) (q : Nat ⊕ α) : ev_W := match q with
  | .inl _ => w_th w
  | .inr _ => w
abbrev z_vi (x : Int32) : Option Value := some (.int x)
abbrev z_vv (_ : Unit) : Option Value := none
abbrev z_vf (x : UInt32) : Option Value := some (.float x)
abbrev z_vd (x : UInt64) : Option Value := some (.double x)
