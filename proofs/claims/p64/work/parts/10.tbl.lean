/-! tables, by wip/gen/gen.py -/
/-- the table's pieces: a word by its piece and its place there -/
def ev_chs : List (List Cond) := [k2_sels lw_privs, tables_1_1, tables_1_2, tables_1_3, tables_1_4, tables_1_5, tables_1_6, tables_1_7, tables_1_8]
set_option maxRecDepth 100000 in
theorem ev_chs_in : ∀ c ∈ ev_chs, ∀ w ∈ c, w ∈ lw_tbl := by
  have h0_ : ∀ w ∈ tables_1, w ∈ lw_tbl := fun w hw => List.mem_append.mpr (Or.inr hw)
  have h1_ : ∀ w ∈ tables_1_1, w ∈ tables_1 := fun w hw => by
    unfold tables_1
    simp only [List.mem_append]
    exact Or.inl hw
  have h2_ : ∀ w ∈ tables_1_2, w ∈ tables_1 := fun w hw => by
    unfold tables_1
    simp only [List.mem_append]
    exact Or.inr (Or.inl hw)
  have h3_ : ∀ w ∈ tables_1_3, w ∈ tables_1 := fun w hw => by
    unfold tables_1
    simp only [List.mem_append]
    exact Or.inr (Or.inr (Or.inl hw))
  have h4_ : ∀ w ∈ tables_1_4, w ∈ tables_1 := fun w hw => by
    unfold tables_1
    simp only [List.mem_append]
    exact Or.inr (Or.inr (Or.inr (Or.inl hw)))
  have h5_ : ∀ w ∈ tables_1_5, w ∈ tables_1 := fun w hw => by
    unfold tables_1
    simp only [List.mem_append]
    exact Or.inr (Or.inr (Or.inr (Or.inr (Or.inl hw))))
  have h6_ : ∀ w ∈ tables_1_6, w ∈ tables_1 := fun w hw => by
    unfold tables_1
    simp only [List.mem_append]
    exact Or.inr (Or.inr (Or.inr (Or.inr (Or.inr (Or.inl hw)))))
  have h7_ : ∀ w ∈ tables_1_7, w ∈ tables_1 := fun w hw => by
    unfold tables_1
    simp only [List.mem_append]
    exact Or.inr (Or.inr (Or.inr (Or.inr (Or.inr (Or.inr (Or.inl hw))))))
  have h8_ : ∀ w ∈ tables_1_8, w ∈ tables_1 := fun w hw => by
    unfold tables_1
    simp only [List.mem_append]
    exact Or.inr (Or.inr (Or.inr (Or.inr (Or.inr (Or.inr (Or.inr hw))))))
  exact List.forall_mem_cons.mpr ⟨fun w hw => List.mem_append.mpr (Or.inl hw), List.forall_mem_cons.mpr ⟨fun w hw => h0_ w (h1_ w hw), List.forall_mem_cons.mpr ⟨fun w hw => h0_ w (h2_ w hw), List.forall_mem_cons.mpr ⟨fun w hw => h0_ w (h3_ w hw), List.forall_mem_cons.mpr ⟨fun w hw => h0_ w (h4_ w hw), List.forall_mem_cons.mpr ⟨fun w hw => h0_ w (h5_ w hw), List.forall_mem_cons.mpr ⟨fun w hw => h0_ w (h6_ w hw), List.forall_mem_cons.mpr ⟨fun w hw => h0_ w (h7_ w hw), List.forall_mem_cons.mpr ⟨fun w hw => h0_ w (h8_ w hw), fun _ h => absurd h List.not_mem_nil⟩⟩⟩⟩⟩⟩⟩⟩⟩
def ev_chw (q : Nat × Nat) : Option Cond := (ev_chs.getD q.1 [])[q.2]?
set_option maxRecDepth 100000 in
theorem ev_chw_in {q : Nat × Nat} {w : Cond} (hq : ev_chw q = some w) : w ∈ lw_tbl := by
  unfold ev_chw at hq
  have hm_ : w ∈ ev_chs.getD q.1 [] := List.mem_of_getElem? hq
  rw [List.getD_eq_getElem?_getD] at hm_
  cases hc_ : ev_chs[q.1]? with
  | none => rw [hc_] at hm_; exact absurd hm_ List.not_mem_nil
  | some c_ => rw [hc_] at hm_; exact ev_chs_in c_ (List.mem_of_getElem? hc_) w hm_
set_option maxRecDepth 100000 in
theorem goodIn_c (ws : List Cond) (ps : List (Nat × Nat)) (hp : ws = ps.filterMap ev_chw) (h : ws.all goodWord = true) : GoodIn lw_tbl ws := by
  intro w hw
  have h1_ := List.all_eq_true.mp h w hw
  rw [hp] at hw
  obtain ⟨q_, -, hq_⟩ := List.mem_filterMap.mp hw
  unfold ev_chw at hq_
  have hm_ : w ∈ ev_chs.getD q_.1 [] := List.mem_of_getElem? hq_
  refine ⟨?_, good_of_word h1_⟩
  rw [List.getD_eq_getElem?_getD] at hm_
  cases hc_ : ev_chs[q_.1]? with
  | none => rw [hc_] at hm_; exact absurd hm_ List.not_mem_nil
  | some c_ => rw [hc_] at hm_; exact ev_chs_in c_ (List.mem_of_getElem? hc_) w hm_
def RX0 : String := "FlagLaundry$Flag"
def TX0 : u_T := fun k => match k with
  | 0 => ("FlagLaundry$Flag", "nation", "I", false)
  | 1 => ("FlagLaundry$Flag", "colours", "I", false)
  | 2 => ("FlagLaundry$Flag", "care", "I", false)
  | 3 => ("FlagLaundry$Flag", "dirt", "I", false)
  | 4 => ("FlagLaundry$Flag", "wet", "I", false)
  | 5 => ("FlagLaundry$Flag", "crease", "I", false)
  | 6 => ("FlagLaundry$Flag", "stains", "I", false)
  | 7 => ("FlagLaundry$Flag", "bleached", "I", false)
  | 8 => ("FlagLaundry$Flag", "place", "I", false)
  | _ => ("FlagLaundry$Flag", "spot", "I", false)
def tyX0 : Nat → FieldType := fun k => match k with
  | 0 => .int
  | 1 => .int
  | 2 => .int
  | 3 => .int
  | 4 => .int
  | 5 => .int
  | 6 => .int
  | 7 => .int
  | 8 => .int
  | _ => .int
theorem nmX0 : ∀ a, a < 10 → ∀ b, b < 10 → a ≠ b → (TX0 a).2.1 ≠ (TX0 b).2.1 := by decide +kernel
theorem tyX0_ok : ∀ k, k < 10 → parseFieldDescriptor (TX0 k).2.2.1 = some (tyX0 k) := by decide +kernel
set_option maxRecDepth 100000 in
theorem ev_layX0 : GoodIn lw_tbl (u_ws RX0 TX0 10) := goodIn_c _ [(1, 147), (1, 149), (1, 151), (1, 153), (1, 155), (1, 157), (1, 159), (1, 161), (1, 163), (1, 165)] (by decide +kernel) (by decide +kernel)
def RX1 : String := "FlagLaundry$History"
def TX1 : u_T := fun k => match k with
  | 0 => ("FlagLaundry$History", "count", "I", false)
  | 1 => ("FlagLaundry$History", "isSaved", "[Z", true)
  | 2 => ("FlagLaundry$History", "oldest", "I", false)
  | 3 => ("FlagLaundry$History", "before", "[LFlagLaundry$State;", true)
  | _ => ("FlagLaundry$History", "saved", "[LFlagLaundry$State;", true)
def tyX1 : Nat → FieldType := fun k => match k with
  | 0 => .int
  | 1 => .array .boolean
  | 2 => .int
  | 3 => .array (.object "FlagLaundry$State")
  | _ => .array (.object "FlagLaundry$State")
theorem nmX1 : ∀ a, a < 5 → ∀ b, b < 5 → a ≠ b → (TX1 a).2.1 ≠ (TX1 b).2.1 := by decide +kernel
theorem tyX1_ok : ∀ k, k < 5 → parseFieldDescriptor (TX1 k).2.2.1 = some (tyX1 k) := by decide +kernel
set_option maxRecDepth 100000 in
theorem ev_layX1 : GoodIn lw_tbl (u_ws RX1 TX1 5) := goodIn_c _ [(2, 51), (2, 53), (2, 55), (2, 57), (2, 59)] (by decide +kernel) (by decide +kernel)
def RX2 : String := "FlagLaundry$Laundry"
def TX2 : u_T := fun k => match k with
  | 0 => ("FlagLaundry$Laundry", "setup", "LFlagLaundry$Setup;", true)
  | 1 => ("FlagLaundry$Laundry", "state", "LFlagLaundry$State;", true)
  | _ => ("FlagLaundry$Laundry", "groupOf", "[I", true)
def tyX2 : Nat → FieldType := fun k => match k with
  | 0 => .object "FlagLaundry$Setup"
  | 1 => .object "FlagLaundry$State"
  | _ => .array .int
theorem nmX2 : ∀ a, a < 3 → ∀ b, b < 3 → a ≠ b → (TX2 a).2.1 ≠ (TX2 b).2.1 := by decide +kernel
theorem tyX2_ok : ∀ k, k < 3 → parseFieldDescriptor (TX2 k).2.2.1 = some (tyX2 k) := by decide +kernel
set_option maxRecDepth 100000 in
theorem ev_layX2 : GoodIn lw_tbl (u_ws RX2 TX2 3) := goodIn_c _ [(1, 232), (1, 234), (1, 236)] (by decide +kernel) (by decide +kernel)
def RX3 : String := "FlagLaundry$Parser"
def TX3 : u_T := fun k => match k with
  | 0 => ("FlagLaundry$Parser", "errorCode", "I", false)
  | 1 => ("FlagLaundry$Parser", "errorPosition", "I", false)
  | 2 => ("FlagLaundry$Parser", "bytes", "[B", false)
  | 3 => ("FlagLaundry$Parser", "length", "I", false)
  | 4 => ("FlagLaundry$Parser", "position", "I", false)
  | 5 => ("FlagLaundry$Parser", "kind", "I", false)
  | 6 => ("FlagLaundry$Parser", "start", "I", false)
  | 7 => ("FlagLaundry$Parser", "value", "I", false)
  | _ => ("FlagLaundry$Parser", "laundry", "LFlagLaundry$Laundry;", false)
def tyX3 : Nat → FieldType := fun k => match k with
  | 0 => .int
  | 1 => .int
  | 2 => .array .byte
  | 3 => .int
  | 4 => .int
  | 5 => .int
  | 6 => .int
  | 7 => .int
  | _ => .object "FlagLaundry$Laundry"
theorem nmX3 : ∀ a, a < 9 → ∀ b, b < 9 → a ≠ b → (TX3 a).2.1 ≠ (TX3 b).2.1 := by decide +kernel
theorem tyX3_ok : ∀ k, k < 9 → parseFieldDescriptor (TX3 k).2.2.1 = some (tyX3 k) := by decide +kernel
set_option maxRecDepth 100000 in
theorem ev_layX3 : GoodIn lw_tbl (u_ws RX3 TX3 9) := goodIn_c _ [(2, 16), (2, 18), (2, 20), (2, 22), (2, 24), (2, 26), (2, 28), (2, 30), (2, 32)] (by decide +kernel) (by decide +kernel)
def RX4 : String := "FlagLaundry$Setup"
def TX4 : u_T := fun k => match k with
  | 0 => ("FlagLaundry$Setup", "pegs", "I", false)
  | 1 => ("FlagLaundry$Setup", "colours", "I", false)
  | 2 => ("FlagLaundry$Setup", "nations", "I", false)
  | 3 => ("FlagLaundry$Setup", "tubs", "I", false)
  | 4 => ("FlagLaundry$Setup", "runs", "[I", true)
  | 5 => ("FlagLaundry$Setup", "due", "[I", true)
  | 6 => ("FlagLaundry$Setup", "fee", "[I", true)
  | 7 => ("FlagLaundry$Setup", "fine", "[I", true)
  | _ => ("FlagLaundry$Setup", "room", "[I", true)
def tyX4 : Nat → FieldType := fun k => match k with
  | 0 => .int
  | 1 => .int
  | 2 => .int
  | 3 => .int
  | 4 => .array .int
  | 5 => .array .int
  | 6 => .array .int
  | 7 => .array .int
  | _ => .array .int
theorem nmX4 : ∀ a, a < 9 → ∀ b, b < 9 → a ≠ b → (TX4 a).2.1 ≠ (TX4 b).2.1 := by decide +kernel
theorem tyX4_ok : ∀ k, k < 9 → parseFieldDescriptor (TX4 k).2.2.1 = some (tyX4 k) := by decide +kernel
set_option maxRecDepth 100000 in
theorem ev_layX4 : GoodIn lw_tbl (u_ws RX4 TX4 9) := goodIn_c _ [(1, 82), (1, 84), (1, 86), (1, 88), (1, 90), (1, 92), (1, 94), (1, 96), (1, 98)] (by decide +kernel) (by decide +kernel)
def RX5 : String := "FlagLaundry$State"
def TX5 : u_T := fun k => match k with
  | 0 => ("FlagLaundry$State", "hour", "I", false)
  | 1 => ("FlagLaundry$State", "wind", "I", false)
  | 2 => ("FlagLaundry$State", "earned", "I", false)
  | 3 => ("FlagLaundry$State", "fined", "I", false)
  | 4 => ("FlagLaundry$State", "washes", "I", false)
  | 5 => ("FlagLaundry$State", "falls", "I", false)
  | 6 => ("FlagLaundry$State", "flagCount", "I", false)
  | 7 => ("FlagLaundry$State", "flags", "[LFlagLaundry$Flag;", true)
  | 8 => ("FlagLaundry$State", "tubSizes", "[I", true)
  | 9 => ("FlagLaundry$State", "tubFlags", "[I", true)
  | 10 => ("FlagLaundry$State", "pegs", "[I", true)
  | _ => ("FlagLaundry$State", "lateThen", "[I", true)
def tyX5 : Nat → FieldType := fun k => match k with
  | 0 => .int
  | 1 => .int
  | 2 => .int
  | 3 => .int
  | 4 => .int
  | 5 => .int
  | 6 => .int
  | 7 => .array (.object "FlagLaundry$Flag")
  | 8 => .array .int
  | 9 => .array .int
  | 10 => .array .int
  | _ => .array .int
theorem nmX5 : ∀ a, a < 12 → ∀ b, b < 12 → a ≠ b → (TX5 a).2.1 ≠ (TX5 b).2.1 := by decide +kernel
theorem tyX5_ok : ∀ k, k < 12 → parseFieldDescriptor (TX5 k).2.2.1 = some (tyX5 k) := by decide +kernel
set_option maxRecDepth 100000 in
theorem ev_layX5 : GoodIn lw_tbl (u_ws RX5 TX5 12) := goodIn_c _ [(1, 200), (1, 202), (1, 204), (1, 206), (1, 208), (1, 210), (1, 212), (1, 214), (1, 216), (1, 218), (1, 220), (1, 222)] (by decide +kernel) (by decide +kernel)
def RX6 : String := "FlagLaundry$Text"
def TX6 : u_T := fun k => match k with
  | 0 => ("FlagLaundry$Text", "length", "I", false)
  | _ => ("FlagLaundry$Text", "bytes", "[I", true)
def tyX6 : Nat → FieldType := fun k => match k with
  | 0 => .int
  | _ => .array .int
theorem nmX6 : ∀ a, a < 2 → ∀ b, b < 2 → a ≠ b → (TX6 a).2.1 ≠ (TX6 b).2.1 := by decide +kernel
theorem tyX6_ok : ∀ k, k < 2 → parseFieldDescriptor (TX6 k).2.2.1 = some (tyX6 k) := by decide +kernel
set_option maxRecDepth 100000 in
theorem ev_layX6 : GoodIn lw_tbl (u_ws RX6 TX6 2) := goodIn_c _ [(2, 70), (2, 72)] (by decide +kernel) (by decide +kernel)
def RX7 : String := "FlagLaundry"
def TX7 : u_T := fun k => match k with
  | 0 => ("FlagLaundry", "buffer", "[B", true)
  | 1 => ("FlagLaundry", "buffered", "I", false)
  | 2 => ("FlagLaundry", "parseError", "I", false)
  | 3 => ("FlagLaundry", "errorPosition", "I", false)
  | 4 => ("FlagLaundry", "loaded", "Z", false)
  | 5 => ("FlagLaundry", "now", "LFlagLaundry$Laundry;", false)
  | 6 => ("FlagLaundry", "spare", "LFlagLaundry$Laundry;", false)
  | 7 => ("FlagLaundry", "parser", "LFlagLaundry$Parser;", true)
  | 8 => ("FlagLaundry", "history", "LFlagLaundry$History;", true)
  | _ => ("FlagLaundry", "text", "LFlagLaundry$Text;", true)
def tyX7 : Nat → FieldType := fun k => match k with
  | 0 => .array .byte
  | 1 => .int
  | 2 => .int
  | 3 => .int
  | 4 => .boolean
  | 5 => .object "FlagLaundry$Laundry"
  | 6 => .object "FlagLaundry$Laundry"
  | 7 => .object "FlagLaundry$Parser"
  | 8 => .object "FlagLaundry$History"
  | _ => .object "FlagLaundry$Text"
theorem nmX7 : ∀ a, a < 10 → ∀ b, b < 10 → a ≠ b → (TX7 a).2.1 ≠ (TX7 b).2.1 := by decide +kernel
theorem tyX7_ok : ∀ k, k < 10 → parseFieldDescriptor (TX7 k).2.2.1 = some (tyX7 k) := by decide +kernel
set_option maxRecDepth 100000 in
theorem ev_layX7 : GoodIn lw_tbl (u_ws RX7 TX7 10) := goodIn_c _ [(2, 85), (2, 87), (2, 89), (2, 91), (2, 93), (2, 95), (2, 97), (2, 99), (2, 101), (2, 103)] (by decide +kernel) (by decide +kernel)
def RX8 : String := "FlagLaundryLaw$Desk"
def TX8 : u_T := fun k => match k with
  | 0 => ("FlagLaundryLaw$Desk", "pegs", "I", false)
  | 1 => ("FlagLaundryLaw$Desk", "hour", "I", false)
  | 2 => ("FlagLaundryLaw$Desk", "wind", "I", false)
  | 3 => ("FlagLaundryLaw$Desk", "earned", "I", false)
  | 4 => ("FlagLaundryLaw$Desk", "fined", "I", false)
  | 5 => ("FlagLaundryLaw$Desk", "washes", "I", false)
  | 6 => ("FlagLaundryLaw$Desk", "fell", "I", false)
  | 7 => ("FlagLaundryLaw$Desk", "puts", "I", false)
  | 8 => ("FlagLaundryLaw$Desk", "runs", "[I", false)
  | 9 => ("FlagLaundryLaw$Desk", "rooms", "[I", false)
  | 10 => ("FlagLaundryLaw$Desk", "nations", "[[I", false)
  | _ => ("FlagLaundryLaw$Desk", "flags", "Ljava/util/ArrayList;", true)
def tyX8 : Nat → FieldType := fun k => match k with
  | 0 => .int
  | 1 => .int
  | 2 => .int
  | 3 => .int
  | 4 => .int
  | 5 => .int
  | 6 => .int
  | 7 => .int
  | 8 => .array .int
  | 9 => .array .int
  | 10 => .array (.array .int)
  | _ => .object "java/util/ArrayList"
theorem nmX8 : ∀ a, a < 12 → ∀ b, b < 12 → a ≠ b → (TX8 a).2.1 ≠ (TX8 b).2.1 := by decide +kernel
theorem tyX8_ok : ∀ k, k < 12 → parseFieldDescriptor (TX8 k).2.2.1 = some (tyX8 k) := by decide +kernel
set_option maxRecDepth 100000 in
theorem ev_layX8 : GoodIn lw_tbl (u_ws RX8 TX8 12) := goodIn_c _ [(5, 193), (5, 195), (5, 197), (5, 199), (5, 201), (5, 203), (5, 205), (5, 207), (5, 209), (5, 211), (5, 213), (5, 215)] (by decide +kernel) (by decide +kernel)
def RX9 : String := "FlagLaundryLaw$Flag"
def TX9 : u_T := fun k => match k with
  | 0 => ("FlagLaundryLaw$Flag", "nation", "I", false)
  | 1 => ("FlagLaundryLaw$Flag", "own", "I", false)
  | 2 => ("FlagLaundryLaw$Flag", "care", "I", false)
  | 3 => ("FlagLaundryLaw$Flag", "dirt", "I", false)
  | 4 => ("FlagLaundryLaw$Flag", "wet", "I", false)
  | 5 => ("FlagLaundryLaw$Flag", "crease", "I", false)
  | 6 => ("FlagLaundryLaw$Flag", "stains", "I", false)
  | 7 => ("FlagLaundryLaw$Flag", "bleached", "I", false)
  | 8 => ("FlagLaundryLaw$Flag", "tub", "I", false)
  | 9 => ("FlagLaundryLaw$Flag", "peg", "I", false)
  | 10 => ("FlagLaundryLaw$Flag", "order", "I", false)
  | _ => ("FlagLaundryLaw$Flag", "away", "Z", false)
def tyX9 : Nat → FieldType := fun k => match k with
  | 0 => .int
  | 1 => .int
  | 2 => .int
  | 3 => .int
  | 4 => .int
  | 5 => .int
  | 6 => .int
  | 7 => .int
  | 8 => .int
  | 9 => .int
  | 10 => .int
  | _ => .boolean
theorem nmX9 : ∀ a, a < 12 → ∀ b, b < 12 → a ≠ b → (TX9 a).2.1 ≠ (TX9 b).2.1 := by decide +kernel
theorem tyX9_ok : ∀ k, k < 12 → parseFieldDescriptor (TX9 k).2.2.1 = some (tyX9 k) := by decide +kernel
set_option maxRecDepth 100000 in
theorem ev_layX9 : GoodIn lw_tbl (u_ws RX9 TX9 12) := goodIn_c _ [(6, 0), (6, 2), (6, 4), (6, 6), (6, 8), (6, 10), (6, 12), (6, 14), (6, 16), (6, 18), (6, 20), (6, 22)] (by decide +kernel) (by decide +kernel)
def RJx4a65c : String := "java/util/ArrayList"
def TJx4a65c : u_T := fun k => match k with
  | 0 => ("java/util/AbstractList", "modCount", "I", false)
  | 1 => ("java/util/ArrayList", "elementData", "[Ljava/lang/Object;", false)
  | _ => ("java/util/ArrayList", "size", "I", false)
def tyJx4a65c : Nat → FieldType := fun k => match k with
  | 0 => .int
  | 1 => .array (.object "java/lang/Object")
  | _ => .int
set_option maxRecDepth 100000 in
theorem nmJx4a65c : ∀ a, a < 3 → ∀ b, b < 3 → a ≠ b → (TJx4a65c a).2.1 ≠ (TJx4a65c b).2.1 := by decide +kernel
set_option maxRecDepth 100000 in
theorem tyJx4a65c_ok : ∀ k, k < 3 → parseFieldDescriptor (TJx4a65c k).2.2.1 = some (tyJx4a65c k) := by decide +kernel
set_option maxRecDepth 100000 in
theorem ev_layJx4a65c : GoodIn lw_tbl (u_ws RJx4a65c TJx4a65c 3) := goodIn_c _ [(5, 180), (5, 176), (5, 178)] (by decide +kernel) (by decide +kernel)
def RJ4 : String := "java/lang/StringBuilder"
def TJ4 : u_T := fun k => match k with
  | 0 => ("java/lang/AbstractStringBuilder", "value", "[B", false)
  | 1 => ("java/lang/AbstractStringBuilder", "coder", "B", false)
  | 2 => ("java/lang/AbstractStringBuilder", "maybeLatin1", "Z", false)
  | _ => ("java/lang/AbstractStringBuilder", "count", "I", false)
def tyJ4 : Nat → FieldType := fun k => match k with
  | 0 => .array .byte
  | 1 => .byte
  | 2 => .boolean
  | _ => .int
set_option maxRecDepth 100000 in
theorem nmJ4 : ∀ a, a < 4 → ∀ b, b < 4 → a ≠ b → (TJ4 a).2.1 ≠ (TJ4 b).2.1 := by decide +kernel
set_option maxRecDepth 100000 in
theorem tyJ4_ok : ∀ k, k < 4 → parseFieldDescriptor (TJ4 k).2.2.1 = some (tyJ4 k) := by decide +kernel
set_option maxRecDepth 100000 in
theorem ev_layJ4 : GoodIn lw_tbl (u_ws RJ4 TJ4 4) := goodIn_c _ [(6, 201), (6, 203), (6, 205), (6, 207)] (by decide +kernel) (by decide +kernel)
def RJ0 : String := "java/lang/String"
def TJ0 : u_T := fun k => match k with
  | 0 => ("java/lang/String", "value", "[B", true)
  | 1 => ("java/lang/String", "coder", "B", true)
  | 2 => ("java/lang/String", "hash", "I", false)
  | _ => ("java/lang/String", "hashIsZero", "Z", false)
def tyJ0 : Nat → FieldType := fun k => match k with
  | 0 => .array .byte
  | 1 => .byte
  | 2 => .int
  | _ => .boolean
set_option maxRecDepth 100000 in
theorem nmJ0 : ∀ a, a < 4 → ∀ b, b < 4 → a ≠ b → (TJ0 a).2.1 ≠ (TJ0 b).2.1 := by decide +kernel
set_option maxRecDepth 100000 in
theorem tyJ0_ok : ∀ k, k < 4 → parseFieldDescriptor (TJ0 k).2.2.1 = some (tyJ0 k) := by decide +kernel
set_option maxRecDepth 100000 in
theorem ev_layJ0 : GoodIn lw_tbl (u_ws RJ0 TJ0 4) := goodIn_c _ [(7, 101), (7, 103), (7, 105), (7, 107)] (by decide +kernel) (by decide +kernel)
abbrev vwCl : List vw_C := [(RX0, TX0, 10), (RX1, TX1, 5), (RX2, TX2, 3), (RX3, TX3, 9), (RX4, TX4, 9), (RX5, TX5, 12), (RX6, TX6, 2), (RX7, TX7, 10), (RX8, TX8, 12), (RX0, TX0, 10), (RX0, TX0, 10), (RX0, TX0, 10), (RX0, TX0, 10), (RX0, TX0, 10), (RX0, TX0, 10), (RX0, TX0, 10), (RX9, TX9, 12), (RJx4a65c, TJx4a65c, 3), (RJ4, TJ4, 4), (RJ0, TJ0, 4)]
def ev_own : List String := ["FlagLaundry$Flag", "FlagLaundry$History", "FlagLaundry$Laundry", "FlagLaundry$Parser", "FlagLaundry$Setup", "FlagLaundry$State", "FlagLaundry$Text", "FlagLaundry", "FlagLaundryLaw$Desk", "FlagLaundry$Flag", "FlagLaundry$Flag", "FlagLaundry$Flag", "FlagLaundry$Flag", "FlagLaundry$Flag", "FlagLaundry$Flag", "FlagLaundry$Flag", "FlagLaundryLaw$Flag", "java/util/ArrayList", "java/lang/StringBuilder", "java/lang/String", "FlagLaundryLaw", "java/util/Arrays", "java/lang/Integer", "java/util/AbstractList", "java/util/AbstractCollection", "java/lang/AbstractStringBuilder", "java/lang/StringLatin1", "jdk/internal/util/ArraysSupport", "java/util/Objects", "jdk/internal/util/Preconditions", "jdk/internal/misc/Unsafe"]
/-- kinds of the fields: 0 a number, 1 a boolean, 2 a reference -/
def ev_ft : List (List Nat) := [[0, 0, 0, 0, 0, 0, 0, 0, 0, 0], [0, 2, 0, 2, 2], [2, 2, 2], [0, 0, 2, 0, 0, 0, 0, 0, 2], [0, 0, 0, 0, 2, 2, 2, 2, 2], [0, 0, 0, 0, 0, 0, 0, 2, 2, 2, 2, 2], [0, 2], [2, 0, 0, 0, 1, 2, 2, 2, 2, 2], [0, 0, 0, 0, 0, 0, 0, 0, 2, 2, 2, 2], [0, 0, 0, 0, 0, 0, 0, 0, 0, 0], [0, 0, 0, 0, 0, 0, 0, 0, 0, 0], [0, 0, 0, 0, 0, 0, 0, 0, 0, 0], [0, 0, 0, 0, 0, 0, 0, 0, 0, 0], [0, 0, 0, 0, 0, 0, 0, 0, 0, 0], [0, 0, 0, 0, 0, 0, 0, 0, 0, 0], [0, 0, 0, 0, 0, 0, 0, 0, 0, 0], [0, 0, 0, 0, 0, 0, 0, 0, 0, 0, 0, 1], [0, 2, 0], [2, 3, 1, 0], [2, 3, 0, 1]]
/-- a method: its class's place, name, code, locals, answer, arguments (the receiver not counted), kind (0 static, 1 virtual, 2 a constructor, 3 one of a nest mate), frames, locals' words, handlers -/
abbrev ev_ME : Type := Nat × MethodName × ByteArray × Nat × Option FieldType × Nat × Nat × Nat × Nat × List (Nat × Nat × Nat × Nat)
def ev_own1 (e : ev_ME) : Nat := e.1
def ev_y (e : ev_ME) : MethodName := e.2.1
def ev_by (e : ev_ME) : ByteArray := e.2.2.1
def ev_ml (e : ev_ME) : Nat := e.2.2.2.1
def ev_rt (e : ev_ME) : Option FieldType := e.2.2.2.2.1
def ev_na (e : ev_ME) : Nat := e.2.2.2.2.2.1
def ev_kd (e : ev_ME) : Nat := e.2.2.2.2.2.2.1
def ev_fr (e : ev_ME) : Nat := e.2.2.2.2.2.2.2.1
def ev_lo (e : ev_ME) : Nat := e.2.2.2.2.2.2.2.2.1
def ev_hh (e : ev_ME) : List (Nat × Nat × Nat × Nat) := e.2.2.2.2.2.2.2.2.2
def ev_cw (e : ev_ME) : Cond := match ev_hh e with
  | [] => .code (ev_y e) (ev_by e) (ev_ml e) (ev_rt e)
  | h :: r => .codeWith (ev_y e) (ev_by e) (ev_ml e) (ev_rt e) (h :: r)
def ev_mw (e : ev_ME) : List Cond := ev_cw e :: .initialized (ev_y e).cls :: (match ev_kd e with
  | 0 => [.static (ev_y e)]
  | 1 => [.instanceMethod (ev_y e), .selects (ev_y e).cls (ev_y e) (ev_y e)]
  | _ => [.instanceMethod (ev_y e)])
def ev_ms_0 : List ev_ME := [(0, ⟨"FlagLaundry$Flag", "<init>", "()V"⟩, prog_2_method_1_code, 1, none, 0, 3, 1, 21, []),
  (0, ⟨"FlagLaundry$Flag", "begin", "(IIII)V"⟩, prog_2_method_2_code, 5, none, 4, 1, 1, 22, []),
  (0, ⟨"FlagLaundry$Flag", "become", "(LFlagLaundry$Flag;)V"⟩, prog_2_method_3_code, 2, none, 1, 1, 0, 0, []),
  (0, ⟨"FlagLaundry$Flag", "moveTo", "(II)V"⟩, prog_2_method_4_code, 3, none, 2, 1, 0, 0, []),
  (0, ⟨"FlagLaundry$Flag", "allReasons", "()I"⟩, prog_2_method_5_code, 1, some FieldType.int, 0, 1, 0, 0, []),
  (0, ⟨"FlagLaundry$Flag", "firstReason", "()I"⟩, prog_2_method_6_code, 3, some FieldType.int, 0, 1, 1, 20, []),
  (0, ⟨"FlagLaundry$Flag", "isReady", "()Z"⟩, prog_2_method_7_code, 1, some FieldType.boolean, 0, 1, 1, 20, []),
  (0, ⟨"FlagLaundry$Flag", "bears", "(I)Z"⟩, prog_2_method_8_code, 2, some FieldType.boolean, 1, 1, 0, 0, []),
  (0, ⟨"FlagLaundry$Flag", "reasonAgainstIron", "(I)I"⟩, prog_2_method_9_code, 2, some FieldType.int, 1, 1, 1, 21, []),
  (0, ⟨"FlagLaundry$Flag", "reasonAgainstBleach", "()I"⟩, prog_2_method_10_code, 1, some FieldType.int, 0, 1, 0, 0, []),
  (0, ⟨"FlagLaundry$Flag", "carried", "()I"⟩, prog_2_method_11_code, 1, some FieldType.int, 0, 1, 0, 0, []),
  (0, ⟨"FlagLaundry$Flag", "newStains", "(I)I"⟩, prog_2_method_12_code, 2, some FieldType.int, 1, 1, 0, 0, []),
  (0, ⟨"FlagLaundry$Flag", "dirtAfterWash", "(I)I"⟩, prog_2_method_13_code, 2, some FieldType.int, 1, 1, 1, 21, []),
  (0, ⟨"FlagLaundry$Flag", "takeWash", "(II)V"⟩, prog_2_method_14_code, 3, none, 2, 1, 2, 42, []),
  (0, ⟨"FlagLaundry$Flag", "takeFall", "()V"⟩, prog_2_method_15_code, 1, none, 0, 1, 1, 21, []),
  (0, ⟨"FlagLaundry$Flag", "creaseAfterIron", "(III)I"⟩, prog_2_method_16_code, 3, some FieldType.int, 3, 0, 1, 21, [])]
def ev_ms_1 : List ev_ME := [(0, ⟨"FlagLaundry$Flag", "wetAfterIron", "(II)I"⟩, prog_2_method_17_code, 2, some FieldType.int, 2, 0, 1, 21, []),
  (0, ⟨"FlagLaundry$Flag", "takeIron", "(I)V"⟩, prog_2_method_18_code, 2, none, 1, 1, 2, 43, []),
  (0, ⟨"FlagLaundry$Flag", "takeBleach", "()I"⟩, prog_2_method_19_code, 2, some FieldType.int, 0, 1, 1, 20, []),
  (0, ⟨"FlagLaundry$Flag", "ironsUntilSmooth", "(I)I"⟩, prog_2_method_21_code, 5, some FieldType.int, 1, 1, 2, 43, []),
  (1, ⟨"FlagLaundry$History", "<init>", "()V"⟩, prog_3_method_1_code, 2, none, 0, 2, 3, 62, []),
  (1, ⟨"FlagLaundry$History", "forgetChanges", "()V"⟩, prog_3_method_2_code, 1, none, 0, 1, 0, 0, []),
  (1, ⟨"FlagLaundry$History", "forgetAll", "()V"⟩, prog_3_method_3_code, 2, none, 0, 1, 1, 20, []),
  (1, ⟨"FlagLaundry$History", "keep", "(LFlagLaundry$State;)V"⟩, prog_3_method_4_code, 2, none, 1, 1, 2, 62, []),
  (1, ⟨"FlagLaundry$History", "saveIn", "(ILFlagLaundry$State;)V"⟩, prog_3_method_6_code, 3, none, 2, 1, 2, 62, []),
  (1, ⟨"FlagLaundry$History", "fetchFrom", "(ILFlagLaundry$State;)V"⟩, prog_3_method_7_code, 3, none, 2, 1, 2, 62, []),
  (2, ⟨"FlagLaundry$Laundry", "<init>", "()V"⟩, prog_4_method_1_code, 1, none, 0, 2, 3, 62, []),
  (2, ⟨"FlagLaundry$Laundry", "clear", "()V"⟩, prog_4_method_2_code, 1, none, 0, 1, 2, 43, []),
  (2, ⟨"FlagLaundry$Laundry", "greatestHeat", "(I)I"⟩, prog_4_method_3_code, 4, some FieldType.int, 1, 1, 1, 22, []),
  (2, ⟨"FlagLaundry$Laundry", "dirtIn", "(I)I"⟩, prog_4_method_4_code, 4, some FieldType.int, 1, 1, 1, 22, []),
  (2, ⟨"FlagLaundry$Laundry", "coloursIn", "(I)I"⟩, prog_4_method_5_code, 4, some FieldType.int, 1, 1, 1, 22, []),
  (2, ⟨"FlagLaundry$Laundry", "carriedIn", "(I)I"⟩, prog_4_method_6_code, 4, some FieldType.int, 1, 1, 1, 22, [])]
def ev_ms_2 : List ev_ME := [(2, ⟨"FlagLaundry$Laundry", "runningIn", "(II)I"⟩, prog_4_method_7_code, 3, some FieldType.int, 2, 1, 2, 45, []),
  (2, ⟨"FlagLaundry$Laundry", "stainedBy", "(II)I"⟩, prog_4_method_8_code, 5, some FieldType.int, 2, 1, 1, 22, []),
  (2, ⟨"FlagLaundry$Laundry", "dirtLeftIn", "(II)I"⟩, prog_4_method_9_code, 5, some FieldType.int, 2, 1, 2, 42, []),
  (2, ⟨"FlagLaundry$Laundry", "reasonAgainstPut", "(II)I"⟩, prog_4_method_10_code, 3, some FieldType.int, 2, 1, 0, 0, []),
  (2, ⟨"FlagLaundry$Laundry", "reasonAgainstWash", "(II)I"⟩, prog_4_method_11_code, 3, some FieldType.int, 2, 1, 2, 45, []),
  (2, ⟨"FlagLaundry$Laundry", "washTub", "(II)I"⟩, prog_4_method_12_code, 6, some FieldType.int, 2, 1, 3, 64, []),
  (2, ⟨"FlagLaundry$Laundry", "bestHeatFor", "(I)I"⟩, prog_4_method_13_code, 7, some FieldType.int, 1, 1, 3, 67, []),
  (2, ⟨"FlagLaundry$Laundry", "firstSafeFor", "(II)I"⟩, prog_4_method_14_code, 4, some FieldType.int, 2, 1, 3, 70, []),
  (2, ⟨"FlagLaundry$Laundry", "isSafeWith", "(LFlagLaundry$Flag;II)Z"⟩, prog_4_method_15_code, 5, some FieldType.boolean, 3, 1, 2, 46, []),
  (2, ⟨"FlagLaundry$Laundry", "firstFreePeg", "()I"⟩, prog_4_method_22_code, 2, some FieldType.int, 0, 1, 0, 0, []),
  (2, ⟨"FlagLaundry$Laundry", "canHang", "(I)Z"⟩, prog_4_method_23_code, 2, some FieldType.boolean, 1, 1, 1, 21, []),
  (2, ⟨"FlagLaundry$Laundry", "hangOnFirstFree", "(I)I"⟩, prog_4_method_24_code, 3, some FieldType.int, 1, 1, 2, 44, []),
  (2, ⟨"FlagLaundry$Laundry", "hangAllWet", "()I"⟩, prog_4_method_25_code, 3, some FieldType.int, 0, 1, 3, 66, []),
  (2, ⟨"FlagLaundry$Laundry", "lateAt", "(II)I"⟩, prog_4_method_26_code, 3, some FieldType.int, 2, 1, 1, 21, []),
  (2, ⟨"FlagLaundry$Laundry", "hoursLate", "(I)I"⟩, prog_4_method_27_code, 2, some FieldType.int, 1, 1, 2, 43, []),
  (2, ⟨"FlagLaundry$Laundry", "payForEach", "(II)I"⟩, prog_4_method_28_code, 3, some FieldType.int, 2, 1, 2, 43, [])]
def ev_ms_3 : List ev_ME := [(2, ⟨"FlagLaundry$Laundry", "payAhead", "(II)I"⟩, prog_4_method_29_code, 3, some FieldType.int, 2, 1, 3, 65, []),
  (2, ⟨"FlagLaundry$Laundry", "canHandOver", "(I)Z"⟩, prog_4_method_32_code, 2, some FieldType.boolean, 1, 1, 3, 62, []),
  (2, ⟨"FlagLaundry$Laundry", "handOverAll", "(I)I"⟩, prog_4_method_33_code, 4, some FieldType.int, 1, 1, 4, 87, []),
  (2, ⟨"FlagLaundry$Laundry", "sumsThatDiffer", "()I"⟩, prog_4_method_34_code, 6, some FieldType.int, 0, 1, 1, 23, []),
  (3, ⟨"FlagLaundry$Parser", "<init>", "()V"⟩, prog_5_method_1_code, 1, none, 0, 2, 1, 21, []),
  (3, ⟨"FlagLaundry$Parser", "read", "([BILFlagLaundry$Laundry;)V"⟩, prog_5_method_2_code, 5, none, 3, 1, 6, 153, []),
  (3, ⟨"FlagLaundry$Parser", "failed", "()Z"⟩, prog_5_method_3_code, 1, some FieldType.boolean, 0, 1, 0, 0, []),
  (3, ⟨"FlagLaundry$Parser", "fail", "(I)V"⟩, prog_5_method_4_code, 2, none, 1, 1, 0, 0, []),
  (3, ⟨"FlagLaundry$Parser", "isLetterAt", "(I)Z"⟩, prog_5_method_5_code, 2, some FieldType.boolean, 1, 1, 0, 0, []),
  (3, ⟨"FlagLaundry$Parser", "isDigitAt", "(I)Z"⟩, prog_5_method_6_code, 2, some FieldType.boolean, 1, 1, 0, 0, []),
  (3, ⟨"FlagLaundry$Parser", "skipBlanks", "()V"⟩, prog_5_method_7_code, 1, none, 0, 1, 0, 0, []),
  (3, ⟨"FlagLaundry$Parser", "next", "()V"⟩, prog_5_method_8_code, 2, none, 0, 1, 1, 21, []),
  (3, ⟨"FlagLaundry$Parser", "isWord", "(Ljava/lang/String;)Z"⟩, prog_5_method_9_code, 3, some FieldType.boolean, 1, 1, 4, 110, []),
  (3, ⟨"FlagLaundry$Parser", "numberFollows", "()Z"⟩, prog_5_method_10_code, 1, some FieldType.boolean, 0, 1, 1, 21, []),
  (3, ⟨"FlagLaundry$Parser", "number", "(II)I"⟩, prog_5_method_11_code, 3, some FieldType.int, 2, 1, 2, 42, []),
  (3, ⟨"FlagLaundry$Parser", "readFirstLine", "()V"⟩, prog_5_method_12_code, 2, none, 0, 1, 5, 132, [])]
def ev_ms_4 : List ev_ME := [(3, ⟨"FlagLaundry$Parser", "readEnd", "()V"⟩, prog_5_method_13_code, 2, none, 0, 1, 1, 21, []),
  (3, ⟨"FlagLaundry$Parser", "readLine", "()V"⟩, prog_5_method_14_code, 1, none, 0, 1, 5, 132, []),
  (3, ⟨"FlagLaundry$Parser", "needPlaceFor", "(II)V"⟩, prog_5_method_15_code, 3, none, 2, 1, 1, 21, []),
  (3, ⟨"FlagLaundry$Parser", "readColour", "()V"⟩, prog_5_method_16_code, 2, none, 0, 1, 3, 64, []),
  (3, ⟨"FlagLaundry$Parser", "readNation", "()V"⟩, prog_5_method_17_code, 4, none, 0, 1, 3, 64, []),
  (3, ⟨"FlagLaundry$Parser", "readTub", "()V"⟩, prog_5_method_18_code, 2, none, 0, 1, 3, 64, []),
  (3, ⟨"FlagLaundry$Parser", "readFlag", "()V"⟩, prog_5_method_19_code, 7, none, 0, 1, 3, 71, []),
  (3, ⟨"FlagLaundry$Parser", "readPut", "()V"⟩, prog_5_method_20_code, 3, none, 0, 1, 3, 64, []),
  (3, ⟨"FlagLaundry$Parser", "readWash", "()V"⟩, prog_5_method_21_code, 3, none, 0, 1, 4, 89, []),
  (3, ⟨"FlagLaundry$Parser", "readHang", "()V"⟩, prog_5_method_22_code, 2, none, 0, 1, 3, 66, []),
  (3, ⟨"FlagLaundry$Parser", "readWind", "()V"⟩, prog_5_method_23_code, 2, none, 0, 1, 3, 64, []),
  (3, ⟨"FlagLaundry$Parser", "readPass", "()V"⟩, prog_5_method_24_code, 2, none, 0, 1, 4, 86, []),
  (4, ⟨"FlagLaundry$Setup", "<init>", "()V"⟩, prog_6_method_1_code, 1, none, 0, 2, 1, 21, []),
  (4, ⟨"FlagLaundry$Setup", "clear", "()V"⟩, prog_6_method_2_code, 1, none, 0, 1, 0, 0, []),
  (4, ⟨"FlagLaundry$Setup", "bringColour", "(I)V"⟩, prog_6_method_3_code, 2, none, 1, 1, 0, 0, []),
  (4, ⟨"FlagLaundry$Setup", "bringNation", "(III)V"⟩, prog_6_method_4_code, 4, none, 3, 1, 0, 0, [])]
def ev_ms_5 : List ev_ME := [(4, ⟨"FlagLaundry$Setup", "bringTub", "(I)V"⟩, prog_6_method_5_code, 2, none, 1, 1, 0, 0, []),
  (4, ⟨"FlagLaundry$Setup", "runningWith", "(I)I"⟩, prog_6_method_7_code, 4, some FieldType.int, 1, 1, 0, 0, []),
  (5, ⟨"FlagLaundry$State", "<init>", "()V"⟩, prog_7_method_1_code, 2, none, 0, 2, 2, 41, []),
  (5, ⟨"FlagLaundry$State", "clear", "()V"⟩, prog_7_method_2_code, 1, none, 0, 1, 1, 23, []),
  (5, ⟨"FlagLaundry$State", "become", "(LFlagLaundry$State;)V"⟩, prog_7_method_3_code, 3, none, 1, 1, 1, 40, []),
  (5, ⟨"FlagLaundry$State", "bringFlag", "(IIII)I"⟩, prog_7_method_4_code, 6, some FieldType.int, 4, 1, 2, 46, []),
  (5, ⟨"FlagLaundry$State", "flagInTub", "(II)I"⟩, prog_7_method_5_code, 3, some FieldType.int, 2, 1, 0, 0, []),
  (5, ⟨"FlagLaundry$State", "flagObjectInTub", "(II)LFlagLaundry$Flag;"⟩, prog_7_method_6_code, 3, some (FieldType.object "FlagLaundry$Flag"), 2, 1, 0, 0, []),
  (5, ⟨"FlagLaundry$State", "wasHandedOver", "(I)Z"⟩, prog_7_method_7_code, 2, some FieldType.boolean, 1, 1, 0, 0, []),
  (5, ⟨"FlagLaundry$State", "flagsAt", "(I)I"⟩, prog_7_method_8_code, 4, some FieldType.int, 1, 1, 0, 0, []),
  (5, ⟨"FlagLaundry$State", "readyFlags", "()I"⟩, prog_7_method_9_code, 3, some FieldType.int, 0, 1, 2, 40, []),
  (5, ⟨"FlagLaundry$State", "flagsOf", "(I)I"⟩, prog_7_method_10_code, 4, some FieldType.int, 1, 1, 0, 0, []),
  (5, ⟨"FlagLaundry$State", "readyFlagsOf", "(I)I"⟩, prog_7_method_11_code, 4, some FieldType.int, 1, 1, 2, 40, []),
  (5, ⟨"FlagLaundry$State", "firstNotReady", "(I)I"⟩, prog_7_method_12_code, 3, some FieldType.int, 1, 1, 2, 40, []),
  (5, ⟨"FlagLaundry$State", "moveToTub", "(II)I"⟩, prog_7_method_17_code, 3, some FieldType.int, 2, 1, 1, 22, []),
  (5, ⟨"FlagLaundry$State", "moveToPeg", "(II)V"⟩, prog_7_method_18_code, 3, none, 2, 1, 1, 22, [])]
def ev_ms_6 : List ev_ME := [(5, ⟨"FlagLaundry$State", "emptyTub", "(I)I"⟩, prog_7_method_21_code, 4, some FieldType.int, 1, 1, 1, 22, []),
  (5, ⟨"FlagLaundry$State", "lastPegInUse", "()I"⟩, prog_7_method_22_code, 2, some FieldType.int, 0, 1, 0, 0, []),
  (5, ⟨"FlagLaundry$State", "passHours", "(I)I"⟩, prog_7_method_23_code, 4, some FieldType.int, 1, 1, 3, 63, []),
  (5, ⟨"FlagLaundry$State", "dryOnLine", "(I)V"⟩, prog_7_method_24_code, 3, none, 1, 1, 1, 21, []),
  (5, ⟨"FlagLaundry$State", "dropLastFromLine", "()V"⟩, prog_7_method_25_code, 3, none, 0, 1, 2, 41, []),
  (5, ⟨"FlagLaundry$State", "hoursToDry", "(II)I"⟩, prog_7_method_26_code, 6, some FieldType.int, 2, 1, 1, 23, []),
  (5, ⟨"FlagLaundry$State", "hoursUntilFall", "(I)I"⟩, prog_7_method_27_code, 4, some FieldType.int, 1, 1, 0, 0, []),
  (6, ⟨"FlagLaundry$Text", "<init>", "()V"⟩, prog_8_method_1_code, 1, none, 0, 2, 1, 21, []),
  (7, ⟨"FlagLaundry", "<init>", "()V"⟩, prog_1_method_1_code, 1, none, 0, 2, 4, 83, []),
  (7, ⟨"FlagLaundry", "append", "(IIIII)I"⟩, prog_1_method_2_code, 6, some FieldType.int, 5, 1, 1, 22, []),
  (7, ⟨"FlagLaundry", "load", "(I)I"⟩, prog_1_method_3_code, 3, some FieldType.int, 1, 1, 7, 177, []),
  (7, ⟨"FlagLaundry", "count", "(I)I"⟩, prog_1_method_7_code, 4, some FieldType.int, 1, 1, 7, 104, []),
  (7, ⟨"FlagLaundry", "nation", "(II)I"⟩, prog_1_method_9_code, 3, some FieldType.int, 2, 1, 8, 123, []),
  (7, ⟨"FlagLaundry", "flag", "(II)I"⟩, prog_1_method_10_code, 4, some FieldType.int, 2, 1, 8, 123, []),
  (7, ⟨"FlagLaundry", "tub", "(II)I"⟩, prog_1_method_11_code, 3, some FieldType.int, 2, 1, 8, 123, []),
  (7, ⟨"FlagLaundry", "inTub", "(II)I"⟩, prog_1_method_12_code, 3, some FieldType.int, 2, 1, 8, 123, [])]
def ev_ms_7 : List ev_ME := [(7, ⟨"FlagLaundry", "freePegs", "()I"⟩, prog_1_method_14_code, 1, some FieldType.int, 0, 1, 7, 102, []),
  (7, ⟨"FlagLaundry", "gap", "()I"⟩, prog_1_method_16_code, 1, some FieldType.int, 0, 1, 7, 102, []),
  (7, ⟨"FlagLaundry", "why", "(I)I"⟩, prog_1_method_17_code, 2, some FieldType.int, 1, 1, 8, 123, []),
  (7, ⟨"FlagLaundry", "culprit", "(I)I"⟩, prog_1_method_19_code, 2, some FieldType.int, 1, 1, 8, 123, []),
  (7, ⟨"FlagLaundry", "whyNotPut", "(II)I"⟩, prog_1_method_20_code, 3, some FieldType.int, 2, 1, 8, 123, []),
  (7, ⟨"FlagLaundry", "whyNotWash", "(II)I"⟩, prog_1_method_21_code, 3, some FieldType.int, 2, 1, 8, 124, []),
  (7, ⟨"FlagLaundry", "whyNotIron", "(II)I"⟩, prog_1_method_22_code, 3, some FieldType.int, 2, 1, 8, 124, []),
  (7, ⟨"FlagLaundry", "whyNotBleach", "(I)I"⟩, prog_1_method_23_code, 2, some FieldType.int, 1, 1, 8, 123, []),
  (7, ⟨"FlagLaundry", "stainedIf", "(II)I"⟩, prog_1_method_25_code, 3, some FieldType.int, 2, 1, 8, 124, []),
  (7, ⟨"FlagLaundry", "bestHeat", "(I)I"⟩, prog_1_method_27_code, 2, some FieldType.int, 1, 1, 8, 123, []),
  (7, ⟨"FlagLaundry", "firstSafe", "(II)I"⟩, prog_1_method_28_code, 3, some FieldType.int, 2, 1, 8, 124, []),
  (7, ⟨"FlagLaundry", "dryIn", "(I)I"⟩, prog_1_method_33_code, 2, some FieldType.int, 1, 1, 8, 123, []),
  (7, ⟨"FlagLaundry", "dryByWind", "(II)I"⟩, prog_1_method_34_code, 3, some FieldType.int, 2, 1, 8, 123, []),
  (7, ⟨"FlagLaundry", "fallsIn", "(I)I"⟩, prog_1_method_35_code, 2, some FieldType.int, 1, 1, 7, 104, []),
  (7, ⟨"FlagLaundry", "payIf", "(II)I"⟩, prog_1_method_36_code, 3, some FieldType.int, 2, 1, 8, 123, []),
  (7, ⟨"FlagLaundry", "ironsFor", "(II)I"⟩, prog_1_method_39_code, 3, some FieldType.int, 2, 1, 8, 124, [])]
def ev_ms_8 : List ev_ME := [(7, ⟨"FlagLaundry", "put", "(II)I"⟩, prog_1_method_47_code, 3, some FieldType.int, 2, 1, 8, 123, []),
  (7, ⟨"FlagLaundry", "wash", "(II)I"⟩, prog_1_method_48_code, 3, some FieldType.int, 2, 1, 8, 124, []),
  (7, ⟨"FlagLaundry", "hangAll", "()I"⟩, prog_1_method_50_code, 1, some FieldType.int, 0, 1, 7, 102, []),
  (7, ⟨"FlagLaundry", "iron", "(II)I"⟩, prog_1_method_53_code, 4, some FieldType.int, 2, 1, 8, 124, []),
  (7, ⟨"FlagLaundry", "bleach", "(I)I"⟩, prog_1_method_54_code, 3, some FieldType.int, 1, 1, 8, 123, []),
  (7, ⟨"FlagLaundry", "handOver", "(I)I"⟩, prog_1_method_55_code, 2, some FieldType.int, 1, 1, 8, 123, []),
  (7, ⟨"FlagLaundry", "pass", "(I)I"⟩, prog_1_method_56_code, 2, some FieldType.int, 1, 1, 7, 104, []),
  (7, ⟨"FlagLaundry", "setWind", "(I)I"⟩, prog_1_method_57_code, 3, some FieldType.int, 1, 1, 7, 104, []),
  (7, ⟨"FlagLaundry", "undoable", "()I"⟩, prog_1_method_60_code, 1, some FieldType.int, 0, 1, 0, 0, []),
  (7, ⟨"FlagLaundry", "save", "(I)I"⟩, prog_1_method_61_code, 2, some FieldType.int, 1, 1, 7, 102, []),
  (7, ⟨"FlagLaundry", "restore", "(I)I"⟩, prog_1_method_62_code, 2, some FieldType.int, 1, 1, 7, 102, []),
  (7, ⟨"FlagLaundry", "needText", "()V"⟩, prog_1_method_63_code, 1, none, 0, 1, 6, 82, []),
  (7, ⟨"FlagLaundry", "needFlag", "(I)V"⟩, prog_1_method_64_code, 2, none, 1, 1, 7, 102, []),
  (7, ⟨"FlagLaundry", "needTub", "(I)V"⟩, prog_1_method_65_code, 2, none, 1, 1, 7, 102, []),
  (7, ⟨"FlagLaundry", "needNation", "(I)V"⟩, prog_1_method_66_code, 2, none, 1, 1, 7, 102, []),
  (7, ⟨"FlagLaundry", "needSlot", "(I)V"⟩, prog_1_method_67_code, 1, none, 1, 0, 6, 82, [])]
def ev_ms_9 : List ev_ME := [(7, ⟨"FlagLaundry", "needHeat", "(I)V"⟩, prog_1_method_68_code, 1, none, 1, 0, 7, 104, []),
  (7, ⟨"FlagLaundry", "needRange", "(III)V"⟩, prog_1_method_69_code, 3, none, 3, 0, 6, 82, []),
  (7, ⟨"FlagLaundry", "needAllowed", "(Z)V"⟩, prog_1_method_70_code, 1, none, 1, 0, 6, 82, []),
  (7, ⟨"FlagLaundry", "store", "(I)V"⟩, prog_1_method_71_code, 3, none, 1, 1, 0, 0, []),
  (8, ⟨"FlagLaundryLaw$Desk", "<init>", "()V"⟩, prog_10_method_1_code, 1, none, 0, 3, 4, 81, []),
  (8, ⟨"FlagLaundryLaw$Desk", "in", "(I)I"⟩, prog_10_method_3_code, 4, some FieldType.int, 1, 1, 3, 64, []),
  (8, ⟨"FlagLaundryLaw$Desk", "run", "(II)I"⟩, prog_10_method_6_code, 5, some FieldType.int, 2, 1, 0, 0, []),
  (8, ⟨"FlagLaundryLaw$Desk", "running", "(II)I"⟩, prog_10_method_7_code, 5, some FieldType.int, 2, 1, 3, 64, []),
  (8, ⟨"FlagLaundryLaw$Desk", "wash", "(II)I"⟩, prog_10_method_8_code, 8, some FieldType.int, 2, 1, 4, 88, []),
  (16, ⟨"FlagLaundryLaw$Flag", "<init>", "()V"⟩, prog_11_method_1_code, 1, none, 0, 3, 1, 21, []),
  (20, ⟨"FlagLaundryLaw", "put", "(LFlagLaundry;[II)V"⟩, method_2_code, 4, none, 3, 0, 3, 69, []),
  (20, ⟨"FlagLaundryLaw", "flush", "(LFlagLaundry;[I)V"⟩, method_3_code, 3, none, 2, 0, 2, 47, []),
  (20, ⟨"FlagLaundryLaw", "said", "(LFlagLaundry;[I)I"⟩, method_5_code, 3, some FieldType.int, 2, 0, 4, 92, []),
  (20, ⟨"FlagLaundryLaw", "cell", "([II)I"⟩, method_7_code, 2, some FieldType.int, 2, 0, 0, 0, []),
  (20, ⟨"FlagLaundryLaw", "desk", "([I)LFlagLaundryLaw$Desk;"⟩, method_8_code, 7, some (FieldType.object "FlagLaundryLaw$Desk"), 1, 0, 6, 131, []),
  (20, ⟨"FlagLaundryLaw", "text", "(LFlagLaundryLaw$Desk;)Ljava/lang/String;"⟩, method_9_code, 5, some (FieldType.object "java/lang/String"), 1, 0, 9, 219, [])]
def ev_ms_10 : List ev_ME := [(20, ⟨"FlagLaundryLaw", "told", "(LFlagLaundry;[ILjava/lang/CharSequence;)I"⟩, method_10_code, 4, some FieldType.int, 3, 0, 5, 114, []),
  (20, ⟨"FlagLaundryLaw", "areOwn", "(LFlagLaundry;)Z"⟩, method_13_code, 2, some FieldType.boolean, 1, 0, 9, 146, []),
  (20, ⟨"FlagLaundryLaw", "sees", "(LFlagLaundry;[J)V"⟩, method_14_code, 4, none, 2, 0, 9, 146, []),
  (17, ⟨"java/util/ArrayList", "<init>", "()V"⟩, prog_39_method_2_code, 1, none, 0, 2, 3, 61, []),
  (17, ⟨"java/util/ArrayList", "add", "(Ljava/lang/Object;)Z"⟩, prog_39_method_25_code, 2, some FieldType.boolean, 1, 1, 5, 110, []),
  (17, ⟨"java/util/ArrayList", "add", "(Ljava/lang/Object;[Ljava/lang/Object;I)V"⟩, prog_39_method_24_code, 4, none, 3, 1, 4, 87, []),
  (17, ⟨"java/util/ArrayList", "grow", "()[Ljava/lang/Object;"⟩, prog_39_method_7_code, 1, some (FieldType.array (FieldType.object "java/lang/Object")), 0, 1, 3, 67, []),
  (17, ⟨"java/util/ArrayList", "grow", "(I)[Ljava/lang/Object;"⟩, prog_39_method_6_code, 4, some (FieldType.array (FieldType.object "java/lang/Object")), 1, 1, 2, 44, []),
  (17, ⟨"java/util/ArrayList", "get", "(I)Ljava/lang/Object;"⟩, prog_39_method_20_code, 2, some (FieldType.object "java/lang/Object"), 1, 1, 2, 43, []),
  (17, ⟨"java/util/ArrayList", "elementData", "(I)Ljava/lang/Object;"⟩, prog_39_method_18_code, 2, some (FieldType.object "java/lang/Object"), 1, 1, 0, 0, []),
  (17, ⟨"java/util/ArrayList", "size", "()I"⟩, prog_39_method_8_code, 1, some FieldType.int, 0, 1, 0, 0, []),
  (23, ⟨"java/util/AbstractList", "<init>", "()V"⟩, prog_38_method_1_code, 1, none, 0, 2, 2, 41, []),
  (24, ⟨"java/util/AbstractCollection", "<init>", "()V"⟩, prog_37_method_1_code, 1, none, 0, 2, 1, 21, []),
  (18, ⟨"java/lang/StringBuilder", "<init>", "(Ljava/lang/String;)V"⟩, prog_30_method_3_code, 2, none, 1, 2, 8, 198, []),
  (18, ⟨"java/lang/StringBuilder", "append", "(Ljava/lang/String;)Ljava/lang/StringBuilder;"⟩, prog_30_method_7_code, 2, some (FieldType.object "java/lang/StringBuilder"), 1, 1, 5, 132, []),
  (18, ⟨"java/lang/StringBuilder", "append", "(C)Ljava/lang/StringBuilder;"⟩, prog_30_method_14_code, 2, some (FieldType.object "java/lang/StringBuilder"), 1, 1, 5, 112, [])]
def ev_ms_11 : List ev_ME := [(18, ⟨"java/lang/StringBuilder", "append", "(I)Ljava/lang/StringBuilder;"⟩, prog_30_method_15_code, 2, some (FieldType.object "java/lang/StringBuilder"), 1, 1, 5, 114, []),
  (18, ⟨"java/lang/StringBuilder", "append", "(Ljava/lang/String;)Ljava/lang/AbstractStringBuilder;"⟩, prog_30_method_80_code, 2, some (FieldType.object "java/lang/AbstractStringBuilder"), 1, 4, 6, 153, []),
  (18, ⟨"java/lang/StringBuilder", "toString", "()Ljava/lang/String;"⟩, prog_30_method_42_code, 1, some (FieldType.object "java/lang/String"), 0, 1, 5, 131, []),
  (25, ⟨"java/lang/AbstractStringBuilder", "<init>", "(Ljava/lang/String;)V"⟩, prog_14_method_3_code, 5, none, 1, 2, 7, 174, []),
  (25, ⟨"java/lang/AbstractStringBuilder", "append", "(Ljava/lang/String;)Ljava/lang/AbstractStringBuilder;"⟩, prog_14_method_22_code, 3, some (FieldType.object "java/lang/AbstractStringBuilder"), 1, 4, 4, 110, []),
  (25, ⟨"java/lang/AbstractStringBuilder", "append", "(C)Ljava/lang/AbstractStringBuilder;"⟩, prog_14_method_31_code, 2, some (FieldType.object "java/lang/AbstractStringBuilder"), 1, 4, 4, 91, []),
  (25, ⟨"java/lang/AbstractStringBuilder", "append", "(I)Ljava/lang/AbstractStringBuilder;"⟩, prog_14_method_32_code, 4, some (FieldType.object "java/lang/AbstractStringBuilder"), 1, 4, 4, 91, []),
  (25, ⟨"java/lang/AbstractStringBuilder", "ensureCapacityInternal", "(I)V"⟩, prog_14_method_9_code, 3, none, 1, 4, 3, 69, []),
  (25, ⟨"java/lang/AbstractStringBuilder", "newCapacity", "(I)I"⟩, prog_14_method_10_code, 6, some FieldType.int, 1, 4, 2, 44, []),
  (25, ⟨"java/lang/AbstractStringBuilder", "putStringAt", "(ILjava/lang/String;)V"⟩, prog_14_method_73_code, 3, none, 2, 4, 2, 63, []),
  (25, ⟨"java/lang/AbstractStringBuilder", "inflateIfNeededFor", "(Ljava/lang/String;)V"⟩, prog_14_method_71_code, 2, none, 1, 4, 1, 20, []),
  (25, ⟨"java/lang/AbstractStringBuilder", "isLatin1", "()Z"⟩, prog_14_method_68_code, 1, some FieldType.boolean, 0, 4, 0, 0, []),
  (25, ⟨"java/lang/AbstractStringBuilder", "getValue", "()[B"⟩, prog_14_method_64_code, 1, some (FieldType.array FieldType.byte), 0, 4, 0, 0, []),
  (25, ⟨"java/lang/AbstractStringBuilder", "length", "()I"⟩, prog_14_method_6_code, 1, some FieldType.int, 0, 4, 0, 0, []),
  (19, ⟨"java/lang/String", "<init>", "(Ljava/lang/StringBuilder;)V"⟩, prog_29_method_53_code, 2, none, 1, 2, 4, 110, []),
  (19, ⟨"java/lang/String", "<init>", "(Ljava/lang/AbstractStringBuilder;Ljava/lang/Void;)V"⟩, prog_29_method_150_code, 5, none, 2, 2, 3, 86, [])]
def ev_ms_12 : List ev_ME := [(19, ⟨"java/lang/String", "length", "()I"⟩, prog_29_method_54_code, 1, some FieldType.int, 0, 1, 1, 20, []),
  (19, ⟨"java/lang/String", "charAt", "(I)C"⟩, prog_29_method_56_code, 2, some FieldType.char, 1, 1, 3, 64, []),
  (19, ⟨"java/lang/String", "getBytes", "([BIB)V"⟩, prog_29_method_147_code, 4, none, 3, 1, 1, 40, []),
  (19, ⟨"java/lang/String", "coder", "()B"⟩, prog_29_method_152_code, 1, some FieldType.byte, 0, 1, 0, 0, []),
  (19, ⟨"java/lang/String", "isLatin1", "()Z"⟩, prog_29_method_154_code, 1, some FieldType.boolean, 0, 1, 0, 0, []),
  (19, ⟨"java/lang/String", "checkIndex", "(II)V"⟩, prog_29_method_155_code, 2, none, 2, 0, 1, 22, []),
  (26, ⟨"java/lang/StringLatin1", "charAt", "([BI)C"⟩, prog_31_method_2_code, 2, some FieldType.char, 2, 0, 2, 43, []),
  (26, ⟨"java/lang/StringLatin1", "canEncode", "(C)Z"⟩, prog_31_method_3_code, 1, some FieldType.boolean, 1, 0, 0, 0, []),
  (22, ⟨"java/lang/Integer", "stringSize", "(I)I"⟩, prog_23_method_13_code, 4, some FieldType.int, 1, 0, 0, 0, []),
  (22, ⟨"java/lang/Integer", "getChars", "(II[B)I"⟩, prog_23_method_12_code, 7, some FieldType.int, 3, 0, 0, 0, []),
  (22, ⟨"java/lang/Integer", "bitCount", "(I)I"⟩, prog_23_method_49_code, 1, some FieldType.int, 1, 0, 0, 0, []),
  (21, ⟨"java/util/Arrays", "fill", "([II)V"⟩, prog_40_method_103_code, 4, none, 2, 0, 0, 0, []),
  (21, ⟨"java/util/Arrays", "fill", "([JJ)V"⟩, prog_40_method_101_code, 5, none, 2, 0, 0, 0, []),
  (21, ⟨"java/util/Arrays", "copyOf", "([BI)[B"⟩, prog_40_method_121_code, 3, some (FieldType.array FieldType.byte), 2, 0, 1, 40, []),
  (21, ⟨"java/util/Arrays", "copyOfRange", "([BII)[B"⟩, prog_40_method_132_code, 3, some (FieldType.array FieldType.byte), 3, 0, 2, 64, []),
  (21, ⟨"java/util/Arrays", "copyOfRangeByte", "([BII)[B"⟩, prog_40_method_133_code, 5, some (FieldType.array FieldType.byte), 3, 0, 1, 40, [])]
def ev_ms_13 : List ev_ME := [(21, ⟨"java/util/Arrays", "checkLength", "(II)V"⟩, prog_40_method_131_code, 2, none, 2, 0, 0, 0, []),
  (21, ⟨"java/util/Arrays", "equals", "([J[J)Z"⟩, prog_40_method_81_code, 3, some FieldType.boolean, 2, 0, 5, 261, []),
  (27, ⟨"jdk/internal/util/ArraysSupport", "newLength", "(III)I"⟩, prog_48_method_27_code, 4, some FieldType.int, 3, 0, 1, 21, []),
  (27, ⟨"jdk/internal/util/ArraysSupport", "mismatch", "([J[JI)I"⟩, prog_48_method_23_code, 4, some FieldType.int, 3, 0, 4, 238, []),
  (27, ⟨"jdk/internal/util/ArraysSupport", "vectorizedMismatch", "(Ljava/lang/Object;JLjava/lang/Object;JII)I"⟩, prog_48_method_3_code, 19, some FieldType.int, 6, 0, 3, 200, []),
  (28, ⟨"java/util/Objects", "checkIndex", "(II)I"⟩, prog_43_method_17_code, 2, some FieldType.int, 2, 0, 1, 22, []),
  (29, ⟨"jdk/internal/util/Preconditions", "checkIndex", "(IILjava/util/function/BiFunction;)I"⟩, prog_49_method_11_code, 3, some FieldType.int, 3, 0, 0, 0, []),
  (18, ⟨"java/lang/StringBuilder", "length", "()I"⟩, prog_30_method_93_code, 1, some FieldType.int, 0, 4, 1, 20, [])]
def ev_mss : List (Nat × List ev_ME) := [(0, ev_ms_0), (1, ev_ms_1), (2, ev_ms_2), (3, ev_ms_3), (4, ev_ms_4), (5, ev_ms_5), (6, ev_ms_6), (7, ev_ms_7), (8, ev_ms_8), (9, ev_ms_9), (10, ev_ms_10), (11, ev_ms_11), (12, ev_ms_12), (13, ev_ms_13)]
set_option maxRecDepth 100000 in
theorem ev_msw_0 : GoodIn lw_tbl (ev_ms_0.flatMap ev_mw) := goodIn_c _ [(1, 114), (1, 5), (1, 113), (3, 95), (1, 5), (3, 93), (3, 94), (5, 54), (1, 5), (5, 52), (5, 53), (3, 99), (1, 5), (3, 97), (3, 98), (4, 57), (1, 5), (4, 55), (4, 56), (4, 147), (1, 5), (4, 145), (4, 146), (4, 53), (1, 5), (4, 51), (4, 52), (4, 180), (1, 5), (4, 178), (4, 179), (4, 176), (1, 5), (4, 174), (4, 175), (4, 188), (1, 5), (4, 186), (4, 187), (3, 143), (1, 5), (3, 141), (3, 142), (3, 155), (1, 5), (3, 153), (3, 154), (3, 164), (1, 5), (3, 162), (3, 163), (3, 159), (1, 5), (3, 157), (3, 158), (3, 225), (1, 5), (3, 223), (3, 224), (5, 31), (1, 5), (5, 30)] (by decide +kernel) (by decide +kernel)
set_option maxRecDepth 100000 in
theorem ev_msw_1 : GoodIn lw_tbl (ev_ms_1.flatMap ev_mw) := goodIn_c _ [(5, 34), (1, 5), (5, 33), (5, 81), (1, 5), (5, 79), (5, 80), (5, 89), (1, 5), (5, 87), (5, 88), (5, 27), (1, 5), (5, 25), (5, 26), (2, 39), (1, 7), (2, 38), (4, 13), (1, 7), (4, 11), (4, 12), (4, 9), (1, 7), (4, 7), (4, 8), (5, 46), (1, 7), (5, 44), (5, 45), (5, 135), (1, 7), (5, 133), (5, 134), (5, 144), (1, 7), (5, 142), (5, 143), (1, 48), (1, 2), (1, 47), (2, 187), (1, 2), (2, 185), (2, 186), (3, 126), (1, 2), (3, 124), (3, 125), (4, 111), (1, 2), (4, 109), (4, 110), (4, 115), (1, 2), (4, 113), (4, 114), (3, 139), (1, 2), (3, 137), (3, 138)] (by decide +kernel) (by decide +kernel)
set_option maxRecDepth 100000 in
theorem ev_msw_2 : GoodIn lw_tbl (ev_ms_2.flatMap ev_mw) := goodIn_c _ [(4, 196), (1, 2), (4, 194), (4, 195), (3, 151), (1, 2), (3, 149), (3, 150), (4, 210), (1, 2), (4, 208), (4, 209), (3, 108), (1, 2), (3, 106), (3, 107), (3, 122), (1, 2), (3, 120), (3, 121), (3, 135), (1, 2), (3, 133), (3, 134), (4, 205), (1, 2), (4, 203), (4, 204), (4, 219), (1, 2), (4, 217), (4, 218), (4, 224), (1, 2), (4, 222), (4, 223), (3, 186), (1, 2), (3, 184), (3, 185), (3, 182), (1, 2), (3, 180), (3, 181), (3, 190), (1, 2), (3, 188), (3, 189), (5, 71), (1, 2), (5, 69), (5, 70), (4, 87), (1, 2), (4, 85), (4, 86), (4, 82), (1, 2), (4, 80), (4, 81), (5, 18), (1, 2), (5, 16), (5, 17)] (by decide +kernel) (by decide +kernel)
set_option maxRecDepth 100000 in
theorem ev_msw_3 : GoodIn lw_tbl (ev_ms_3.flatMap ev_mw) := goodIn_c _ [(5, 14), (1, 2), (5, 12), (5, 13), (5, 103), (1, 2), (5, 101), (5, 102), (5, 108), (1, 2), (5, 106), (5, 107), (4, 135), (1, 2), (4, 133), (4, 134), (2, 3), (1, 6), (2, 2), (2, 180), (1, 6), (2, 178), (2, 179), (2, 210), (1, 6), (2, 209), (0, 3), (2, 226), (1, 6), (2, 225), (0, 7), (2, 218), (1, 6), (2, 217), (0, 5), (2, 222), (1, 6), (2, 221), (0, 6), (2, 214), (1, 6), (2, 213), (0, 4), (2, 206), (1, 6), (2, 205), (0, 2), (2, 231), (1, 6), (2, 230), (0, 8), (3, 87), (1, 6), (3, 86), (0, 16), (3, 43), (1, 6), (3, 42), (0, 9), (2, 202), (1, 6), (2, 201), (0, 1)] (by decide +kernel) (by decide +kernel)
set_option maxRecDepth 100000 in
theorem ev_msw_4 : GoodIn lw_tbl (ev_ms_4.flatMap ev_mw) := goodIn_c _ [(3, 229), (1, 6), (3, 228), (0, 22), (3, 47), (1, 6), (3, 46), (0, 10), (3, 56), (1, 6), (3, 55), (0, 12), (3, 52), (1, 6), (3, 51), (0, 11), (3, 65), (1, 6), (3, 64), (0, 13), (3, 74), (1, 6), (3, 73), (0, 14), (3, 83), (1, 6), (3, 82), (0, 15), (3, 104), (1, 6), (3, 103), (0, 17), (3, 118), (1, 6), (3, 117), (0, 18), (3, 178), (1, 6), (3, 177), (0, 19), (3, 199), (1, 6), (3, 198), (0, 20), (3, 204), (1, 6), (3, 203), (0, 21), (1, 54), (1, 3), (1, 53), (2, 191), (1, 3), (2, 189), (2, 190), (3, 60), (1, 3), (3, 58), (3, 59), (3, 69), (1, 3), (3, 67), (3, 68)] (by decide +kernel) (by decide +kernel)
set_option maxRecDepth 100000 in
theorem ev_msw_5 : GoodIn lw_tbl (ev_ms_5.flatMap ev_mw) := goodIn_c _ [(3, 78), (1, 3), (3, 76), (3, 77), (3, 147), (1, 3), (3, 145), (3, 146), (1, 107), (1, 4), (1, 106), (2, 195), (1, 4), (2, 193), (2, 194), (5, 50), (1, 4), (5, 48), (5, 49), (3, 91), (1, 4), (3, 89), (3, 90), (4, 123), (1, 4), (4, 121), (4, 122), (3, 130), (1, 4), (3, 128), (3, 129), (4, 78), (1, 4), (4, 76), (4, 77), (4, 45), (1, 4), (4, 43), (4, 44), (4, 49), (1, 4), (4, 47), (4, 48), (4, 70), (1, 4), (4, 68), (4, 69), (4, 74), (1, 4), (4, 72), (4, 73), (4, 155), (1, 4), (4, 153), (4, 154), (3, 112), (1, 4), (3, 110), (3, 111), (3, 194), (1, 4), (3, 192), (3, 193)] (by decide +kernel) (by decide +kernel)
set_option maxRecDepth 100000 in
theorem ev_msw_6 : GoodIn lw_tbl (ev_ms_6.flatMap ev_mw) := goodIn_c _ [(3, 172), (1, 4), (3, 170), (3, 171), (3, 221), (1, 4), (3, 219), (3, 220), (3, 208), (1, 4), (3, 206), (3, 207), (3, 212), (1, 4), (3, 210), (3, 211), (3, 217), (1, 4), (3, 215), (3, 216), (4, 233), (1, 4), (4, 231), (4, 232), (4, 237), (1, 4), (4, 235), (4, 236), (2, 67), (1, 8), (2, 66), (1, 40), (1, 1), (1, 39), (7, 152), (1, 1), (7, 150), (7, 151), (2, 109), (1, 1), (2, 107), (2, 108), (4, 17), (1, 1), (4, 15), (4, 16), (4, 61), (1, 1), (4, 59), (4, 60), (4, 92), (1, 1), (4, 90), (4, 91), (4, 101), (1, 1), (4, 99), (4, 100), (4, 119), (1, 1), (4, 117), (4, 118)] (by decide +kernel) (by decide +kernel)
set_option maxRecDepth 100000 in
theorem ev_msw_7 : GoodIn lw_tbl (ev_ms_7.flatMap ev_mw) := goodIn_c _ [(4, 127), (1, 1), (4, 125), (4, 126), (4, 131), (1, 1), (4, 129), (4, 130), (4, 143), (1, 1), (4, 141), (4, 142), (4, 151), (1, 1), (4, 149), (4, 150), (4, 159), (1, 1), (4, 157), (4, 158), (4, 164), (1, 1), (4, 162), (4, 163), (4, 172), (1, 1), (4, 170), (4, 171), (4, 184), (1, 1), (4, 182), (4, 183), (4, 192), (1, 1), (4, 190), (4, 191), (4, 201), (1, 1), (4, 199), (4, 200), (4, 215), (1, 1), (4, 213), (4, 214), (4, 229), (1, 1), (4, 227), (4, 228), (5, 1), (1, 1), (4, 239), (5, 0), (5, 5), (1, 1), (5, 3), (5, 4), (5, 10), (1, 1), (5, 8), (5, 9), (5, 23), (1, 1), (5, 21), (5, 22)] (by decide +kernel) (by decide +kernel)
set_option maxRecDepth 100000 in
theorem ev_msw_8 : GoodIn lw_tbl (ev_ms_8.flatMap ev_mw) := goodIn_c _ [(5, 38), (1, 1), (5, 36), (5, 37), (5, 62), (1, 1), (5, 60), (5, 61), (5, 67), (1, 1), (5, 65), (5, 66), (5, 77), (1, 1), (5, 75), (5, 76), (5, 85), (1, 1), (5, 83), (5, 84), (5, 99), (1, 1), (5, 97), (5, 98), (5, 114), (1, 1), (5, 112), (5, 113), (5, 119), (1, 1), (5, 117), (5, 118), (5, 123), (1, 1), (5, 121), (5, 122), (5, 127), (1, 1), (5, 125), (5, 126), (5, 139), (1, 1), (5, 137), (5, 138), (4, 21), (1, 1), (4, 20), (0, 23), (4, 96), (1, 1), (4, 95), (0, 25), (4, 105), (1, 1), (4, 104), (0, 26), (4, 65), (1, 1), (4, 64), (0, 24), (5, 130), (1, 1), (5, 129)] (by decide +kernel) (by decide +kernel)
set_option maxRecDepth 100000 in
theorem ev_msw_9 : GoodIn lw_tbl (ev_ms_9.flatMap ev_mw) := goodIn_c _ [(4, 167), (1, 1), (4, 166), (4, 40), (1, 1), (4, 39), (5, 41), (1, 1), (5, 40), (7, 156), (1, 1), (7, 155), (0, 30), (5, 155), (1, 9), (5, 154), (7, 32), (1, 9), (7, 30), (7, 31), (7, 50), (1, 9), (7, 48), (7, 49), (7, 46), (1, 9), (7, 44), (7, 45), (7, 42), (1, 9), (7, 40), (7, 41), (5, 224), (1, 13), (5, 223), (7, 145), (1, 0), (7, 144), (7, 148), (1, 0), (7, 147), (7, 159), (1, 0), (7, 158), (5, 147), (1, 0), (5, 146), (5, 150), (1, 0), (5, 149), (6, 85), (1, 0), (6, 84)] (by decide +kernel) (by decide +kernel)
set_option maxRecDepth 100000 in
theorem ev_msw_10 : GoodIn lw_tbl (ev_ms_10.flatMap ev_mw) := goodIn_c _ [(7, 112), (1, 0), (7, 111), (7, 162), (1, 0), (7, 161), (7, 165), (1, 0), (7, 164), (5, 161), (1, 12), (5, 160), (6, 28), (1, 12), (6, 26), (6, 27), (6, 32), (1, 12), (6, 31), (0, 27), (6, 36), (1, 12), (6, 35), (0, 28), (6, 40), (1, 12), (6, 39), (0, 29), (7, 18), (1, 12), (7, 16), (7, 17), (7, 26), (1, 12), (7, 24), (7, 25), (7, 14), (1, 12), (7, 12), (7, 13), (5, 164), (1, 11), (5, 163), (5, 167), (1, 10), (5, 166), (6, 91), (1, 19), (6, 90), (6, 116), (1, 19), (6, 114), (6, 115), (7, 0), (1, 19), (6, 238), (6, 239)] (by decide +kernel) (by decide +kernel)
set_option maxRecDepth 100000 in
theorem ev_msw_11 : GoodIn lw_tbl (ev_ms_11.flatMap ev_mw) := goodIn_c _ [(6, 212), (1, 19), (6, 210), (6, 211), (6, 112), (1, 19), (6, 111), (7, 56), (1, 19), (7, 54), (7, 55), (6, 94), (1, 18), (6, 93), (6, 119), (1, 18), (6, 108), (7, 3), (1, 18), (7, 2), (6, 215), (1, 18), (6, 214), (6, 127), (1, 18), (6, 126), (6, 131), (1, 18), (6, 130), (6, 167), (1, 18), (6, 166), (6, 171), (1, 18), (6, 170), (6, 147), (1, 18), (6, 144), (7, 70), (1, 18), (7, 67), (7, 78), (1, 18), (7, 72), (7, 61), (1, 20), (7, 60), (7, 64), (1, 20), (7, 63)] (by decide +kernel) (by decide +kernel)
set_option maxRecDepth 100000 in
theorem ev_msw_12 : GoodIn lw_tbl (ev_ms_12.flatMap ev_mw) := goodIn_c _ [(2, 235), (1, 20), (2, 233), (2, 234), (3, 5), (1, 20), (3, 3), (3, 4), (6, 194), (1, 20), (6, 192), (6, 193), (2, 239), (1, 20), (2, 237), (2, 238), (3, 9), (1, 20), (3, 7), (3, 8), (3, 15), (1, 20), (3, 14), (3, 12), (1, 23), (3, 11), (7, 6), (1, 23), (7, 5), (6, 218), (1, 25), (6, 217), (6, 221), (1, 25), (6, 220), (5, 92), (1, 25), (5, 91), (2, 198), (1, 16), (2, 197), (7, 168), (1, 16), (7, 167), (6, 135), (1, 16), (6, 134), (7, 82), (1, 16), (7, 81), (7, 85), (1, 16), (7, 84)] (by decide +kernel) (by decide +kernel)
set_option maxRecDepth 100000 in
theorem ev_msw_13 : GoodIn lw_tbl (ev_ms_13.flatMap ev_mw) := goodIn_c _ [(7, 88), (1, 16), (7, 87), (7, 172), (1, 16), (7, 171), (6, 43), (1, 14), (6, 42), (7, 175), (1, 14), (7, 174), (7, 182), (1, 14), (7, 181), (7, 21), (1, 26), (7, 20), (3, 20), (1, 22), (3, 19), (7, 76), (1, 19), (7, 75)] (by decide +kernel) (by decide +kernel)
def ev_look {α : Type} (k : Nat) : List (Nat × α) → Option α
  | [] => none
  | q :: r => bif Nat.beq k q.1 then some q.2 else ev_look k r
theorem ev_look_mem {α : Type} {k : Nat} {a : α} : ∀ {l : List (Nat × α)}, ev_look k l = some a → (k, a) ∈ l
  | [], h => by cases h
  | (j, b) :: r, h => by
    unfold ev_look at h
    cases hb : Nat.beq k j with
    | true =>
      rw [hb] at h
      have e := Nat.eq_of_beq_eq_true hb
      subst e
      cases h
      exact List.mem_cons_self
    | false =>
      rw [hb] at h
      exact List.mem_cons_of_mem _ (ev_look_mem h)
def ev_look2 {α : Type} (o k : Nat) (t : List (Nat × List (Nat × α))) : Option α := match ev_look o t with
  | some l => ev_look k l
  | none => none
theorem ev_look2_mem {α : Type} {o k : Nat} {a : α} {t : List (Nat × List (Nat × α))} (h : ev_look2 o k t = some a) : ∃ l, (o, l) ∈ t ∧ (k, a) ∈ l := by
  unfold ev_look2 at h
  cases hl : ev_look o t with
  | none => rw [hl] at h; cases h
  | some l => rw [hl] at h; exact ⟨l, ev_look_mem hl, ev_look_mem h⟩
def ev_LAW : Nat := 216
def ev_me (j : Nat) : Option ev_ME := match ev_look (j / 16) ev_mss with
  | some l => l[j % 16]?
  | none => none
def ev_lawME : ev_ME := (20, x, code, maxLocals, ret, 1, 0, 10, 283, [])
/-- a method, or the law -/
def ev_mel (j : Nat) : Option ev_ME := bif Nat.beq j ev_LAW then some ev_lawME else ev_me j
/-- fields: class of the code, index, (class, place) -/
def ev_flt : List (Nat × List (Nat × Nat × Nat)) := [(0, [(9, 0, 0), (15, 0, 1), (18, 0, 2), (21, 0, 3), (24, 0, 4), (27, 0, 5), (30, 0, 6), (33, 0, 7), (40, 0, 8), (43, 0, 9)]),
  (1, [(11, 1, 3), (18, 1, 4), (21, 1, 1), (25, 1, 0), (29, 1, 2)]),
  (2, [(12, 2, 0), (21, 2, 1), (25, 2, 2), (33, 5, 8), (40, 0, 2), (52, 0, 3), (55, 0, 1), (75, 5, 7), (79, 0, 8), (82, 4, 8), (98, 5, 4), (107, 5, 6), (138, 4, 0), (141, 5, 10), (149, 0, 4), (158, 4, 5), (164, 5, 11), (167, 5, 0), (173, 4, 6), (176, 4, 7), (194, 5, 2), (197, 5, 3), (200, 0, 0), (209, 0, 6)]),
  (3, [(9, 3, 1), (15, 3, 2), (25, 3, 3), (28, 3, 4), (31, 3, 5), (34, 3, 0), (37, 3, 8), (62, 3, 6), (75, 3, 7), (100, 2, 0), (104, 4, 0), (109, 4, 1), (112, 4, 2), (115, 4, 3), (177, 2, 1), (181, 5, 6), (212, 5, 1)]),
  (4, [(9, 4, 4), (15, 4, 5), (18, 4, 6), (21, 4, 7), (24, 4, 8), (27, 4, 0), (31, 4, 1), (34, 4, 2), (37, 4, 3)]),
  (5, [(11, 5, 7), (18, 5, 8), (22, 5, 9), (25, 5, 10), (28, 5, 11), (31, 5, 0), (35, 5, 1), (38, 5, 2), (41, 5, 3), (44, 5, 4), (47, 5, 5), (50, 5, 6), (73, 0, 8), (80, 0, 0), (92, 0, 4), (99, 0, 9)]),
  (6, [(9, 6, 1)]),
  (7, [(9, 7, 0), (13, 7, 1), (17, 7, 2), (20, 7, 3), (23, 7, 4), (30, 7, 5), (34, 7, 6), (40, 7, 7), (47, 7, 8), (54, 7, 9), (73, 3, 0), (76, 3, 1), (85, 2, 1), (89, 5, 6), (101, 2, 0), (105, 4, 1), (110, 4, 2), (113, 4, 3), (116, 4, 0), (119, 5, 0), (122, 5, 1), (129, 5, 2), (132, 5, 3), (135, 5, 4), (138, 5, 5), (160, 4, 5), (163, 4, 6), (166, 4, 7), (185, 5, 7), (189, 0, 0), (194, 0, 1), (195, 0, 2), (198, 0, 3), (201, 0, 4), (204, 0, 5), (207, 0, 6), (210, 0, 7), (213, 0, 8), (216, 0, 9), (222, 4, 8), (225, 5, 8), (399, 1, 0), (417, 1, 1)]),
  (8, [(10, 8, 11), (42, 8, 8), (33, 8, 5)]),
  (16, [(7, 16, 8), (13, 16, 9)]),
  (17, [(9, 17, 1), (48, 17, 2)]),
  (25, [(22, 18, 1), (15, 18, 0), (79, 18, 3)]),
  (19, [(15, 19, 1), (9, 19, 0), (1048, 18, 2)])]
def ev_flw1 (o : Nat) (q : Nat × Nat × Nat) : Cond := match vwCl[q.2.1]? with
  | some r => .fieldLink (ev_own.getD o "") q.1 (r.2.1 q.2.2).1 (r.2.1 q.2.2).2.1 (r.2.1 q.2.2).2.2.1
  | none => .tt
def ev_flw : List Cond := ev_flt.flatMap (fun p => p.2.map (ev_flw1 p.1))
set_option maxRecDepth 100000 in
theorem ev_flw_in : GoodIn lw_tbl ev_flw := goodIn_c _ [(1, 116), (1, 120), (1, 123), (1, 126), (1, 129), (1, 133), (1, 135), (1, 138), (1, 140), (1, 144), (2, 49), (2, 50), (2, 46), (2, 44), (2, 48), (1, 225), (1, 228), (1, 231), (1, 193), (1, 124), (1, 127), (1, 121), (1, 190), (1, 142), (1, 80), (1, 182), (1, 187), (1, 59), (1, 197), (1, 132), (1, 72), (1, 199), (1, 170), (1, 75), (1, 78), (1, 176), (1, 179), (1, 119), (1, 137), (2, 7), (2, 9), (2, 10), (2, 11), (2, 12), (2, 5), (2, 15), (2, 13), (2, 14), (1, 227), (1, 58), (1, 62), (1, 65), (1, 68), (1, 230), (1, 188), (1, 173), (1, 69), (1, 70), (1, 73), (1, 76), (1, 79), (1, 56), (1, 60), (1, 63), (1, 66), (1, 189), (1, 192), (1, 195), (1, 196), (1, 198), (1, 168), (1, 171), (1, 174), (1, 177), (1, 180), (1, 183), (1, 185), (1, 141), (1, 117), (1, 131), (1, 146), (2, 69), (2, 75), (2, 76), (2, 77), (2, 78), (2, 79), (2, 80), (2, 81), (2, 82), (2, 83), (2, 84), (2, 6), (2, 8), (1, 229), (1, 186), (1, 226), (1, 61), (1, 64), (1, 67), (1, 57), (1, 169), (1, 172), (1, 175), (1, 178), (1, 181), (1, 184), (1, 71), (1, 74), (1, 77), (1, 191), (1, 118), (1, 122), (1, 125), (1, 128), (1, 130), (1, 134), (1, 136), (1, 139), (1, 143), (1, 145), (1, 81), (1, 194), (2, 45), (2, 47), (5, 191), (5, 187), (5, 185), (5, 235), (5, 238), (5, 171), (5, 172), (6, 198), (6, 197), (6, 200), (7, 100), (7, 99), (6, 199)] (by decide +kernel) (by decide +kernel)
set_option maxRecDepth 100000 in
theorem ev_fl_ok : ev_flt.all (fun p => p.2.all (fun q => match vwCl[q.2.1]? with | some r => decide (q.2.2 < r.2.2) && decide (q.2.1 < 9 ∨ (16 ≤ q.2.1 ∧ q.2.1 < 20)) | none => false)) = true := by decide +kernel
/-- calls: class of the code, index, method -/
def ev_tgt : List (Nat × List (Nat × Nat)) := [(0, [(36, 3), (46, 4), (50, 7), (60, 11), (64, 12), (70, 15), (74, 16), (77, 202), (82, 8)]),
  (1, [(17, 82), (32, 21), (35, 84)]),
  (2, [(11, 76), (20, 82), (29, 77), (32, 83), (36, 87), (58, 10), (62, 31), (66, 81), (69, 11), (72, 12), (85, 28), (88, 33), (91, 13), (95, 96), (101, 32), (104, 34), (110, 35), (113, 40), (117, 7), (143, 41), (146, 95), (152, 42), (155, 43), (161, 88), (170, 45), (179, 47), (182, 91), (191, 93), (188, 48), (203, 3), (206, 89)]),
  (3, [(41, 27), (46, 63), (49, 54), (53, 65), (56, 59), (59, 64), (65, 58), (68, 56), (72, 57), (78, 55), (93, 60), (97, 62), (120, 67), (125, 68), (130, 69), (135, 70), (140, 71), (145, 72), (150, 73), (155, 74), (160, 75), (163, 66), (167, 78), (170, 79), (174, 80), (186, 61), (189, 85), (193, 35), (196, 94), (199, 36), (202, 37), (205, 42), (208, 43), (214, 98)]),
  (5, [(53, 203), (59, 2), (69, 1), (76, 6), (95, 3), (105, 87), (109, 99), (113, 100), (122, 97), (126, 14), (129, 102)]),
  (7, [(29, 26), (39, 52), (46, 20), (53, 103), (58, 147), (69, 53), (82, 22), (94, 139), (97, 145), (125, 89), (141, 90), (157, 142), (169, 91), (172, 92), (175, 88), (179, 46), (182, 140), (219, 141), (228, 28), (231, 29), (234, 30), (237, 86), (248, 51), (251, 5), (257, 93), (260, 35), (263, 144), (266, 36), (269, 8), (272, 9), (275, 32), (278, 33), (284, 38), (287, 39), (303, 101), (311, 48), (320, 19), (348, 146), (352, 23), (356, 94), (359, 37), (368, 44), (377, 17), (380, 18), (383, 49), (386, 50), (389, 98), (410, 143), (413, 24), (423, 25)]),
  (8, [(9, 163), (58, 170), (62, 168), (100, 150), (103, 151)]),
  (20, [(7, 155), (13, 105), (21, 154), (28, 157), (70, 164), (80, 173), (83, 176), (88, 174), (93, 175), (98, 170), (102, 168), (110, 149), (129, 152), (133, 178), (146, 156), (200, 107), (177, 109), (316, 204), (183, 108), (240, 111), (206, 104), (207, 158), (211, 159), (215, 160), (219, 106), (222, 162), (226, 137), (203, 113), (229, 161), (233, 110), (235, 116), (238, 128), (243, 114), (246, 121), (249, 120), (252, 117), (255, 129), (256, 122), (259, 112), (262, 130), (265, 125), (268, 123), (271, 134), (274, 127), (277, 118), (280, 131), (283, 119), (286, 132), (289, 126), (292, 115), (295, 133), (298, 124), (301, 135), (304, 138), (307, 136), (310, 209)]),
  (17, [(1, 171), (131, 165), (129, 166), (69, 167), (73, 210), (118, 213), (123, 169)]),
  (23, [(1, 172)]),
  (18, [(7, 179), (29, 180), (50, 181), (53, 182), (23, 174), (137, 190), (343, 189)]),
  (25, [(40, 195), (43, 180), (100, 183), (208, 185), (83, 187), (191, 199), (245, 200), (248, 201), (104, 184), (108, 205), (114, 210), (397, 186), (399, 194)]),
  (19, [(489, 191), (552, 188), (549, 189), (1047, 187), (54, 206), (335, 195), (492, 196), (495, 198), (1059, 214)]),
  (26, [(9, 197)]),
  (21, [(339, 207), (343, 208), (245, 211)]),
  (27, [(122, 212)]),
  (28, [(105, 214)])]
def ev_tgw1 (o : Nat) (q : Nat × Nat) : Cond := match ev_me q.2 with
  | some e => .methodLink (ev_own.getD o "") q.1 (ev_y e)
  | none => .tt
def ev_tgw (p : Nat × List (Nat × Nat)) : List Cond := p.2.map (ev_tgw1 p.1)
def ev_tgp_0 : List (Nat × Nat) := [(3, 96), (4, 54), (4, 177), (3, 160), (3, 161), (5, 29), (5, 32), (5, 90), (5, 28)]
set_option maxRecDepth 100000 in
theorem ev_tgw_in_0 : GoodIn lw_tbl (ev_tgw (ev_tgt.getD 0 (0, []))) := goodIn_c _ ev_tgp_0 (by decide +kernel) (by decide +kernel)
def ev_tgp_1 : List (Nat × Nat) := [(2, 43), (4, 10), (5, 47)]
set_option maxRecDepth 100000 in
theorem ev_tgw_in_1 : GoodIn lw_tbl (ev_tgw (ev_tgt.getD 1 (0, []))) := goodIn_c _ ev_tgp_1 (by decide +kernel) (by decide +kernel)
def ev_tgp_2 : List (Nat × Nat) := [(1, 52), (1, 105), (2, 188), (2, 192), (3, 127), (3, 140), (3, 136), (3, 144), (3, 152), (4, 211), (3, 123), (3, 148), (3, 156), (3, 169), (4, 206), (4, 207), (4, 220), (4, 221), (4, 225), (3, 183), (3, 191), (5, 72), (5, 73), (4, 83), (4, 84), (5, 15), (5, 19), (5, 104), (5, 109), (5, 110), (4, 136)]
set_option maxRecDepth 100000 in
theorem ev_tgw_in_2 : GoodIn lw_tbl (ev_tgw (ev_tgt.getD 2 (0, []))) := goodIn_c _ ev_tgp_2 (by decide +kernel) (by decide +kernel)
def ev_tgp_3 : List (Nat × Nat) := [(2, 184), (2, 199), (2, 207), (3, 44), (2, 203), (3, 226), (2, 211), (2, 215), (2, 219), (2, 223), (2, 228), (3, 40), (3, 49), (3, 62), (3, 71), (3, 80), (3, 101), (3, 115), (3, 175), (3, 196), (3, 201), (3, 53), (3, 57), (3, 66), (3, 75), (3, 84), (3, 88), (3, 105), (3, 109), (3, 119), (3, 132), (3, 179), (3, 187), (3, 205)]
set_option maxRecDepth 100000 in
theorem ev_tgw_in_3 : GoodIn lw_tbl (ev_tgw (ev_tgt.getD 3 (0, []))) := goodIn_c _ ev_tgp_3 (by decide +kernel) (by decide +kernel)
def ev_tgp_4 : List (Nat × Nat) := [(2, 196), (5, 51), (3, 92), (4, 50), (3, 113), (3, 173), (3, 209), (3, 214), (3, 218), (3, 222), (4, 234)]
set_option maxRecDepth 100000 in
theorem ev_tgw_in_4 : GoodIn lw_tbl (ev_tgw (ev_tgt.getD 4 (0, []))) := goodIn_c _ ev_tgp_4 (by decide +kernel) (by decide +kernel)
def ev_tgp_5 : List (Nat × Nat) := [(1, 46), (2, 1), (2, 37), (2, 65), (7, 153), (2, 177), (4, 6), (4, 18), (4, 38), (4, 42), (4, 46), (4, 62), (4, 67), (4, 71), (4, 75), (4, 79), (4, 93), (4, 102), (4, 107), (4, 108), (4, 112), (4, 120), (4, 132), (4, 144), (4, 152), (4, 160), (4, 165), (4, 168), (4, 173), (4, 185), (4, 193), (4, 197), (4, 202), (4, 216), (4, 230), (5, 11), (5, 24), (5, 39), (5, 43), (5, 58), (5, 63), (5, 68), (5, 78), (5, 86), (5, 100), (5, 105), (5, 115), (5, 128), (5, 132), (5, 141)]
set_option maxRecDepth 100000 in
theorem ev_tgw_in_5 : GoodIn lw_tbl (ev_tgw (ev_tgt.getD 5 (0, []))) := goodIn_c _ ev_tgp_5 (by decide +kernel) (by decide +kernel)
def ev_tgp_6 : List (Nat × Nat) := [(5, 159), (7, 33), (7, 34), (7, 47), (7, 43)]
set_option maxRecDepth 100000 in
theorem ev_tgw_in_6 : GoodIn lw_tbl (ev_tgw (ev_tgt.getD 6 (0, []))) := goodIn_c _ ev_tgp_6 (by decide +kernel) (by decide +kernel)
def ev_tgp_7 : List (Nat × Nat) := [(7, 146), (7, 149), (7, 143), (5, 145), (6, 25), (6, 89), (6, 209), (6, 235), (6, 237), (7, 11), (7, 15), (7, 29), (7, 39), (7, 53), (7, 157), (4, 14), (4, 89), (7, 166), (4, 58), (4, 116), (1, 38), (5, 148), (6, 83), (7, 110), (2, 106), (7, 163), (5, 124), (4, 128), (7, 160), (4, 98), (4, 156), (5, 35), (4, 140), (4, 198), (4, 189), (4, 161), (5, 59), (4, 212), (4, 124), (5, 64), (5, 2), (4, 226), (5, 111), (5, 20), (4, 169), (5, 74), (4, 181), (5, 82), (5, 7), (4, 148), (5, 96), (4, 238), (5, 116), (5, 136), (5, 120), (7, 170)]
set_option maxRecDepth 100000 in
theorem ev_tgw_in_7 : GoodIn lw_tbl (ev_tgw (ev_tgt.getD 7 (0, []))) := goodIn_c _ ev_tgp_7 (by decide +kernel) (by decide +kernel)
def ev_tgp_8 : List (Nat × Nat) := [(5, 162), (6, 29), (6, 33), (6, 37), (6, 41), (7, 19), (7, 23)]
set_option maxRecDepth 100000 in
theorem ev_tgw_in_8 : GoodIn lw_tbl (ev_tgw (ev_tgt.getD 8 (0, []))) := goodIn_c _ ev_tgp_8 (by decide +kernel) (by decide +kernel)
def ev_tgp_9 : List (Nat × Nat) := [(5, 165)]
set_option maxRecDepth 100000 in
theorem ev_tgw_in_9 : GoodIn lw_tbl (ev_tgw (ev_tgt.getD 9 (0, []))) := goodIn_c _ ev_tgp_9 (by decide +kernel) (by decide +kernel)
def ev_tgp_10 : List (Nat × Nat) := [(6, 92), (6, 117), (7, 1), (6, 213), (6, 113), (7, 59), (7, 77)]
set_option maxRecDepth 100000 in
theorem ev_tgw_in_10 : GoodIn lw_tbl (ev_tgw (ev_tgt.getD 10 (0, []))) := goodIn_c _ ev_tgp_10 (by decide +kernel) (by decide +kernel)
def ev_tgp_11 : List (Nat × Nat) := [(6, 99), (6, 107), (6, 124), (6, 164), (6, 143), (7, 4), (6, 216), (6, 219), (6, 128), (6, 133), (6, 132), (6, 168), (6, 191)]
set_option maxRecDepth 100000 in
theorem ev_tgw_in_11 : GoodIn lw_tbl (ev_tgw (ev_tgt.getD 11 (0, []))) := goodIn_c _ ev_tgp_11 (by decide +kernel) (by decide +kernel)
def ev_tgp_12 : List (Nat × Nat) := [(7, 62), (7, 66), (7, 71), (7, 79), (7, 80), (2, 236), (3, 6), (3, 10), (3, 18)]
set_option maxRecDepth 100000 in
theorem ev_tgw_in_12 : GoodIn lw_tbl (ev_tgw (ev_tgt.getD 12 (0, []))) := goodIn_c _ ev_tgp_12 (by decide +kernel) (by decide +kernel)
def ev_tgp_13 : List (Nat × Nat) := [(3, 13)]
set_option maxRecDepth 100000 in
theorem ev_tgw_in_13 : GoodIn lw_tbl (ev_tgw (ev_tgt.getD 13 (0, []))) := goodIn_c _ ev_tgp_13 (by decide +kernel) (by decide +kernel)
def ev_tgp_14 : List (Nat × Nat) := [(7, 83), (7, 86), (7, 173)]
set_option maxRecDepth 100000 in
theorem ev_tgw_in_14 : GoodIn lw_tbl (ev_tgw (ev_tgt.getD 14 (0, []))) := goodIn_c _ ev_tgp_14 (by decide +kernel) (by decide +kernel)
def ev_tgp_15 : List (Nat × Nat) := [(7, 180)]
set_option maxRecDepth 100000 in
theorem ev_tgw_in_15 : GoodIn lw_tbl (ev_tgw (ev_tgt.getD 15 (0, []))) := goodIn_c _ ev_tgp_15 (by decide +kernel) (by decide +kernel)
def ev_tgp_16 : List (Nat × Nat) := [(7, 22)]
set_option maxRecDepth 100000 in
theorem ev_tgw_in_16 : GoodIn lw_tbl (ev_tgw (ev_tgt.getD 16 (0, []))) := goodIn_c _ ev_tgp_16 (by decide +kernel) (by decide +kernel)
set_option maxRecDepth 100000 in
theorem ev_tgw_in : ∀ p ∈ ev_tgt, GoodIn lw_tbl (ev_tgw p) := by
  intro p hp
  obtain ⟨i, hi⟩ := List.getElem?_of_mem hp
  have h9 : ev_tgt.getD i (0, []) = p := by rw [List.getD_eq_getElem?_getD, hi]; rfl
  have hl : i < 17 := (List.getElem?_eq_some_iff.mp hi).1
  rw [← h9]
  match i, hl with
  | 0, _ => exact ev_tgw_in_0
  | 1, _ => exact ev_tgw_in_1
  | 2, _ => exact ev_tgw_in_2
  | 3, _ => exact ev_tgw_in_3
  | 4, _ => exact ev_tgw_in_4
  | 5, _ => exact ev_tgw_in_5
  | 6, _ => exact ev_tgw_in_6
  | 7, _ => exact ev_tgw_in_7
  | 8, _ => exact ev_tgw_in_8
  | 9, _ => exact ev_tgw_in_9
  | 10, _ => exact ev_tgw_in_10
  | 11, _ => exact ev_tgw_in_11
  | 12, _ => exact ev_tgw_in_12
  | 13, _ => exact ev_tgw_in_13
  | 14, _ => exact ev_tgw_in_14
  | 15, _ => exact ev_tgw_in_15
  | 16, _ => exact ev_tgw_in_16
/-- the one call of a nest mate: class of the code, index, method -/
def ev_nst : Nat × Nat × Nat := (5, 17, 0)
def ev_nsw : Cond := .methodLinkNest "FlagLaundry$State" 17 ⟨"FlagLaundry$Flag", "<init>", "()V"⟩ "FlagLaundry"
/-- the other calls of nest mates: class of the code, index, method; their words -/
def ev_nsl : List (Nat × Nat × Nat) := [(20, 27, 148), (20, 53, 153)]
def ev_nslw : List Cond := [.methodLinkNest "FlagLaundryLaw" 27 ⟨"FlagLaundryLaw$Desk", "<init>", "()V"⟩ "FlagLaundryLaw", .methodLinkNest "FlagLaundryLaw" 53 ⟨"FlagLaundryLaw$Flag", "<init>", "()V"⟩ "FlagLaundryLaw"]
set_option maxRecDepth 100000 in
theorem ev_nslw_in : ∀ w ∈ ev_nslw, w ∈ lw_tbl := by
  have h : ev_nslw = ([(5, 153), (5, 222)] : List (Nat × Nat)).filterMap ev_chw := by decide +kernel
  intro w hw
  rw [h] at hw
  obtain ⟨q_, -, hq_⟩ := List.mem_filterMap.mp hw
  exact ev_chw_in hq_
set_option maxRecDepth 100000 in
theorem ev_nsw_in : ev_nsw ∈ lw_tbl := List.mem_of_getElem? (i := 143) (by decide +kernel)
/-- calls of the JDK: class of the code, index, 100 max 101 min 102 abs 103 Object() 104 arraycopy 105 length 106 charAt -/
def ev_nat : List (Nat × List (Nat × Nat)) := [(0, [(3, 103), (54, 100), (67, 101)]),
  (1, [(3, 103)]),
  (2, [(3, 103), (46, 101), (125, 100), (212, 102)]),
  (3, [(3, 103), (19, 101), (82, 105), (87, 106)]),
  (4, [(3, 103)]),
  (5, [(3, 103), (63, 104), (116, 100)]),
  (6, [(3, 103)]),
  (7, [(1, 103), (306, 101)]),
  (8, [(1, 103), (109, 100), (82, 101)]),
  (16, [(1, 103)]),
  (17, [(79, 100)]),
  (24, [(1, 103)]),
  (25, [(3, 103), (32, 105)]),
  (19, [(1, 103), (212, 104)]),
  (21, [(304, 101), (150, 104)]),
  (27, [(194, 100)])]
def ev_natn (k : Nat) : MethodName := match k with
  | 100 => Lib.Math.max.name
  | 101 => Lib.Math.min.name
  | 102 => Lib.Math.abs.name
  | 103 => Lib.objectInit
  | 104 => arraycopyName
  | 105 => ⟨"java/lang/String", "length", "()I"⟩
  | _ => ⟨"java/lang/String", "charAt", "(I)C"⟩
def ev_natw : List Cond := ev_nat.flatMap (fun p => p.2.map (fun q => .methodLink (ev_own.getD p.1 "") q.1 (ev_natn q.2)))
set_option maxRecDepth 100000 in
theorem ev_natw_in : GoodIn lw_tbl ev_natw := goodIn_c _ [(1, 115), (3, 165), (3, 168), (2, 40), (1, 49), (3, 131), (4, 88), (4, 137), (2, 4), (2, 181), (2, 232), (3, 2), (1, 55), (1, 108), (5, 55), (3, 213), (2, 68), (1, 41), (5, 6), (5, 156), (7, 51), (7, 52), (5, 225), (6, 81), (5, 168), (6, 95), (6, 96), (7, 65), (6, 195), (6, 79), (6, 80), (6, 44)] (by decide +kernel) (by decide +kernel)
def ev_jdw : List Cond := [.code Lib.Math.max.name Lib.Math.max.code 2 (some .int), .static Lib.Math.max.name, .code Lib.Math.min.name Lib.Math.min.code 2 (some .int), .static Lib.Math.min.name, .code Lib.Math.abs.name Lib.Math.abs.code 1 (some .int), .static Lib.Math.abs.name, .code Lib.objectInit ⟨#[0xb1]⟩ 1 none, .instanceMethod Lib.objectInit, .initialized "java/lang/Math", .static arraycopyName, .native arraycopyName, .initialized "java/lang/System"]
set_option maxRecDepth 100000 in
theorem ev_jdw_in : GoodIn lw_tbl ev_jdw := goodIn_c _ [(3, 167), (3, 166), (2, 183), (2, 182), (4, 139), (4, 138), (1, 43), (1, 42), (1, 15), (5, 56), (5, 57), (1, 17)] (by decide +kernel) (by decide +kernel)
/-- classes named by an index: class of the code, index, class -/
def ev_clt : List (Nat × List (Nat × Nat)) := [(1, [(9, 5)]),
  (2, [(9, 4), (18, 5)]),
  (5, [(9, 0)]),
  (7, [(27, 2), (37, 3), (44, 1), (51, 6)]),
  (8, [(7, 17)]),
  (20, [(25, 8), (51, 16), (76, 18), (14, 7)]),
  (18, [(18, 19)])]
def ev_clw1 (o : Nat) (q : Nat × Nat) : Cond := match vwCl[q.2]? with
  | some r => .classLink (ev_own.getD o "") q.1 r.1
  | none => .tt
def ev_clw : List Cond := ev_clt.flatMap (fun p => p.2.map (ev_clw1 p.1))
set_option maxRecDepth 100000 in
theorem ev_clw_in : GoodIn lw_tbl ev_clw := goodIn_c _ [(2, 41), (1, 50), (1, 103), (1, 109), (1, 44), (1, 239), (2, 35), (2, 63), (5, 157), (5, 151), (5, 220), (6, 86), (1, 36), (7, 57)] (by decide +kernel) (by decide +kernel)
/-- nest mates' fields: class of the code, index, (class, place) -/
def ev_fnt : List (Nat × List (Nat × Nat × Nat)) := [(8, [(76, 16, 8), (94, 16, 1), (97, 16, 6), (106, 16, 3), (112, 16, 4), (115, 16, 5)]),
  (20, [(32, 8, 0), (36, 8, 8), (41, 8, 10), (45, 8, 9), (48, 8, 2), (54, 16, 0), (57, 16, 1), (60, 16, 2), (63, 16, 3), (66, 8, 11), (118, 16, 8), (121, 8, 7), (124, 16, 10)])]
def ev_fnw1 (o : Nat) (q : Nat × Nat × Nat) : Cond := match vwCl[q.2.1]? with
  | some r => .fieldLinkNest (ev_own.getD o "") q.1 (r.2.1 q.2.2).1 (r.2.1 q.2.2).2.1 (r.2.1 q.2.2).2.2.1 "FlagLaundryLaw"
  | none => .tt
def ev_fnw : List Cond := ev_fnt.flatMap (fun p => p.2.map (ev_fnw1 p.1))
set_option maxRecDepth 100000 in
theorem ev_fnw_in : ∀ w ∈ ev_fnw, w ∈ lw_tbl := by
  have h : ev_fnw = ([(5, 236), (5, 227), (5, 234), (5, 230), (5, 232), (5, 233), (5, 183), (5, 188), (5, 190), (5, 189), (5, 184), (5, 226), (5, 228), (5, 229), (5, 231), (5, 192), (5, 237), (5, 186), (5, 239)] : List (Nat × Nat)).filterMap ev_chw := by decide +kernel
  intro w hw
  rw [h] at hw
  obtain ⟨q_, -, hq_⟩ := List.mem_filterMap.mp hw
  exact ev_chw_in hq_
set_option maxRecDepth 100000 in
theorem ev_fn_ok : ev_fnt.all (fun p => p.2.all (fun q => match vwCl[q.2.1]? with | some r => decide (q.2.2 < r.2.2) | none => false)) = true := by decide +kernel
set_option maxRecDepth 100000 in
theorem ev_cl_ok : ev_clt.all (fun p => p.2.all (fun q => decide (q.2 < 9 ∨ (16 ≤ q.2 ∧ q.2 < 20)))) = true := by decide +kernel
def ev_insw : List Cond := vwCl.flatMap (fun r => [.instantiable r.1 r.2.2, .initialized r.1])
set_option maxRecDepth 100000 in
theorem ev_insw_in : GoodIn lw_tbl ev_insw := goodIn_c _ [(1, 111), (1, 5), (2, 36), (1, 7), (1, 45), (1, 2), (2, 0), (1, 6), (1, 51), (1, 3), (1, 104), (1, 4), (2, 64), (1, 8), (1, 37), (1, 1), (5, 152), (1, 9), (1, 111), (1, 5), (1, 111), (1, 5), (1, 111), (1, 5), (1, 111), (1, 5), (1, 111), (1, 5), (1, 111), (1, 5), (1, 111), (1, 5), (5, 221), (1, 13), (5, 158), (1, 12), (6, 87), (1, 19), (7, 58), (1, 20)] (by decide +kernel) (by decide +kernel)
def ev_arrw : List Cond := [.arrayClass .byte, .arrayClass .int, .arrayClass .boolean, .arrayClass .long]
set_option maxRecDepth 100000 in
theorem ev_arrw_in : GoodIn lw_tbl ev_arrw := goodIn_c _ [(1, 101), (1, 102), (2, 62), (8, 35)] (by decide +kernel) (by decide +kernel)
set_option maxRecDepth 100000 in
theorem ev_ao_Flag : Cond.arrayOver (.object RX0) ∈ lw_tbl := List.mem_of_getElem? (i := 141) (by decide +kernel)
set_option maxRecDepth 100000 in
theorem ev_ao_State : Cond.arrayOver (.object RX5) ∈ lw_tbl := List.mem_of_getElem? (i := 313) (by decide +kernel)
set_option maxRecDepth 100000 in
theorem ev_ao_Obj : Cond.arrayOver (.object "java/lang/Object") ∈ lw_tbl := List.mem_of_getElem? (i := 1308) (by decide +kernel)
set_option maxRecDepth 100000 in
theorem ev_ao_II : Cond.arrayOver (.array .int) ∈ lw_tbl := List.mem_of_getElem? (i := 1210) (by decide +kernel)
/-- int constants: class of the code, index, value -/
def ev_cst : List (Nat × Nat × Int32) := [(22, 264, 65536), (22, 265, 1431655765), (22, 266, 858993459), (22, 267, 252645135), (25, 38, 2147483631), (25, 39, 2147483647), (27, 200, 2147483639), (30, 374, 65535)]
def ev_cstw : List Cond := ev_cst.map (fun q => .constant (ev_own.getD q.1 "") q.2.1 q.2.2)
set_option maxRecDepth 100000 in
theorem ev_cstw_in : GoodIn lw_tbl ev_cstw := goodIn_c _ [(8, 5), (5, 93), (5, 94), (5, 95), (6, 97), (6, 98), (6, 45), (8, 26)] (by decide +kernel) (by decide +kernel)
/-- throw sites: method, pc, (exception 0 state 1 index 2 argument, class index, text index, constructor index, wide) -/
def ev_thr : List (Nat × List (Nat × Nat × Nat × Nat × Nat × Nat)) := [(106, [(12, 1, 62, 64, 66, 0), (72, 2, 77, 79, 81, 0)]), (138, [(16, 0, 402, 421, 406, 1)]), (139, [(7, 0, 402, 426, 406, 1)]), (140, [(22, 1, 62, 428, 66, 1)]), (141, [(22, 1, 62, 430, 66, 1)]), (142, [(22, 1, 62, 432, 66, 1)]), (143, [(9, 1, 62, 434, 66, 1)]), (145, [(10, 2, 77, 436, 81, 1)]), (146, [(4, 2, 77, 438, 81, 1)])]
def ev_ex (k : Nat) : String := match k with
  | 0 => "java/lang/IllegalStateException"
  | 1 => "java/lang/IndexOutOfBoundsException"
  | _ => "java/lang/IllegalArgumentException"
/-- the classes that the law's handlers name: index, exception -/
def ev_hct : List (Nat × Nat) := []
def ev_hcw : List Cond := ev_hct.map (fun q => .classLink "FlagLaundryLaw" q.1 (ev_ex q.2))
set_option maxRecDepth 100000 in
theorem ev_hcw_in : GoodIn lw_tbl ev_hcw := fun w hw => absurd hw List.not_mem_nil
/-- what a throw needs of the tables: (class of the code, exception, class index, constructor index) -/
def ev_thk : List (Nat × Nat × Nat × Nat) := [(7, 1, 62, 66), (7, 2, 77, 81), (7, 0, 402, 406)]
set_option maxRecDepth 100000 in
theorem ev_thk_cl : GoodIn lw_tbl (ev_thk.map (fun q => Cond.classLink (ev_own.getD q.1 "") q.2.2.1 (ev_ex q.2.1))) := goodIn_c _ [(2, 110), (3, 230), (4, 22)] (by decide +kernel) (by decide +kernel)
set_option maxRecDepth 100000 in
theorem ev_thk_in : GoodIn lw_tbl [Cond.initialized (ev_ex 0), Cond.initialized (ev_ex 1), Cond.initialized (ev_ex 2)] := goodIn_c _ [(1, 32), (1, 30), (1, 31)] (by decide +kernel) (by decide +kernel)
set_option maxRecDepth 100000 in
theorem ev_thk_at : ev_thk.all (fun q => ((vx_atS (ev_own.getD q.1 "") q.2.2.2 (ev_ex q.2.1) ["java/lang/RuntimeException", "java/lang/Exception"]).filter goodWord).all (fun w => decide (w ∈ lw_tbl))) = true := by decide +kernel
def ev_ngw : List Cond := [.castable (ev_ex 0) (ev_ex 0), .castable (ev_ex 1) (ev_ex 1), .castable (ev_ex 2) (ev_ex 2), .declares ⟨"java/lang/RuntimeException", "<init>", "(Ljava/lang/String;)V"⟩, .declares ⟨"java/lang/Exception", "<init>", "(Ljava/lang/String;)V"⟩, .declares ⟨"java/lang/Throwable", "<init>", "(Ljava/lang/String;)V"⟩]
set_option maxRecDepth 100000 in
theorem ev_ngw_eq : ev_ngw = ([775, 383, 743, 385, 387, 389]).filterMap (fun i => lw_tbl[i]?) := by rfl
set_option maxRecDepth 100000 in
theorem ev_ngw_in : ∀ w ∈ ev_ngw, w ∈ lw_tbl := fun w hw => by
  rw [ev_ngw_eq] at hw
  obtain ⟨i, -, hi⟩ := List.mem_filterMap.mp hw
  exact List.mem_of_getElem? hi
set_option maxRecDepth 100000 in
theorem ev_thk_ng : ev_thk.all (fun q => ((vx_atS (ev_own.getD q.1 "") q.2.2.2 (ev_ex q.2.1) ["java/lang/RuntimeException", "java/lang/Exception"]).filter (fun w => !goodWord w)).all (fun w => decide (w ∈ ev_ngw))) = true := by decide +kernel
set_option maxRecDepth 100000 in
theorem ev_thk_ot : ev_thk.all (fun q => (Cond.classLink (ev_own.getD q.1 "") q.2.2.1 (ev_ex q.2.1) :: Cond.initialized (ev_ex q.2.1) :: vx_atS (ev_own.getD q.1 "") q.2.2.2 (ev_ex q.2.1) ["java/lang/RuntimeException", "java/lang/Exception"]).all vx_ot) = true := by decide +kernel
/-- String constants: class of the code, index, text -/
def ev_str : List (Nat × Nat × String) := [(7, 64, "not so many bytes in the buffer"),
  (3, 91, "line"),
  (3, 118, "colour"),
  (3, 123, "nation"),
  (3, 128, "tub"),
  (3, 133, "flag"),
  (3, 138, "put"),
  (3, 143, "wash"),
  (3, 148, "hang"),
  (3, 153, "wind"),
  (3, 158, "pass"),
  (7, 79, "the text has an error"),
  (7, 426, "no text was loaded"),
  (7, 436, "out of range"),
  (7, 432, "no such nation"),
  (7, 428, "no such flag"),
  (7, 430, "no such tub"),
  (7, 438, "this can not be done now"),
  (7, 434, "no such slot"),
  (7, 421, "nothing is saved there"),
  (20, 78, "line "),
  (20, 86, ";colour "),
  (20, 91, ";nation "),
  (20, 96, ";tub "),
  (20, 106, ";flag "),
  (20, 108, ";wind "),
  (20, 114, ";put "),
  (20, 116, " 0"),
  (20, 127, ";wash 0 0")]
/-- their bytes -/
def ev_sby : List (List Int32) := [[110, 111, 116, 32, 115, 111, 32, 109, 97, 110, 121, 32, 98, 121, 116, 101, 115, 32, 105, 110, 32, 116, 104, 101, 32, 98, 117, 102, 102, 101, 114],
  [108, 105, 110, 101],
  [99, 111, 108, 111, 117, 114],
  [110, 97, 116, 105, 111, 110],
  [116, 117, 98],
  [102, 108, 97, 103],
  [112, 117, 116],
  [119, 97, 115, 104],
  [104, 97, 110, 103],
  [119, 105, 110, 100],
  [112, 97, 115, 115],
  [116, 104, 101, 32, 116, 101, 120, 116, 32, 104, 97, 115, 32, 97, 110, 32, 101, 114, 114, 111, 114],
  [110, 111, 32, 116, 101, 120, 116, 32, 119, 97, 115, 32, 108, 111, 97, 100, 101, 100],
  [111, 117, 116, 32, 111, 102, 32, 114, 97, 110, 103, 101],
  [110, 111, 32, 115, 117, 99, 104, 32, 110, 97, 116, 105, 111, 110],
  [110, 111, 32, 115, 117, 99, 104, 32, 102, 108, 97, 103],
  [110, 111, 32, 115, 117, 99, 104, 32, 116, 117, 98],
  [116, 104, 105, 115, 32, 99, 97, 110, 32, 110, 111, 116, 32, 98, 101, 32, 100, 111, 110, 101, 32, 110, 111, 119],
  [110, 111, 32, 115, 117, 99, 104, 32, 115, 108, 111, 116],
  [110, 111, 116, 104, 105, 110, 103, 32, 105, 115, 32, 115, 97, 118, 101, 100, 32, 116, 104, 101, 114, 101],
  [108, 105, 110, 101, 32],
  [59, 99, 111, 108, 111, 117, 114, 32],
  [59, 110, 97, 116, 105, 111, 110, 32],
  [59, 116, 117, 98, 32],
  [59, 102, 108, 97, 103, 32],
  [59, 119, 105, 110, 100, 32],
  [59, 112, 117, 116, 32],
  [32, 48],
  [59, 119, 97, 115, 104, 32, 48, 32, 48]]
set_option maxRecDepth 100000 in
theorem ev_str_in : ∀ q ∈ ev_str, Cond.stringRef (ev_own.getD q.1 "") q.2.1 q.2.2 ∈ lw_tbl := by
  have h : (ev_str.map (fun q => Cond.stringRef (ev_own.getD q.1 "") q.2.1 q.2.2)) = ([422, 498, 559, 572, 581, 590, 611, 625, 685, 706, 711, 750, 782, 792, 817, 848, 857, 1033, 1122, 1131, 1319, 1465, 1467, 1481, 1498, 1499, 1507, 1508, 1509]).filterMap (fun i => lw_tbl[i]?) := by rfl
  intro q hq
  have h1 : Cond.stringRef (ev_own.getD q.1 "") q.2.1 q.2.2 ∈ ev_str.map (fun q => Cond.stringRef (ev_own.getD q.1 "") q.2.1 q.2.2) := List.mem_map.mpr ⟨q, hq, rfl⟩
  rw [h] at h1
  obtain ⟨i, -, hi⟩ := List.mem_filterMap.mp h1
  exact List.mem_of_getElem? hi
