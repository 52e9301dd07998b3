/-! tables, by wip/gen/gen.py -/
/-- the table's pieces: a word by its piece and its place there -/
def ev_chs : List (List Cond) := [k2_sels lw_privs, tables_1_1, tables_1_2, tables_1_3, tables_1_4, tables_1_5, tables_1_6, tables_1_7, tables_1_8, tables_1_9, tables_1_10]
set_option maxRecDepth 100000 in
theorem ev_chs_in : ∀ c ∈ ev_chs, ∀ w ∈ c, w ∈ lw_tbl := by
  have h0_ : ∀ w ∈ tables_1, w ∈ lw_tbl := fun w hw => List.mem_append.mpr (Or.inr hw)
  have h1_ : ∀ w ∈ tables_1_1, w ∈ tables_1 := fun w hw => by
    unfold tables_1
    simp only [List.mem_append]
    exact Or.inl hw
  have h2_ : ∀ w ∈ tables_1_2, w ∈ tables_1 := fun w hw => by
    unfold tables_1
    simp only [List.mem_append]
    exact Or.inr (Or.inl hw)
  have h3_ : ∀ w ∈ tables_1_3, w ∈ tables_1 := fun w hw => by
    unfold tables_1
    simp only [List.mem_append]
    exact Or.inr (Or.inr (Or.inl hw))
  have h4_ : ∀ w ∈ tables_1_4, w ∈ tables_1 := fun w hw => by
    unfold tables_1
    simp only [List.mem_append]
    exact Or.inr (Or.inr (Or.inr (Or.inl hw)))
  have h5_ : ∀ w ∈ tables_1_5, w ∈ tables_1 := fun w hw => by
    unfold tables_1
    simp only [List.mem_append]
    exact Or.inr (Or.inr (Or.inr (Or.inr (Or.inl hw))))
  have h6_ : ∀ w ∈ tables_1_6, w ∈ tables_1 := fun w hw => by
    unfold tables_1
    simp only [List.mem_append]
    exact Or.inr (Or.inr (Or.inr (Or.inr (Or.inr (Or.inl hw)))))
  have h7_ : ∀ w ∈ tables_1_7, w ∈ tables_1 := fun w hw => by
    unfold tables_1
    simp only [List.mem_append]
    exact Or.inr (Or.inr (Or.inr (Or.inr (Or.inr (Or.inr (Or.inl hw))))))
  have h8_ : ∀ w ∈ tables_1_8, w ∈ tables_1 := fun w hw => by
    unfold tables_1
    simp only [List.mem_append]
    exact Or.inr (Or.inr (Or.inr (Or.inr (Or.inr (Or.inr (Or.inr (Or.inl hw)))))))
  have h9_ : ∀ w ∈ tables_1_9, w ∈ tables_1 := fun w hw => by
    unfold tables_1
    simp only [List.mem_append]
    exact Or.inr (Or.inr (Or.inr (Or.inr (Or.inr (Or.inr (Or.inr (Or.inr (Or.inl hw))))))))
  have h10_ : ∀ w ∈ tables_1_10, w ∈ tables_1 := fun w hw => by
    unfold tables_1
    simp only [List.mem_append]
    exact Or.inr (Or.inr (Or.inr (Or.inr (Or.inr (Or.inr (Or.inr (Or.inr (Or.inr hw))))))))
  exact List.forall_mem_cons.mpr ⟨fun w hw => List.mem_append.mpr (Or.inl hw), List.forall_mem_cons.mpr ⟨fun w hw => h0_ w (h1_ w hw), List.forall_mem_cons.mpr ⟨fun w hw => h0_ w (h2_ w hw), List.forall_mem_cons.mpr ⟨fun w hw => h0_ w (h3_ w hw), List.forall_mem_cons.mpr ⟨fun w hw => h0_ w (h4_ w hw), List.forall_mem_cons.mpr ⟨fun w hw => h0_ w (h5_ w hw), List.forall_mem_cons.mpr ⟨fun w hw => h0_ w (h6_ w hw), List.forall_mem_cons.mpr ⟨fun w hw => h0_ w (h7_ w hw), List.forall_mem_cons.mpr ⟨fun w hw => h0_ w (h8_ w hw), List.forall_mem_cons.mpr ⟨fun w hw => h0_ w (h9_ w hw), List.forall_mem_cons.mpr ⟨fun w hw => h0_ w (h10_ w hw), fun _ h => absurd h List.not_mem_nil⟩⟩⟩⟩⟩⟩⟩⟩⟩⟩⟩
def ev_chw (q : Nat × Nat) : Option Cond := (ev_chs.getD q.1 [])[q.2]?
set_option maxRecDepth 100000 in
theorem goodIn_c (ws : List Cond) (ps : List (Nat × Nat)) (hp : ws = ps.filterMap ev_chw) (h : ws.all goodWord = true) : GoodIn lw_tbl ws := by
  intro w hw
  have h1_ := List.all_eq_true.mp h w hw
  rw [hp] at hw
  obtain ⟨q_, -, hq_⟩ := List.mem_filterMap.mp hw
  unfold ev_chw at hq_
  have hm_ : w ∈ ev_chs.getD q_.1 [] := List.mem_of_getElem? hq_
  refine ⟨?_, good_of_word h1_⟩
  rw [List.getD_eq_getElem?_getD] at hm_
  cases hc_ : ev_chs[q_.1]? with
  | none => rw [hc_] at hm_; exact absurd hm_ List.not_mem_nil
  | some c_ => rw [hc_] at hm_; exact ev_chs_in c_ (List.mem_of_getElem? hc_) w hm_
def RX0 : String := "FlagLaundry$Flag"
def TX0 : u_T := fun k => match k with
  | 0 => ("FlagLaundry$Flag", "nation", "I", false)
  | 1 => ("FlagLaundry$Flag", "colours", "I", false)
  | 2 => ("FlagLaundry$Flag", "care", "I", false)
  | 3 => ("FlagLaundry$Flag", "dirt", "I", false)
  | 4 => ("FlagLaundry$Flag", "wet", "I", false)
  | 5 => ("FlagLaundry$Flag", "crease", "I", false)
  | 6 => ("FlagLaundry$Flag", "stains", "I", false)
  | 7 => ("FlagLaundry$Flag", "bleached", "I", false)
  | 8 => ("FlagLaundry$Flag", "place", "I", false)
  | _ => ("FlagLaundry$Flag", "spot", "I", false)
def tyX0 : Nat → FieldType := fun k => match k with
  | 0 => .int
  | 1 => .int
  | 2 => .int
  | 3 => .int
  | 4 => .int
  | 5 => .int
  | 6 => .int
  | 7 => .int
  | 8 => .int
  | _ => .int
theorem nmX0 : ∀ a, a < 10 → ∀ b, b < 10 → a ≠ b → (TX0 a).2.1 ≠ (TX0 b).2.1 := by decide +kernel
theorem tyX0_ok : ∀ k, k < 10 → parseFieldDescriptor (TX0 k).2.2.1 = some (tyX0 k) := by decide +kernel
set_option maxRecDepth 100000 in
theorem ev_layX0 : GoodIn lw_tbl (u_ws RX0 TX0 10) := goodIn_c _ [(1, 146), (1, 148), (1, 150), (1, 152), (1, 154), (1, 156), (1, 158), (1, 160), (1, 162), (1, 164)] (by decide +kernel) (by decide +kernel)
def RX1 : String := "FlagLaundry$History"
def TX1 : u_T := fun k => match k with
  | 0 => ("FlagLaundry$History", "count", "I", false)
  | 1 => ("FlagLaundry$History", "isSaved", "[Z", true)
  | 2 => ("FlagLaundry$History", "oldest", "I", false)
  | 3 => ("FlagLaundry$History", "before", "[LFlagLaundry$State;", true)
  | _ => ("FlagLaundry$History", "saved", "[LFlagLaundry$State;", true)
def tyX1 : Nat → FieldType := fun k => match k with
  | 0 => .int
  | 1 => .array .boolean
  | 2 => .int
  | 3 => .array (.object "FlagLaundry$State")
  | _ => .array (.object "FlagLaundry$State")
theorem nmX1 : ∀ a, a < 5 → ∀ b, b < 5 → a ≠ b → (TX1 a).2.1 ≠ (TX1 b).2.1 := by decide +kernel
theorem tyX1_ok : ∀ k, k < 5 → parseFieldDescriptor (TX1 k).2.2.1 = some (tyX1 k) := by decide +kernel
set_option maxRecDepth 100000 in
theorem ev_layX1 : GoodIn lw_tbl (u_ws RX1 TX1 5) := goodIn_c _ [(2, 55), (2, 57), (2, 59), (2, 61), (2, 63)] (by decide +kernel) (by decide +kernel)
def RX2 : String := "FlagLaundry$Laundry"
def TX2 : u_T := fun k => match k with
  | 0 => ("FlagLaundry$Laundry", "setup", "LFlagLaundry$Setup;", true)
  | 1 => ("FlagLaundry$Laundry", "state", "LFlagLaundry$State;", true)
  | _ => ("FlagLaundry$Laundry", "groupOf", "[I", true)
def tyX2 : Nat → FieldType := fun k => match k with
  | 0 => .object "FlagLaundry$Setup"
  | 1 => .object "FlagLaundry$State"
  | _ => .array .int
theorem nmX2 : ∀ a, a < 3 → ∀ b, b < 3 → a ≠ b → (TX2 a).2.1 ≠ (TX2 b).2.1 := by decide +kernel
theorem tyX2_ok : ∀ k, k < 3 → parseFieldDescriptor (TX2 k).2.2.1 = some (tyX2 k) := by decide +kernel
set_option maxRecDepth 100000 in
theorem ev_layX2 : GoodIn lw_tbl (u_ws RX2 TX2 3) := goodIn_c _ [(1, 236), (1, 238), (2, 0)] (by decide +kernel) (by decide +kernel)
def RX3 : String := "FlagLaundry$Parser"
def TX3 : u_T := fun k => match k with
  | 0 => ("FlagLaundry$Parser", "errorCode", "I", false)
  | 1 => ("FlagLaundry$Parser", "errorPosition", "I", false)
  | 2 => ("FlagLaundry$Parser", "bytes", "[B", false)
  | 3 => ("FlagLaundry$Parser", "length", "I", false)
  | 4 => ("FlagLaundry$Parser", "position", "I", false)
  | 5 => ("FlagLaundry$Parser", "kind", "I", false)
  | 6 => ("FlagLaundry$Parser", "start", "I", false)
  | 7 => ("FlagLaundry$Parser", "value", "I", false)
  | _ => ("FlagLaundry$Parser", "laundry", "LFlagLaundry$Laundry;", false)
def tyX3 : Nat → FieldType := fun k => match k with
  | 0 => .int
  | 1 => .int
  | 2 => .array .byte
  | 3 => .int
  | 4 => .int
  | 5 => .int
  | 6 => .int
  | 7 => .int
  | _ => .object "FlagLaundry$Laundry"
theorem nmX3 : ∀ a, a < 9 → ∀ b, b < 9 → a ≠ b → (TX3 a).2.1 ≠ (TX3 b).2.1 := by decide +kernel
theorem tyX3_ok : ∀ k, k < 9 → parseFieldDescriptor (TX3 k).2.2.1 = some (tyX3 k) := by decide +kernel
set_option maxRecDepth 100000 in
theorem ev_layX3 : GoodIn lw_tbl (u_ws RX3 TX3 9) := goodIn_c _ [(2, 20), (2, 22), (2, 24), (2, 26), (2, 28), (2, 30), (2, 32), (2, 34), (2, 36)] (by decide +kernel) (by decide +kernel)
def RX4 : String := "FlagLaundry$Setup"
def TX4 : u_T := fun k => match k with
  | 0 => ("FlagLaundry$Setup", "pegs", "I", false)
  | 1 => ("FlagLaundry$Setup", "colours", "I", false)
  | 2 => ("FlagLaundry$Setup", "nations", "I", false)
  | 3 => ("FlagLaundry$Setup", "tubs", "I", false)
  | 4 => ("FlagLaundry$Setup", "runs", "[I", true)
  | 5 => ("FlagLaundry$Setup", "due", "[I", true)
  | 6 => ("FlagLaundry$Setup", "fee", "[I", true)
  | 7 => ("FlagLaundry$Setup", "fine", "[I", true)
  | _ => ("FlagLaundry$Setup", "room", "[I", true)
def tyX4 : Nat → FieldType := fun k => match k with
  | 0 => .int
  | 1 => .int
  | 2 => .int
  | 3 => .int
  | 4 => .array .int
  | 5 => .array .int
  | 6 => .array .int
  | 7 => .array .int
  | _ => .array .int
theorem nmX4 : ∀ a, a < 9 → ∀ b, b < 9 → a ≠ b → (TX4 a).2.1 ≠ (TX4 b).2.1 := by decide +kernel
theorem tyX4_ok : ∀ k, k < 9 → parseFieldDescriptor (TX4 k).2.2.1 = some (tyX4 k) := by decide +kernel
set_option maxRecDepth 100000 in
theorem ev_layX4 : GoodIn lw_tbl (u_ws RX4 TX4 9) := goodIn_c _ [(1, 72), (1, 74), (1, 76), (1, 78), (1, 80), (1, 82), (1, 84), (1, 86), (1, 88)] (by decide +kernel) (by decide +kernel)
def RX5 : String := "FlagLaundry$State"
def TX5 : u_T := fun k => match k with
  | 0 => ("FlagLaundry$State", "hour", "I", false)
  | 1 => ("FlagLaundry$State", "wind", "I", false)
  | 2 => ("FlagLaundry$State", "earned", "I", false)
  | 3 => ("FlagLaundry$State", "fined", "I", false)
  | 4 => ("FlagLaundry$State", "washes", "I", false)
  | 5 => ("FlagLaundry$State", "falls", "I", false)
  | 6 => ("FlagLaundry$State", "flagCount", "I", false)
  | 7 => ("FlagLaundry$State", "flags", "[LFlagLaundry$Flag;", true)
  | 8 => ("FlagLaundry$State", "tubSizes", "[I", true)
  | 9 => ("FlagLaundry$State", "tubFlags", "[I", true)
  | 10 => ("FlagLaundry$State", "pegs", "[I", true)
  | _ => ("FlagLaundry$State", "lateThen", "[I", true)
def tyX5 : Nat → FieldType := fun k => match k with
  | 0 => .int
  | 1 => .int
  | 2 => .int
  | 3 => .int
  | 4 => .int
  | 5 => .int
  | 6 => .int
  | 7 => .array (.object "FlagLaundry$Flag")
  | 8 => .array .int
  | 9 => .array .int
  | 10 => .array .int
  | _ => .array .int
theorem nmX5 : ∀ a, a < 12 → ∀ b, b < 12 → a ≠ b → (TX5 a).2.1 ≠ (TX5 b).2.1 := by decide +kernel
theorem tyX5_ok : ∀ k, k < 12 → parseFieldDescriptor (TX5 k).2.2.1 = some (tyX5 k) := by decide +kernel
set_option maxRecDepth 100000 in
theorem ev_layX5 : GoodIn lw_tbl (u_ws RX5 TX5 12) := goodIn_c _ [(1, 204), (1, 206), (1, 208), (1, 210), (1, 212), (1, 214), (1, 216), (1, 218), (1, 220), (1, 222), (1, 224), (1, 226)] (by decide +kernel) (by decide +kernel)
def RX6 : String := "FlagLaundry$Text"
def TX6 : u_T := fun k => match k with
  | 0 => ("FlagLaundry$Text", "length", "I", false)
  | _ => ("FlagLaundry$Text", "bytes", "[I", true)
def tyX6 : Nat → FieldType := fun k => match k with
  | 0 => .int
  | _ => .array .int
theorem nmX6 : ∀ a, a < 2 → ∀ b, b < 2 → a ≠ b → (TX6 a).2.1 ≠ (TX6 b).2.1 := by decide +kernel
theorem tyX6_ok : ∀ k, k < 2 → parseFieldDescriptor (TX6 k).2.2.1 = some (tyX6 k) := by decide +kernel
set_option maxRecDepth 100000 in
theorem ev_layX6 : GoodIn lw_tbl (u_ws RX6 TX6 2) := goodIn_c _ [(2, 77), (2, 79)] (by decide +kernel) (by decide +kernel)
def RX7 : String := "FlagLaundry"
def TX7 : u_T := fun k => match k with
  | 0 => ("FlagLaundry", "buffer", "[B", true)
  | 1 => ("FlagLaundry", "buffered", "I", false)
  | 2 => ("FlagLaundry", "parseError", "I", false)
  | 3 => ("FlagLaundry", "errorPosition", "I", false)
  | 4 => ("FlagLaundry", "loaded", "Z", false)
  | 5 => ("FlagLaundry", "now", "LFlagLaundry$Laundry;", false)
  | 6 => ("FlagLaundry", "spare", "LFlagLaundry$Laundry;", false)
  | 7 => ("FlagLaundry", "parser", "LFlagLaundry$Parser;", true)
  | 8 => ("FlagLaundry", "history", "LFlagLaundry$History;", true)
  | _ => ("FlagLaundry", "text", "LFlagLaundry$Text;", true)
def tyX7 : Nat → FieldType := fun k => match k with
  | 0 => .array .byte
  | 1 => .int
  | 2 => .int
  | 3 => .int
  | 4 => .boolean
  | 5 => .object "FlagLaundry$Laundry"
  | 6 => .object "FlagLaundry$Laundry"
  | 7 => .object "FlagLaundry$Parser"
  | 8 => .object "FlagLaundry$History"
  | _ => .object "FlagLaundry$Text"
theorem nmX7 : ∀ a, a < 10 → ∀ b, b < 10 → a ≠ b → (TX7 a).2.1 ≠ (TX7 b).2.1 := by decide +kernel
theorem tyX7_ok : ∀ k, k < 10 → parseFieldDescriptor (TX7 k).2.2.1 = some (tyX7 k) := by decide +kernel
set_option maxRecDepth 100000 in
theorem ev_layX7 : GoodIn lw_tbl (u_ws RX7 TX7 10) := goodIn_c _ [(2, 92), (2, 94), (2, 96), (2, 98), (2, 100), (2, 102), (2, 104), (2, 106), (2, 108), (2, 110)] (by decide +kernel) (by decide +kernel)
def RX8 : String := "FlagLaundryModel"
def TX8 : u_T := fun k => match k with
  | 0 => ("FlagLaundryModel", "thrown", "I", false)
  | 1 => ("FlagLaundryModel", "now", "[I", true)
  | 2 => ("FlagLaundryModel", "aside", "[I", true)
  | 3 => ("FlagLaundryModel", "undos", "[I", true)
  | 4 => ("FlagLaundryModel", "saved", "[I", true)
  | 5 => ("FlagLaundryModel", "isSaved", "[Z", true)
  | 6 => ("FlagLaundryModel", "isThere", "Z", false)
  | 7 => ("FlagLaundryModel", "undoMany", "I", false)
  | 8 => ("FlagLaundryModel", "buffer", "[B", true)
  | 9 => ("FlagLaundryModel", "buffered", "I", false)
  | 10 => ("FlagLaundryModel", "parseCode", "I", false)
  | 11 => ("FlagLaundryModel", "parseAt", "I", false)
  | 12 => ("FlagLaundryModel", "size", "I", false)
  | 13 => ("FlagLaundryModel", "cursor", "I", false)
  | 14 => ("FlagLaundryModel", "start", "I", false)
  | 15 => ("FlagLaundryModel", "token", "I", false)
  | 16 => ("FlagLaundryModel", "told", "I", false)
  | 17 => ("FlagLaundryModel", "group", "[I", true)
  | 18 => ("FlagLaundryModel", "page", "[B", true)
  | _ => ("FlagLaundryModel", "pageSize", "I", false)
def tyX8 : Nat → FieldType := fun k => match k with
  | 0 => .int
  | 1 => .array .int
  | 2 => .array .int
  | 3 => .array .int
  | 4 => .array .int
  | 5 => .array .boolean
  | 6 => .boolean
  | 7 => .int
  | 8 => .array .byte
  | 9 => .int
  | 10 => .int
  | 11 => .int
  | 12 => .int
  | 13 => .int
  | 14 => .int
  | 15 => .int
  | 16 => .int
  | 17 => .array .int
  | 18 => .array .byte
  | _ => .int
theorem nmX8 : ∀ a, a < 20 → ∀ b, b < 20 → a ≠ b → (TX8 a).2.1 ≠ (TX8 b).2.1 := by decide +kernel
theorem tyX8_ok : ∀ k, k < 20 → parseFieldDescriptor (TX8 k).2.2.1 = some (tyX8 k) := by decide +kernel
set_option maxRecDepth 100000 in
theorem ev_layX8 : GoodIn lw_tbl (u_ws RX8 TX8 20) := goodIn_c _ [(7, 101), (7, 103), (7, 105), (7, 107), (7, 109), (7, 111), (7, 113), (7, 115), (7, 117), (7, 119), (7, 121), (7, 123), (7, 125), (7, 127), (7, 129), (7, 131), (7, 133), (7, 135), (7, 137), (7, 139)] (by decide +kernel) (by decide +kernel)
abbrev vwCl : List vw_C := [(RX0, TX0, 10), (RX1, TX1, 5), (RX2, TX2, 3), (RX3, TX3, 9), (RX4, TX4, 9), (RX5, TX5, 12), (RX6, TX6, 2), (RX7, TX7, 10), (RX8, TX8, 20)]
def ev_own : List String := ["FlagLaundry$Flag", "FlagLaundry$History", "FlagLaundry$Laundry", "FlagLaundry$Parser", "FlagLaundry$Setup", "FlagLaundry$State", "FlagLaundry$Text", "FlagLaundry", "FlagLaundryModel", "FlagLaundryLaw", "java/util/Arrays", "java/lang/Integer"]
/-- kinds of the fields: 0 a number, 1 a boolean, 2 a reference -/
def ev_ft : List (List Nat) := [[0, 0, 0, 0, 0, 0, 0, 0, 0, 0], [0, 2, 0, 2, 2], [2, 2, 2], [0, 0, 2, 0, 0, 0, 0, 0, 2], [0, 0, 0, 0, 2, 2, 2, 2, 2], [0, 0, 0, 0, 0, 0, 0, 2, 2, 2, 2, 2], [0, 2], [2, 0, 0, 0, 1, 2, 2, 2, 2, 2], [0, 2, 2, 2, 2, 2, 1, 0, 2, 0, 0, 0, 0, 0, 0, 0, 0, 2, 2, 0]]
/-- a method: its class's place, name, code, locals, answer, arguments (the receiver not counted), kind (0 static, 1 virtual, 2 a constructor, 3 one of a nest mate), frames, locals' words, handlers -/
abbrev ev_ME : Type := Nat × MethodName × ByteArray × Nat × Option FieldType × Nat × Nat × Nat × Nat × List (Nat × Nat × Nat × Nat)
def ev_own1 (e : ev_ME) : Nat := e.1
def ev_y (e : ev_ME) : MethodName := e.2.1
def ev_by (e : ev_ME) : ByteArray := e.2.2.1
def ev_ml (e : ev_ME) : Nat := e.2.2.2.1
def ev_rt (e : ev_ME) : Option FieldType := e.2.2.2.2.1
def ev_na (e : ev_ME) : Nat := e.2.2.2.2.2.1
def ev_kd (e : ev_ME) : Nat := e.2.2.2.2.2.2.1
def ev_fr (e : ev_ME) : Nat := e.2.2.2.2.2.2.2.1
def ev_lo (e : ev_ME) : Nat := e.2.2.2.2.2.2.2.2.1
def ev_hh (e : ev_ME) : List (Nat × Nat × Nat × Nat) := e.2.2.2.2.2.2.2.2.2
def ev_cw (e : ev_ME) : Cond := match ev_hh e with
  | [] => .code (ev_y e) (ev_by e) (ev_ml e) (ev_rt e)
  | h :: r => .codeWith (ev_y e) (ev_by e) (ev_ml e) (ev_rt e) (h :: r)
def ev_mw (e : ev_ME) : List Cond := ev_cw e :: .initialized (ev_y e).cls :: (match ev_kd e with
  | 0 => [.static (ev_y e)]
  | 1 => [.instanceMethod (ev_y e), .selects (ev_y e).cls (ev_y e) (ev_y e)]
  | _ => [.instanceMethod (ev_y e)])
def ev_ms_0 : List ev_ME := [(0, ⟨"FlagLaundry$Flag", "<init>", "()V"⟩, prog_2_method_1_code, 1, none, 0, 3, 1, 21, []),
  (0, ⟨"FlagLaundry$Flag", "begin", "(IIII)V"⟩, prog_2_method_2_code, 5, none, 4, 1, 1, 22, []),
  (0, ⟨"FlagLaundry$Flag", "become", "(LFlagLaundry$Flag;)V"⟩, prog_2_method_3_code, 2, none, 1, 1, 0, 0, []),
  (0, ⟨"FlagLaundry$Flag", "moveTo", "(II)V"⟩, prog_2_method_4_code, 3, none, 2, 1, 0, 0, []),
  (0, ⟨"FlagLaundry$Flag", "allReasons", "()I"⟩, prog_2_method_5_code, 1, some FieldType.int, 0, 1, 0, 0, []),
  (0, ⟨"FlagLaundry$Flag", "firstReason", "()I"⟩, prog_2_method_6_code, 3, some FieldType.int, 0, 1, 1, 20, []),
  (0, ⟨"FlagLaundry$Flag", "isReady", "()Z"⟩, prog_2_method_7_code, 1, some FieldType.boolean, 0, 1, 1, 20, []),
  (0, ⟨"FlagLaundry$Flag", "bears", "(I)Z"⟩, prog_2_method_8_code, 2, some FieldType.boolean, 1, 1, 0, 0, []),
  (0, ⟨"FlagLaundry$Flag", "reasonAgainstIron", "(I)I"⟩, prog_2_method_9_code, 2, some FieldType.int, 1, 1, 1, 21, []),
  (0, ⟨"FlagLaundry$Flag", "reasonAgainstBleach", "()I"⟩, prog_2_method_10_code, 1, some FieldType.int, 0, 1, 0, 0, []),
  (0, ⟨"FlagLaundry$Flag", "carried", "()I"⟩, prog_2_method_11_code, 1, some FieldType.int, 0, 1, 0, 0, []),
  (0, ⟨"FlagLaundry$Flag", "newStains", "(I)I"⟩, prog_2_method_12_code, 2, some FieldType.int, 1, 1, 0, 0, []),
  (0, ⟨"FlagLaundry$Flag", "dirtAfterWash", "(I)I"⟩, prog_2_method_13_code, 2, some FieldType.int, 1, 1, 1, 21, []),
  (0, ⟨"FlagLaundry$Flag", "takeWash", "(II)V"⟩, prog_2_method_14_code, 3, none, 2, 1, 2, 42, []),
  (0, ⟨"FlagLaundry$Flag", "takeFall", "()V"⟩, prog_2_method_15_code, 1, none, 0, 1, 1, 21, []),
  (0, ⟨"FlagLaundry$Flag", "creaseAfterIron", "(III)I"⟩, prog_2_method_16_code, 3, some FieldType.int, 3, 0, 1, 21, [])]
def ev_ms_1 : List ev_ME := [(0, ⟨"FlagLaundry$Flag", "wetAfterIron", "(II)I"⟩, prog_2_method_17_code, 2, some FieldType.int, 2, 0, 1, 21, []),
  (0, ⟨"FlagLaundry$Flag", "takeIron", "(I)V"⟩, prog_2_method_18_code, 2, none, 1, 1, 2, 43, []),
  (0, ⟨"FlagLaundry$Flag", "takeBleach", "()I"⟩, prog_2_method_19_code, 2, some FieldType.int, 0, 1, 1, 20, []),
  (0, ⟨"FlagLaundry$Flag", "washesUntilClean", "()I"⟩, prog_2_method_20_code, 3, some FieldType.int, 0, 1, 0, 0, []),
  (0, ⟨"FlagLaundry$Flag", "ironsUntilSmooth", "(I)I"⟩, prog_2_method_21_code, 5, some FieldType.int, 1, 1, 2, 43, []),
  (1, ⟨"FlagLaundry$History", "<init>", "()V"⟩, prog_3_method_1_code, 2, none, 0, 2, 3, 62, []),
  (1, ⟨"FlagLaundry$History", "forgetChanges", "()V"⟩, prog_3_method_2_code, 1, none, 0, 1, 0, 0, []),
  (1, ⟨"FlagLaundry$History", "forgetAll", "()V"⟩, prog_3_method_3_code, 2, none, 0, 1, 1, 20, []),
  (1, ⟨"FlagLaundry$History", "keep", "(LFlagLaundry$State;)V"⟩, prog_3_method_4_code, 2, none, 1, 1, 2, 62, []),
  (1, ⟨"FlagLaundry$History", "takeBack", "(LFlagLaundry$State;)V"⟩, prog_3_method_5_code, 2, none, 1, 1, 2, 62, []),
  (1, ⟨"FlagLaundry$History", "saveIn", "(ILFlagLaundry$State;)V"⟩, prog_3_method_6_code, 3, none, 2, 1, 2, 62, []),
  (1, ⟨"FlagLaundry$History", "fetchFrom", "(ILFlagLaundry$State;)V"⟩, prog_3_method_7_code, 3, none, 2, 1, 2, 62, []),
  (2, ⟨"FlagLaundry$Laundry", "<init>", "()V"⟩, prog_4_method_1_code, 1, none, 0, 2, 3, 62, []),
  (2, ⟨"FlagLaundry$Laundry", "clear", "()V"⟩, prog_4_method_2_code, 1, none, 0, 1, 2, 43, []),
  (2, ⟨"FlagLaundry$Laundry", "greatestHeat", "(I)I"⟩, prog_4_method_3_code, 4, some FieldType.int, 1, 1, 1, 22, []),
  (2, ⟨"FlagLaundry$Laundry", "dirtIn", "(I)I"⟩, prog_4_method_4_code, 4, some FieldType.int, 1, 1, 1, 22, [])]
def ev_ms_2 : List ev_ME := [(2, ⟨"FlagLaundry$Laundry", "coloursIn", "(I)I"⟩, prog_4_method_5_code, 4, some FieldType.int, 1, 1, 1, 22, []),
  (2, ⟨"FlagLaundry$Laundry", "carriedIn", "(I)I"⟩, prog_4_method_6_code, 4, some FieldType.int, 1, 1, 1, 22, []),
  (2, ⟨"FlagLaundry$Laundry", "runningIn", "(II)I"⟩, prog_4_method_7_code, 3, some FieldType.int, 2, 1, 2, 45, []),
  (2, ⟨"FlagLaundry$Laundry", "stainedBy", "(II)I"⟩, prog_4_method_8_code, 5, some FieldType.int, 2, 1, 1, 22, []),
  (2, ⟨"FlagLaundry$Laundry", "dirtLeftIn", "(II)I"⟩, prog_4_method_9_code, 5, some FieldType.int, 2, 1, 2, 42, []),
  (2, ⟨"FlagLaundry$Laundry", "reasonAgainstPut", "(II)I"⟩, prog_4_method_10_code, 3, some FieldType.int, 2, 1, 0, 0, []),
  (2, ⟨"FlagLaundry$Laundry", "reasonAgainstWash", "(II)I"⟩, prog_4_method_11_code, 3, some FieldType.int, 2, 1, 2, 45, []),
  (2, ⟨"FlagLaundry$Laundry", "washTub", "(II)I"⟩, prog_4_method_12_code, 6, some FieldType.int, 2, 1, 3, 64, []),
  (2, ⟨"FlagLaundry$Laundry", "bestHeatFor", "(I)I"⟩, prog_4_method_13_code, 7, some FieldType.int, 1, 1, 3, 67, []),
  (2, ⟨"FlagLaundry$Laundry", "firstSafeFor", "(II)I"⟩, prog_4_method_14_code, 4, some FieldType.int, 2, 1, 3, 70, []),
  (2, ⟨"FlagLaundry$Laundry", "isSafeWith", "(LFlagLaundry$Flag;II)Z"⟩, prog_4_method_15_code, 5, some FieldType.boolean, 3, 1, 2, 46, []),
  (2, ⟨"FlagLaundry$Laundry", "mixing", "(III)I"⟩, prog_4_method_16_code, 7, some FieldType.int, 3, 1, 1, 23, []),
  (2, ⟨"FlagLaundry$Laundry", "groupsOfDirty", "(I)I"⟩, prog_4_method_17_code, 6, some FieldType.int, 1, 1, 4, 97, []),
  (2, ⟨"FlagLaundry$Laundry", "firstGroupFor", "(III)I"⟩, prog_4_method_18_code, 5, some FieldType.int, 3, 1, 3, 73, []),
  (2, ⟨"FlagLaundry$Laundry", "mixesInGroup", "(III)Z"⟩, prog_4_method_19_code, 5, some FieldType.boolean, 3, 1, 2, 49, []),
  (2, ⟨"FlagLaundry$Laundry", "purestInBasket", "(I)I"⟩, prog_4_method_20_code, 6, some FieldType.int, 1, 1, 3, 73, [])]
def ev_ms_3 : List ev_ME := [(2, ⟨"FlagLaundry$Laundry", "mixesInBasket", "(II)I"⟩, prog_4_method_21_code, 5, some FieldType.int, 2, 1, 2, 49, []),
  (2, ⟨"FlagLaundry$Laundry", "firstFreePeg", "()I"⟩, prog_4_method_22_code, 2, some FieldType.int, 0, 1, 0, 0, []),
  (2, ⟨"FlagLaundry$Laundry", "canHang", "(I)Z"⟩, prog_4_method_23_code, 2, some FieldType.boolean, 1, 1, 1, 21, []),
  (2, ⟨"FlagLaundry$Laundry", "hangOnFirstFree", "(I)I"⟩, prog_4_method_24_code, 3, some FieldType.int, 1, 1, 2, 44, []),
  (2, ⟨"FlagLaundry$Laundry", "hangAllWet", "()I"⟩, prog_4_method_25_code, 3, some FieldType.int, 0, 1, 3, 66, []),
  (2, ⟨"FlagLaundry$Laundry", "lateAt", "(II)I"⟩, prog_4_method_26_code, 3, some FieldType.int, 2, 1, 1, 21, []),
  (2, ⟨"FlagLaundry$Laundry", "hoursLate", "(I)I"⟩, prog_4_method_27_code, 2, some FieldType.int, 1, 1, 2, 43, []),
  (2, ⟨"FlagLaundry$Laundry", "payForEach", "(II)I"⟩, prog_4_method_28_code, 3, some FieldType.int, 2, 1, 2, 43, []),
  (2, ⟨"FlagLaundry$Laundry", "payAhead", "(II)I"⟩, prog_4_method_29_code, 3, some FieldType.int, 2, 1, 3, 65, []),
  (2, ⟨"FlagLaundry$Laundry", "lastPaidHour", "(I)I"⟩, prog_4_method_30_code, 4, some FieldType.int, 1, 1, 1, 23, []),
  (2, ⟨"FlagLaundry$Laundry", "nationLosingMost", "()I"⟩, prog_4_method_31_code, 5, some FieldType.int, 0, 1, 4, 87, []),
  (2, ⟨"FlagLaundry$Laundry", "canHandOver", "(I)Z"⟩, prog_4_method_32_code, 2, some FieldType.boolean, 1, 1, 3, 62, []),
  (2, ⟨"FlagLaundry$Laundry", "handOverAll", "(I)I"⟩, prog_4_method_33_code, 4, some FieldType.int, 1, 1, 4, 87, []),
  (2, ⟨"FlagLaundry$Laundry", "sumsThatDiffer", "()I"⟩, prog_4_method_34_code, 6, some FieldType.int, 0, 1, 1, 23, []),
  (3, ⟨"FlagLaundry$Parser", "<init>", "()V"⟩, prog_5_method_1_code, 1, none, 0, 2, 1, 21, []),
  (3, ⟨"FlagLaundry$Parser", "read", "([BILFlagLaundry$Laundry;)V"⟩, prog_5_method_2_code, 5, none, 3, 1, 6, 153, [])]
def ev_ms_4 : List ev_ME := [(3, ⟨"FlagLaundry$Parser", "failed", "()Z"⟩, prog_5_method_3_code, 1, some FieldType.boolean, 0, 1, 0, 0, []),
  (3, ⟨"FlagLaundry$Parser", "fail", "(I)V"⟩, prog_5_method_4_code, 2, none, 1, 1, 0, 0, []),
  (3, ⟨"FlagLaundry$Parser", "isLetterAt", "(I)Z"⟩, prog_5_method_5_code, 2, some FieldType.boolean, 1, 1, 0, 0, []),
  (3, ⟨"FlagLaundry$Parser", "isDigitAt", "(I)Z"⟩, prog_5_method_6_code, 2, some FieldType.boolean, 1, 1, 0, 0, []),
  (3, ⟨"FlagLaundry$Parser", "skipBlanks", "()V"⟩, prog_5_method_7_code, 1, none, 0, 1, 0, 0, []),
  (3, ⟨"FlagLaundry$Parser", "next", "()V"⟩, prog_5_method_8_code, 2, none, 0, 1, 1, 21, []),
  (3, ⟨"FlagLaundry$Parser", "isWord", "(Ljava/lang/String;)Z"⟩, prog_5_method_9_code, 3, some FieldType.boolean, 1, 1, 4, 110, []),
  (3, ⟨"FlagLaundry$Parser", "numberFollows", "()Z"⟩, prog_5_method_10_code, 1, some FieldType.boolean, 0, 1, 1, 21, []),
  (3, ⟨"FlagLaundry$Parser", "number", "(II)I"⟩, prog_5_method_11_code, 3, some FieldType.int, 2, 1, 2, 42, []),
  (3, ⟨"FlagLaundry$Parser", "readFirstLine", "()V"⟩, prog_5_method_12_code, 2, none, 0, 1, 5, 132, []),
  (3, ⟨"FlagLaundry$Parser", "readEnd", "()V"⟩, prog_5_method_13_code, 2, none, 0, 1, 1, 21, []),
  (3, ⟨"FlagLaundry$Parser", "readLine", "()V"⟩, prog_5_method_14_code, 1, none, 0, 1, 5, 132, []),
  (3, ⟨"FlagLaundry$Parser", "needPlaceFor", "(II)V"⟩, prog_5_method_15_code, 3, none, 2, 1, 1, 21, []),
  (3, ⟨"FlagLaundry$Parser", "readColour", "()V"⟩, prog_5_method_16_code, 2, none, 0, 1, 3, 64, []),
  (3, ⟨"FlagLaundry$Parser", "readNation", "()V"⟩, prog_5_method_17_code, 4, none, 0, 1, 3, 64, []),
  (3, ⟨"FlagLaundry$Parser", "readTub", "()V"⟩, prog_5_method_18_code, 2, none, 0, 1, 3, 64, [])]
def ev_ms_5 : List ev_ME := [(3, ⟨"FlagLaundry$Parser", "readFlag", "()V"⟩, prog_5_method_19_code, 7, none, 0, 1, 3, 71, []),
  (3, ⟨"FlagLaundry$Parser", "readPut", "()V"⟩, prog_5_method_20_code, 3, none, 0, 1, 3, 64, []),
  (3, ⟨"FlagLaundry$Parser", "readWash", "()V"⟩, prog_5_method_21_code, 3, none, 0, 1, 4, 89, []),
  (3, ⟨"FlagLaundry$Parser", "readHang", "()V"⟩, prog_5_method_22_code, 2, none, 0, 1, 3, 66, []),
  (3, ⟨"FlagLaundry$Parser", "readWind", "()V"⟩, prog_5_method_23_code, 2, none, 0, 1, 3, 64, []),
  (3, ⟨"FlagLaundry$Parser", "readPass", "()V"⟩, prog_5_method_24_code, 2, none, 0, 1, 4, 86, []),
  (4, ⟨"FlagLaundry$Setup", "<init>", "()V"⟩, prog_6_method_1_code, 1, none, 0, 2, 1, 21, []),
  (4, ⟨"FlagLaundry$Setup", "clear", "()V"⟩, prog_6_method_2_code, 1, none, 0, 1, 0, 0, []),
  (4, ⟨"FlagLaundry$Setup", "bringColour", "(I)V"⟩, prog_6_method_3_code, 2, none, 1, 1, 0, 0, []),
  (4, ⟨"FlagLaundry$Setup", "bringNation", "(III)V"⟩, prog_6_method_4_code, 4, none, 3, 1, 0, 0, []),
  (4, ⟨"FlagLaundry$Setup", "bringTub", "(I)V"⟩, prog_6_method_5_code, 2, none, 1, 1, 0, 0, []),
  (4, ⟨"FlagLaundry$Setup", "allColours", "()I"⟩, prog_6_method_6_code, 1, some FieldType.int, 0, 1, 0, 0, []),
  (4, ⟨"FlagLaundry$Setup", "runningWith", "(I)I"⟩, prog_6_method_7_code, 4, some FieldType.int, 1, 1, 0, 0, []),
  (5, ⟨"FlagLaundry$State", "<init>", "()V"⟩, prog_7_method_1_code, 2, none, 0, 2, 2, 41, []),
  (5, ⟨"FlagLaundry$State", "clear", "()V"⟩, prog_7_method_2_code, 1, none, 0, 1, 1, 23, []),
  (5, ⟨"FlagLaundry$State", "become", "(LFlagLaundry$State;)V"⟩, prog_7_method_3_code, 3, none, 1, 1, 1, 40, [])]
def ev_ms_6 : List ev_ME := [(5, ⟨"FlagLaundry$State", "bringFlag", "(IIII)I"⟩, prog_7_method_4_code, 6, some FieldType.int, 4, 1, 2, 46, []),
  (5, ⟨"FlagLaundry$State", "flagInTub", "(II)I"⟩, prog_7_method_5_code, 3, some FieldType.int, 2, 1, 0, 0, []),
  (5, ⟨"FlagLaundry$State", "flagObjectInTub", "(II)LFlagLaundry$Flag;"⟩, prog_7_method_6_code, 3, some (FieldType.object "FlagLaundry$Flag"), 2, 1, 0, 0, []),
  (5, ⟨"FlagLaundry$State", "wasHandedOver", "(I)Z"⟩, prog_7_method_7_code, 2, some FieldType.boolean, 1, 1, 0, 0, []),
  (5, ⟨"FlagLaundry$State", "flagsAt", "(I)I"⟩, prog_7_method_8_code, 4, some FieldType.int, 1, 1, 0, 0, []),
  (5, ⟨"FlagLaundry$State", "readyFlags", "()I"⟩, prog_7_method_9_code, 3, some FieldType.int, 0, 1, 2, 40, []),
  (5, ⟨"FlagLaundry$State", "flagsOf", "(I)I"⟩, prog_7_method_10_code, 4, some FieldType.int, 1, 1, 0, 0, []),
  (5, ⟨"FlagLaundry$State", "readyFlagsOf", "(I)I"⟩, prog_7_method_11_code, 4, some FieldType.int, 1, 1, 2, 40, []),
  (5, ⟨"FlagLaundry$State", "firstNotReady", "(I)I"⟩, prog_7_method_12_code, 3, some FieldType.int, 1, 1, 2, 40, []),
  (5, ⟨"FlagLaundry$State", "flagsWithColour", "(I)I"⟩, prog_7_method_13_code, 4, some FieldType.int, 1, 1, 0, 0, []),
  (5, ⟨"FlagLaundry$State", "flagsStainedBy", "(I)I"⟩, prog_7_method_14_code, 4, some FieldType.int, 1, 1, 0, 0, []),
  (5, ⟨"FlagLaundry$State", "dirtOfAll", "()I"⟩, prog_7_method_15_code, 3, some FieldType.int, 0, 1, 0, 0, []),
  (5, ⟨"FlagLaundry$State", "wettestOnLine", "()I"⟩, prog_7_method_16_code, 4, some FieldType.int, 0, 1, 0, 0, []),
  (5, ⟨"FlagLaundry$State", "moveToTub", "(II)I"⟩, prog_7_method_17_code, 3, some FieldType.int, 2, 1, 1, 22, []),
  (5, ⟨"FlagLaundry$State", "moveToPeg", "(II)V"⟩, prog_7_method_18_code, 3, none, 2, 1, 1, 22, []),
  (5, ⟨"FlagLaundry$State", "moveToBasket", "(I)V"⟩, prog_7_method_19_code, 3, none, 1, 1, 1, 25, [])]
def ev_ms_7 : List ev_ME := [(5, ⟨"FlagLaundry$State", "dropFromTub", "(II)V"⟩, prog_7_method_20_code, 6, none, 2, 1, 0, 0, []),
  (5, ⟨"FlagLaundry$State", "emptyTub", "(I)I"⟩, prog_7_method_21_code, 4, some FieldType.int, 1, 1, 1, 22, []),
  (5, ⟨"FlagLaundry$State", "lastPegInUse", "()I"⟩, prog_7_method_22_code, 2, some FieldType.int, 0, 1, 0, 0, []),
  (5, ⟨"FlagLaundry$State", "passHours", "(I)I"⟩, prog_7_method_23_code, 4, some FieldType.int, 1, 1, 3, 63, []),
  (5, ⟨"FlagLaundry$State", "dryOnLine", "(I)V"⟩, prog_7_method_24_code, 3, none, 1, 1, 1, 21, []),
  (5, ⟨"FlagLaundry$State", "dropLastFromLine", "()V"⟩, prog_7_method_25_code, 3, none, 0, 1, 2, 41, []),
  (5, ⟨"FlagLaundry$State", "hoursToDry", "(II)I"⟩, prog_7_method_26_code, 6, some FieldType.int, 2, 1, 1, 23, []),
  (5, ⟨"FlagLaundry$State", "hoursUntilFall", "(I)I"⟩, prog_7_method_27_code, 4, some FieldType.int, 1, 1, 0, 0, []),
  (6, ⟨"FlagLaundry$Text", "<init>", "()V"⟩, prog_8_method_1_code, 1, none, 0, 2, 1, 21, []),
  (6, ⟨"FlagLaundry$Text", "add", "(I)V"⟩, prog_8_method_2_code, 2, none, 1, 1, 0, 0, []),
  (6, ⟨"FlagLaundry$Text", "addNumber", "(I)V"⟩, prog_8_method_3_code, 2, none, 1, 1, 1, 21, []),
  (6, ⟨"FlagLaundry$Text", "addBetween", "(I)V"⟩, prog_8_method_4_code, 2, none, 1, 1, 1, 21, []),
  (6, ⟨"FlagLaundry$Text", "addHyphenIfEmpty", "()V"⟩, prog_8_method_5_code, 1, none, 0, 1, 1, 21, []),
  (6, ⟨"FlagLaundry$Text", "letterOf", "(I)C"⟩, prog_8_method_6_code, 1, some FieldType.char, 1, 0, 0, 0, []),
  (6, ⟨"FlagLaundry$Text", "tellFlag", "(LFlagLaundry$Flag;)V"⟩, prog_8_method_7_code, 3, none, 1, 1, 2, 42, []),
  (6, ⟨"FlagLaundry$Text", "tellTub", "(LFlagLaundry$State;I)V"⟩, prog_8_method_8_code, 4, none, 2, 1, 2, 42, [])]
def ev_ms_8 : List ev_ME := [(6, ⟨"FlagLaundry$Text", "tellNation", "(LFlagLaundry$State;I)V"⟩, prog_8_method_9_code, 4, none, 2, 1, 2, 42, []),
  (6, ⟨"FlagLaundry$Text", "tellLine", "(LFlagLaundry$State;I)V"⟩, prog_8_method_10_code, 4, none, 2, 1, 2, 42, []),
  (7, ⟨"FlagLaundry", "<init>", "()V"⟩, prog_1_method_1_code, 1, none, 0, 2, 4, 83, []),
  (7, ⟨"FlagLaundry", "append", "(IIIII)I"⟩, prog_1_method_2_code, 6, some FieldType.int, 5, 1, 1, 22, []),
  (7, ⟨"FlagLaundry", "load", "(I)I"⟩, prog_1_method_3_code, 3, some FieldType.int, 1, 1, 7, 177, []),
  (7, ⟨"FlagLaundry", "parseError", "()I"⟩, prog_1_method_4_code, 1, some FieldType.int, 0, 1, 0, 0, []),
  (7, ⟨"FlagLaundry", "errorPosition", "()I"⟩, prog_1_method_5_code, 1, some FieldType.int, 0, 1, 0, 0, []),
  (7, ⟨"FlagLaundry", "buffered", "()I"⟩, prog_1_method_6_code, 1, some FieldType.int, 0, 1, 0, 0, []),
  (7, ⟨"FlagLaundry", "count", "(I)I"⟩, prog_1_method_7_code, 4, some FieldType.int, 1, 1, 7, 104, []),
  (7, ⟨"FlagLaundry", "colour", "(II)I"⟩, prog_1_method_8_code, 3, some FieldType.int, 2, 1, 7, 104, []),
  (7, ⟨"FlagLaundry", "nation", "(II)I"⟩, prog_1_method_9_code, 3, some FieldType.int, 2, 1, 8, 123, []),
  (7, ⟨"FlagLaundry", "flag", "(II)I"⟩, prog_1_method_10_code, 4, some FieldType.int, 2, 1, 8, 123, []),
  (7, ⟨"FlagLaundry", "tub", "(II)I"⟩, prog_1_method_11_code, 3, some FieldType.int, 2, 1, 8, 123, []),
  (7, ⟨"FlagLaundry", "inTub", "(II)I"⟩, prog_1_method_12_code, 3, some FieldType.int, 2, 1, 8, 123, []),
  (7, ⟨"FlagLaundry", "onPeg", "(I)I"⟩, prog_1_method_13_code, 2, some FieldType.int, 1, 1, 7, 102, []),
  (7, ⟨"FlagLaundry", "freePegs", "()I"⟩, prog_1_method_14_code, 1, some FieldType.int, 0, 1, 7, 102, [])]
def ev_ms_9 : List ev_ME := [(7, ⟨"FlagLaundry", "wettest", "()I"⟩, prog_1_method_15_code, 1, some FieldType.int, 0, 1, 7, 102, []),
  (7, ⟨"FlagLaundry", "gap", "()I"⟩, prog_1_method_16_code, 1, some FieldType.int, 0, 1, 7, 102, []),
  (7, ⟨"FlagLaundry", "why", "(I)I"⟩, prog_1_method_17_code, 2, some FieldType.int, 1, 1, 8, 123, []),
  (7, ⟨"FlagLaundry", "reasons", "(I)I"⟩, prog_1_method_18_code, 2, some FieldType.int, 1, 1, 8, 123, []),
  (7, ⟨"FlagLaundry", "culprit", "(I)I"⟩, prog_1_method_19_code, 2, some FieldType.int, 1, 1, 8, 123, []),
  (7, ⟨"FlagLaundry", "whyNotPut", "(II)I"⟩, prog_1_method_20_code, 3, some FieldType.int, 2, 1, 8, 123, []),
  (7, ⟨"FlagLaundry", "whyNotWash", "(II)I"⟩, prog_1_method_21_code, 3, some FieldType.int, 2, 1, 8, 124, []),
  (7, ⟨"FlagLaundry", "whyNotIron", "(II)I"⟩, prog_1_method_22_code, 3, some FieldType.int, 2, 1, 8, 124, []),
  (7, ⟨"FlagLaundry", "whyNotBleach", "(I)I"⟩, prog_1_method_23_code, 2, some FieldType.int, 1, 1, 8, 123, []),
  (7, ⟨"FlagLaundry", "running", "(II)I"⟩, prog_1_method_24_code, 3, some FieldType.int, 2, 1, 8, 124, []),
  (7, ⟨"FlagLaundry", "stainedIf", "(II)I"⟩, prog_1_method_25_code, 3, some FieldType.int, 2, 1, 8, 124, []),
  (7, ⟨"FlagLaundry", "dirtIf", "(II)I"⟩, prog_1_method_26_code, 3, some FieldType.int, 2, 1, 8, 124, []),
  (7, ⟨"FlagLaundry", "bestHeat", "(I)I"⟩, prog_1_method_27_code, 2, some FieldType.int, 1, 1, 8, 123, []),
  (7, ⟨"FlagLaundry", "firstSafe", "(II)I"⟩, prog_1_method_28_code, 3, some FieldType.int, 2, 1, 8, 124, []),
  (7, ⟨"FlagLaundry", "doNotMix", "(III)I"⟩, prog_1_method_29_code, 4, some FieldType.int, 3, 1, 8, 124, []),
  (7, ⟨"FlagLaundry", "groups", "(I)I"⟩, prog_1_method_30_code, 2, some FieldType.int, 1, 1, 8, 124, [])]
def ev_ms_10 : List ev_ME := [(7, ⟨"FlagLaundry", "purest", "(I)I"⟩, prog_1_method_31_code, 2, some FieldType.int, 1, 1, 8, 124, []),
  (7, ⟨"FlagLaundry", "washesFor", "(I)I"⟩, prog_1_method_32_code, 2, some FieldType.int, 1, 1, 8, 123, []),
  (7, ⟨"FlagLaundry", "dryIn", "(I)I"⟩, prog_1_method_33_code, 2, some FieldType.int, 1, 1, 8, 123, []),
  (7, ⟨"FlagLaundry", "dryByWind", "(II)I"⟩, prog_1_method_34_code, 3, some FieldType.int, 2, 1, 8, 123, []),
  (7, ⟨"FlagLaundry", "fallsIn", "(I)I"⟩, prog_1_method_35_code, 2, some FieldType.int, 1, 1, 7, 104, []),
  (7, ⟨"FlagLaundry", "payIf", "(II)I"⟩, prog_1_method_36_code, 3, some FieldType.int, 2, 1, 8, 123, []),
  (7, ⟨"FlagLaundry", "latest", "(I)I"⟩, prog_1_method_37_code, 2, some FieldType.int, 1, 1, 8, 123, []),
  (7, ⟨"FlagLaundry", "dearest", "()I"⟩, prog_1_method_38_code, 1, some FieldType.int, 0, 1, 7, 111, []),
  (7, ⟨"FlagLaundry", "ironsFor", "(II)I"⟩, prog_1_method_39_code, 3, some FieldType.int, 2, 1, 8, 124, []),
  (7, ⟨"FlagLaundry", "readyShare", "()F"⟩, prog_1_method_40_code, 2, some FieldType.float, 0, 1, 7, 102, []),
  (7, ⟨"FlagLaundry", "meanDirt", "()D"⟩, prog_1_method_41_code, 2, some FieldType.double, 0, 1, 7, 102, []),
  (7, ⟨"FlagLaundry", "writeFlag", "(I)I"⟩, prog_1_method_42_code, 2, some FieldType.int, 1, 1, 8, 123, []),
  (7, ⟨"FlagLaundry", "writeTub", "(I)I"⟩, prog_1_method_43_code, 2, some FieldType.int, 1, 1, 8, 123, []),
  (7, ⟨"FlagLaundry", "writeNation", "(I)I"⟩, prog_1_method_44_code, 2, some FieldType.int, 1, 1, 8, 123, []),
  (7, ⟨"FlagLaundry", "writeLine", "()I"⟩, prog_1_method_45_code, 1, some FieldType.int, 0, 1, 7, 102, []),
  (7, ⟨"FlagLaundry", "textByte", "(I)I"⟩, prog_1_method_46_code, 2, some FieldType.int, 1, 1, 6, 82, [])]
def ev_ms_11 : List ev_ME := [(7, ⟨"FlagLaundry", "put", "(II)I"⟩, prog_1_method_47_code, 3, some FieldType.int, 2, 1, 8, 123, []),
  (7, ⟨"FlagLaundry", "wash", "(II)I"⟩, prog_1_method_48_code, 3, some FieldType.int, 2, 1, 8, 124, []),
  (7, ⟨"FlagLaundry", "hang", "(I)I"⟩, prog_1_method_49_code, 2, some FieldType.int, 1, 1, 8, 123, []),
  (7, ⟨"FlagLaundry", "hangAll", "()I"⟩, prog_1_method_50_code, 1, some FieldType.int, 0, 1, 7, 102, []),
  (7, ⟨"FlagLaundry", "takeDown", "(I)I"⟩, prog_1_method_51_code, 3, some FieldType.int, 1, 1, 8, 123, []),
  (7, ⟨"FlagLaundry", "clearTub", "(I)I"⟩, prog_1_method_52_code, 2, some FieldType.int, 1, 1, 8, 123, []),
  (7, ⟨"FlagLaundry", "iron", "(II)I"⟩, prog_1_method_53_code, 4, some FieldType.int, 2, 1, 8, 124, []),
  (7, ⟨"FlagLaundry", "bleach", "(I)I"⟩, prog_1_method_54_code, 3, some FieldType.int, 1, 1, 8, 123, []),
  (7, ⟨"FlagLaundry", "handOver", "(I)I"⟩, prog_1_method_55_code, 2, some FieldType.int, 1, 1, 8, 123, []),
  (7, ⟨"FlagLaundry", "pass", "(I)I"⟩, prog_1_method_56_code, 2, some FieldType.int, 1, 1, 7, 104, []),
  (7, ⟨"FlagLaundry", "setWind", "(I)I"⟩, prog_1_method_57_code, 3, some FieldType.int, 1, 1, 7, 104, []),
  (7, ⟨"FlagLaundry", "addFlag", "(IIII)I"⟩, prog_1_method_58_code, 5, some FieldType.int, 4, 1, 8, 123, []),
  (7, ⟨"FlagLaundry", "undo", "()I"⟩, prog_1_method_59_code, 1, some FieldType.int, 0, 1, 6, 83, []),
  (7, ⟨"FlagLaundry", "undoable", "()I"⟩, prog_1_method_60_code, 1, some FieldType.int, 0, 1, 0, 0, []),
  (7, ⟨"FlagLaundry", "save", "(I)I"⟩, prog_1_method_61_code, 2, some FieldType.int, 1, 1, 7, 102, []),
  (7, ⟨"FlagLaundry", "restore", "(I)I"⟩, prog_1_method_62_code, 2, some FieldType.int, 1, 1, 7, 102, [])]
def ev_ms_12 : List ev_ME := [(7, ⟨"FlagLaundry", "needText", "()V"⟩, prog_1_method_63_code, 1, none, 0, 1, 6, 82, []),
  (7, ⟨"FlagLaundry", "needFlag", "(I)V"⟩, prog_1_method_64_code, 2, none, 1, 1, 7, 102, []),
  (7, ⟨"FlagLaundry", "needTub", "(I)V"⟩, prog_1_method_65_code, 2, none, 1, 1, 7, 102, []),
  (7, ⟨"FlagLaundry", "needNation", "(I)V"⟩, prog_1_method_66_code, 2, none, 1, 1, 7, 102, []),
  (7, ⟨"FlagLaundry", "needSlot", "(I)V"⟩, prog_1_method_67_code, 1, none, 1, 0, 6, 82, []),
  (7, ⟨"FlagLaundry", "needHeat", "(I)V"⟩, prog_1_method_68_code, 1, none, 1, 0, 7, 104, []),
  (7, ⟨"FlagLaundry", "needRange", "(III)V"⟩, prog_1_method_69_code, 3, none, 3, 0, 6, 82, []),
  (7, ⟨"FlagLaundry", "needAllowed", "(Z)V"⟩, prog_1_method_70_code, 1, none, 1, 0, 6, 82, []),
  (7, ⟨"FlagLaundry", "store", "(I)V"⟩, prog_1_method_71_code, 3, none, 1, 1, 0, 0, []),
  (8, ⟨"FlagLaundryModel", "<init>", "()V"⟩, prog_10_method_1_code, 1, none, 0, 2, 1, 21, []),
  (8, ⟨"FlagLaundryModel", "thrown", "()I"⟩, prog_10_method_2_code, 1, some FieldType.int, 0, 1, 0, 0, []),
  (8, ⟨"FlagLaundryModel", "in", "(III)Z"⟩, prog_10_method_3_code, 3, some FieldType.boolean, 3, 0, 0, 0, []),
  (8, ⟨"FlagLaundryModel", "one", "(Z)I"⟩, prog_10_method_4_code, 1, some FieldType.int, 1, 0, 0, 0, []),
  (8, ⟨"FlagLaundryModel", "has", "(II)Z"⟩, prog_10_method_5_code, 2, some FieldType.boolean, 2, 0, 0, 0, []),
  (8, ⟨"FlagLaundryModel", "may", "(ZZZ)Z"⟩, prog_10_method_6_code, 4, some FieldType.boolean, 3, 1, 0, 0, []),
  (8, ⟨"FlagLaundryModel", "mayTwo", "(ZZ)Z"⟩, prog_10_method_7_code, 3, some FieldType.boolean, 2, 1, 1, 23, [])]
def ev_ms_13 : List ev_ME := [(8, ⟨"FlagLaundryModel", "mayLook", "()Z"⟩, prog_10_method_8_code, 1, some FieldType.boolean, 0, 1, 1, 23, []),
  (8, ⟨"FlagLaundryModel", "lays", "([II[II)V"⟩, prog_10_method_9_code, 5, none, 4, 0, 0, 0, []),
  (8, ⟨"FlagLaundryModel", "thinks", "()V"⟩, prog_10_method_10_code, 1, none, 0, 1, 1, 24, []),
  (8, ⟨"FlagLaundryModel", "back", "(I)I"⟩, prog_10_method_11_code, 2, some FieldType.int, 1, 1, 1, 24, []),
  (8, ⟨"FlagLaundryModel", "append", "(IIIII)I"⟩, prog_10_method_12_code, 6, some FieldType.int, 5, 1, 1, 22, []),
  (8, ⟨"FlagLaundryModel", "four", "(I)V"⟩, prog_10_method_13_code, 3, none, 1, 1, 0, 0, []),
  (8, ⟨"FlagLaundryModel", "parseError", "()I"⟩, prog_10_method_14_code, 1, some FieldType.int, 0, 1, 0, 0, []),
  (8, ⟨"FlagLaundryModel", "errorPosition", "()I"⟩, prog_10_method_15_code, 1, some FieldType.int, 0, 1, 0, 0, []),
  (8, ⟨"FlagLaundryModel", "buffered", "()I"⟩, prog_10_method_16_code, 1, some FieldType.int, 0, 1, 0, 0, []),
  (8, ⟨"FlagLaundryModel", "isLetter", "(I)Z"⟩, prog_10_method_17_code, 2, some FieldType.boolean, 1, 1, 1, 22, []),
  (8, ⟨"FlagLaundryModel", "isDigit", "(I)Z"⟩, prog_10_method_18_code, 2, some FieldType.boolean, 1, 1, 1, 22, []),
  (8, ⟨"FlagLaundryModel", "goes", "()V"⟩, prog_10_method_19_code, 1, none, 0, 1, 2, 43, []),
  (8, ⟨"FlagLaundryModel", "faults", "(I)V"⟩, prog_10_method_20_code, 2, none, 1, 1, 0, 0, []),
  (8, ⟨"FlagLaundryModel", "is", "(I)Z"⟩, prog_10_method_21_code, 2, some FieldType.boolean, 1, 1, 0, 0, []),
  (8, ⟨"FlagLaundryModel", "isWord", "(Ljava/lang/String;)Z"⟩, prog_10_method_22_code, 3, some FieldType.boolean, 1, 1, 4, 110, []),
  (8, ⟨"FlagLaundryModel", "numberHere", "(II)I"⟩, prog_10_method_23_code, 3, some FieldType.int, 2, 1, 1, 22, [])]
def ev_ms_14 : List ev_ME := [(8, ⟨"FlagLaundryModel", "number", "(II)I"⟩, prog_10_method_24_code, 4, some FieldType.int, 2, 1, 3, 63, []),
  (8, ⟨"FlagLaundryModel", "begins", "(II)V"⟩, prog_10_method_25_code, 3, none, 2, 1, 3, 63, []),
  (8, ⟨"FlagLaundryModel", "readsColour", "()V"⟩, prog_10_method_26_code, 2, none, 0, 1, 4, 86, []),
  (8, ⟨"FlagLaundryModel", "readsNation", "()V"⟩, prog_10_method_27_code, 5, none, 0, 1, 4, 86, []),
  (8, ⟨"FlagLaundryModel", "readsTub", "()V"⟩, prog_10_method_28_code, 2, none, 0, 1, 4, 86, []),
  (8, ⟨"FlagLaundryModel", "colourRead", "(I)I"⟩, prog_10_method_29_code, 3, some FieldType.int, 1, 1, 3, 63, []),
  (8, ⟨"FlagLaundryModel", "readsFlag", "()V"⟩, prog_10_method_30_code, 5, none, 0, 1, 4, 86, []),
  (8, ⟨"FlagLaundryModel", "readsPut", "()V"⟩, prog_10_method_31_code, 3, none, 0, 1, 5, 110, []),
  (8, ⟨"FlagLaundryModel", "readsWash", "()V"⟩, prog_10_method_32_code, 4, none, 0, 1, 6, 141, []),
  (8, ⟨"FlagLaundryModel", "readsHang", "()V"⟩, prog_10_method_33_code, 2, none, 0, 1, 5, 107, []),
  (8, ⟨"FlagLaundryModel", "readsWind", "()V"⟩, prog_10_method_34_code, 2, none, 0, 1, 4, 86, []),
  (8, ⟨"FlagLaundryModel", "readsPass", "()V"⟩, prog_10_method_35_code, 3, none, 0, 1, 6, 127, []),
  (8, ⟨"FlagLaundryModel", "readsThing", "()V"⟩, prog_10_method_36_code, 1, none, 0, 1, 8, 184, []),
  (8, ⟨"FlagLaundryModel", "readsDeed", "()V"⟩, prog_10_method_37_code, 1, none, 0, 1, 7, 164, []),
  (8, ⟨"FlagLaundryModel", "readsText", "()V"⟩, prog_10_method_38_code, 1, none, 0, 1, 9, 204, []),
  (8, ⟨"FlagLaundryModel", "load", "(I)I"⟩, prog_10_method_39_code, 3, some FieldType.int, 1, 1, 10, 224, [])]
def ev_ms_15 : List ev_ME := [(8, ⟨"FlagLaundryModel", "ofNation", "(II)I"⟩, prog_10_method_40_code, 3, some FieldType.int, 2, 1, 0, 0, []),
  (8, ⟨"FlagLaundryModel", "putsNation", "(III)V"⟩, prog_10_method_41_code, 4, none, 3, 1, 0, 0, []),
  (8, ⟨"FlagLaundryModel", "ofFlag", "(II)I"⟩, prog_10_method_42_code, 3, some FieldType.int, 2, 1, 0, 0, []),
  (8, ⟨"FlagLaundryModel", "putsFlag", "(III)V"⟩, prog_10_method_43_code, 4, none, 3, 1, 0, 0, []),
  (8, ⟨"FlagLaundryModel", "where", "(I)I"⟩, prog_10_method_44_code, 2, some FieldType.int, 1, 1, 1, 22, []),
  (8, ⟨"FlagLaundryModel", "isInBasket", "(I)Z"⟩, prog_10_method_45_code, 2, some FieldType.boolean, 1, 1, 2, 43, []),
  (8, ⟨"FlagLaundryModel", "isInTub", "(II)Z"⟩, prog_10_method_46_code, 3, some FieldType.boolean, 2, 1, 2, 43, []),
  (8, ⟨"FlagLaundryModel", "goesTo", "(III)V"⟩, prog_10_method_47_code, 4, none, 3, 1, 1, 23, []),
  (8, ⟨"FlagLaundryModel", "addsFlag", "(IIII)I"⟩, prog_10_method_48_code, 7, some FieldType.int, 4, 1, 2, 46, []),
  (8, ⟨"FlagLaundryModel", "applies", "(II)Z"⟩, prog_10_method_49_code, 3, some FieldType.boolean, 2, 1, 2, 43, []),
  (8, ⟨"FlagLaundryModel", "whyNotReady", "(I)I"⟩, prog_10_method_50_code, 3, some FieldType.int, 1, 1, 3, 65, []),
  (8, ⟨"FlagLaundryModel", "manyIn", "(I)I"⟩, prog_10_method_51_code, 4, some FieldType.int, 1, 1, 3, 65, []),
  (8, ⟨"FlagLaundryModel", "whyPut", "(II)I"⟩, prog_10_method_52_code, 3, some FieldType.int, 2, 1, 4, 88, []),
  (8, ⟨"FlagLaundryModel", "putsInto", "(II)V"⟩, prog_10_method_53_code, 3, none, 2, 1, 2, 46, []),
  (8, ⟨"FlagLaundryModel", "leastCare", "(I)I"⟩, prog_10_method_54_code, 4, some FieldType.int, 1, 1, 3, 65, []),
  (8, ⟨"FlagLaundryModel", "whyWash", "(II)I"⟩, prog_10_method_55_code, 3, some FieldType.int, 2, 1, 4, 88, [])]
def ev_ms_16 : List ev_ME := [(8, ⟨"FlagLaundryModel", "runningOf", "(II)I"⟩, prog_10_method_56_code, 5, some FieldType.int, 2, 1, 1, 21, []),
  (8, ⟨"FlagLaundryModel", "runningFrom", "(II)I"⟩, prog_10_method_57_code, 3, some FieldType.int, 2, 1, 2, 45, []),
  (8, ⟨"FlagLaundryModel", "runningIn", "(II)I"⟩, prog_10_method_58_code, 5, some FieldType.int, 2, 1, 3, 67, []),
  (8, ⟨"FlagLaundryModel", "newStains", "(II)I"⟩, prog_10_method_59_code, 3, some FieldType.int, 2, 1, 1, 22, []),
  (8, ⟨"FlagLaundryModel", "stainedBy", "(II)I"⟩, prog_10_method_60_code, 6, some FieldType.int, 2, 1, 4, 91, []),
  (8, ⟨"FlagLaundryModel", "dirtBehind", "(II)I"⟩, prog_10_method_61_code, 3, some FieldType.int, 2, 1, 1, 22, []),
  (8, ⟨"FlagLaundryModel", "dirtBy", "(II)I"⟩, prog_10_method_62_code, 5, some FieldType.int, 2, 1, 3, 65, []),
  (8, ⟨"FlagLaundryModel", "isWashed", "(III)V"⟩, prog_10_method_63_code, 4, none, 3, 1, 2, 46, []),
  (8, ⟨"FlagLaundryModel", "washes", "(II)I"⟩, prog_10_method_64_code, 6, some FieldType.int, 2, 1, 5, 116, []),
  (8, ⟨"FlagLaundryModel", "flagOn", "(I)I"⟩, prog_10_method_65_code, 3, some FieldType.int, 1, 1, 2, 43, []),
  (8, ⟨"FlagLaundryModel", "freePeg", "()I"⟩, prog_10_method_66_code, 2, some FieldType.int, 0, 1, 3, 65, []),
  (8, ⟨"FlagLaundryModel", "canHang", "(I)Z"⟩, prog_10_method_67_code, 2, some FieldType.boolean, 1, 1, 4, 86, []),
  (8, ⟨"FlagLaundryModel", "hangs", "(I)V"⟩, prog_10_method_68_code, 2, none, 1, 1, 4, 86, []),
  (8, ⟨"FlagLaundryModel", "lastHung", "()I"⟩, prog_10_method_69_code, 2, some FieldType.int, 0, 1, 3, 65, []),
  (8, ⟨"FlagLaundryModel", "dries", "()V"⟩, prog_10_method_70_code, 2, none, 0, 1, 2, 43, []),
  (8, ⟨"FlagLaundryModel", "falls", "()V"⟩, prog_10_method_71_code, 2, none, 0, 1, 4, 86, [])]
def ev_ms_17 : List ev_ME := [(8, ⟨"FlagLaundryModel", "passes", "()V"⟩, prog_10_method_72_code, 1, none, 0, 1, 5, 107, []),
  (8, ⟨"FlagLaundryModel", "whyIron", "(II)I"⟩, prog_10_method_73_code, 3, some FieldType.int, 2, 1, 3, 64, []),
  (8, ⟨"FlagLaundryModel", "irons", "(II)V"⟩, prog_10_method_74_code, 3, none, 2, 1, 1, 23, []),
  (8, ⟨"FlagLaundryModel", "flagsOf", "(I)I"⟩, prog_10_method_75_code, 4, some FieldType.int, 1, 1, 1, 22, []),
  (8, ⟨"FlagLaundryModel", "lateAt", "(II)I"⟩, prog_10_method_76_code, 3, some FieldType.int, 2, 1, 1, 22, []),
  (8, ⟨"FlagLaundryModel", "payAt", "(II)I"⟩, prog_10_method_77_code, 3, some FieldType.int, 2, 1, 2, 45, []),
  (8, ⟨"FlagLaundryModel", "isHanded", "(I)Z"⟩, prog_10_method_78_code, 2, some FieldType.boolean, 1, 1, 1, 22, []),
  (8, ⟨"FlagLaundryModel", "culpritOf", "(I)I"⟩, prog_10_method_79_code, 3, some FieldType.int, 1, 1, 4, 87, []),
  (8, ⟨"FlagLaundryModel", "flagsAt", "(I)I"⟩, prog_10_method_80_code, 4, some FieldType.int, 1, 1, 2, 43, []),
  (8, ⟨"FlagLaundryModel", "readyMany", "()I"⟩, prog_10_method_81_code, 3, some FieldType.int, 0, 1, 4, 87, []),
  (8, ⟨"FlagLaundryModel", "count", "(I)I"⟩, prog_10_method_82_code, 2, some FieldType.int, 1, 1, 5, 109, []),
  (8, ⟨"FlagLaundryModel", "isColour", "(I)Z"⟩, prog_10_method_83_code, 2, some FieldType.boolean, 1, 1, 1, 22, []),
  (8, ⟨"FlagLaundryModel", "isNation", "(I)Z"⟩, prog_10_method_84_code, 2, some FieldType.boolean, 1, 1, 1, 22, []),
  (8, ⟨"FlagLaundryModel", "isFlag", "(I)Z"⟩, prog_10_method_85_code, 2, some FieldType.boolean, 1, 1, 1, 22, []),
  (8, ⟨"FlagLaundryModel", "isTub", "(I)Z"⟩, prog_10_method_86_code, 2, some FieldType.boolean, 1, 1, 1, 22, []),
  (8, ⟨"FlagLaundryModel", "isHeat", "(I)Z"⟩, prog_10_method_87_code, 1, some FieldType.boolean, 1, 0, 1, 22, [])]
def ev_ms_18 : List ev_ME := [(8, ⟨"FlagLaundryModel", "mayFlag", "(I)Z"⟩, prog_10_method_88_code, 2, some FieldType.boolean, 1, 1, 2, 45, []),
  (8, ⟨"FlagLaundryModel", "mayTub", "(I)Z"⟩, prog_10_method_89_code, 2, some FieldType.boolean, 1, 1, 2, 45, []),
  (8, ⟨"FlagLaundryModel", "mayHeat", "(II)Z"⟩, prog_10_method_90_code, 3, some FieldType.boolean, 2, 1, 2, 43, []),
  (8, ⟨"FlagLaundryModel", "flagsWith", "(II)I"⟩, prog_10_method_91_code, 5, some FieldType.int, 2, 1, 1, 22, []),
  (8, ⟨"FlagLaundryModel", "colour", "(II)I"⟩, prog_10_method_92_code, 3, some FieldType.int, 2, 1, 2, 46, []),
  (8, ⟨"FlagLaundryModel", "readyOf", "(I)I"⟩, prog_10_method_93_code, 4, some FieldType.int, 1, 1, 4, 87, []),
  (8, ⟨"FlagLaundryModel", "nation", "(II)I"⟩, prog_10_method_94_code, 3, some FieldType.int, 2, 1, 5, 110, []),
  (8, ⟨"FlagLaundryModel", "flag", "(II)I"⟩, prog_10_method_95_code, 3, some FieldType.int, 2, 1, 2, 43, []),
  (8, ⟨"FlagLaundryModel", "ofTub", "(II)I"⟩, prog_10_method_96_code, 5, some FieldType.int, 2, 1, 3, 65, []),
  (8, ⟨"FlagLaundryModel", "tub", "(II)I"⟩, prog_10_method_97_code, 3, some FieldType.int, 2, 1, 4, 89, []),
  (8, ⟨"FlagLaundryModel", "ahead", "(I)I"⟩, prog_10_method_98_code, 4, some FieldType.int, 1, 1, 3, 65, []),
  (8, ⟨"FlagLaundryModel", "flagIn", "(II)I"⟩, prog_10_method_99_code, 4, some FieldType.int, 2, 1, 4, 88, []),
  (8, ⟨"FlagLaundryModel", "inTub", "(II)I"⟩, prog_10_method_100_code, 3, some FieldType.int, 2, 1, 5, 111, []),
  (8, ⟨"FlagLaundryModel", "onPeg", "(I)I"⟩, prog_10_method_101_code, 2, some FieldType.int, 1, 1, 3, 65, []),
  (8, ⟨"FlagLaundryModel", "freePegs", "()I"⟩, prog_10_method_102_code, 1, some FieldType.int, 0, 1, 3, 66, []),
  (8, ⟨"FlagLaundryModel", "wettest", "()I"⟩, prog_10_method_103_code, 3, some FieldType.int, 0, 1, 2, 43, [])]
def ev_ms_19 : List ev_ME := [(8, ⟨"FlagLaundryModel", "gap", "()I"⟩, prog_10_method_104_code, 4, some FieldType.int, 0, 1, 3, 66, []),
  (8, ⟨"FlagLaundryModel", "why", "(I)I"⟩, prog_10_method_105_code, 2, some FieldType.int, 1, 1, 4, 87, []),
  (8, ⟨"FlagLaundryModel", "reasons", "(I)I"⟩, prog_10_method_106_code, 4, some FieldType.int, 1, 1, 3, 66, []),
  (8, ⟨"FlagLaundryModel", "culprit", "(I)I"⟩, prog_10_method_107_code, 2, some FieldType.int, 1, 1, 5, 109, []),
  (8, ⟨"FlagLaundryModel", "whyNotPut", "(II)I"⟩, prog_10_method_108_code, 3, some FieldType.int, 2, 1, 5, 110, []),
  (8, ⟨"FlagLaundryModel", "whyNotWash", "(II)I"⟩, prog_10_method_109_code, 3, some FieldType.int, 2, 1, 5, 110, []),
  (8, ⟨"FlagLaundryModel", "whyNotIron", "(II)I"⟩, prog_10_method_110_code, 3, some FieldType.int, 2, 1, 4, 86, []),
  (8, ⟨"FlagLaundryModel", "whyBleach", "(I)I"⟩, prog_10_method_111_code, 2, some FieldType.int, 1, 1, 3, 64, []),
  (8, ⟨"FlagLaundryModel", "whyNotBleach", "(I)I"⟩, prog_10_method_112_code, 2, some FieldType.int, 1, 1, 4, 85, []),
  (8, ⟨"FlagLaundryModel", "running", "(II)I"⟩, prog_10_method_113_code, 3, some FieldType.int, 2, 1, 4, 91, []),
  (8, ⟨"FlagLaundryModel", "stainedIf", "(II)I"⟩, prog_10_method_114_code, 3, some FieldType.int, 2, 1, 5, 116, []),
  (8, ⟨"FlagLaundryModel", "dirtIf", "(II)I"⟩, prog_10_method_115_code, 3, some FieldType.int, 2, 1, 4, 89, []),
  (8, ⟨"FlagLaundryModel", "isBetterHeat", "(III)Z"⟩, prog_10_method_116_code, 5, some FieldType.boolean, 3, 1, 5, 116, []),
  (8, ⟨"FlagLaundryModel", "bestHeat", "(I)I"⟩, prog_10_method_117_code, 4, some FieldType.int, 1, 1, 6, 140, []),
  (8, ⟨"FlagLaundryModel", "isSafe", "(III)Z"⟩, prog_10_method_118_code, 4, some FieldType.boolean, 3, 1, 5, 116, []),
  (8, ⟨"FlagLaundryModel", "firstSafe", "(II)I"⟩, prog_10_method_119_code, 4, some FieldType.int, 2, 1, 6, 139, [])]
def ev_ms_20 : List ev_ME := [(8, ⟨"FlagLaundryModel", "mixes", "(III)I"⟩, prog_10_method_120_code, 4, some FieldType.int, 3, 1, 3, 67, []),
  (8, ⟨"FlagLaundryModel", "doNotMix", "(III)I"⟩, prog_10_method_121_code, 4, some FieldType.int, 3, 1, 4, 90, []),
  (8, ⟨"FlagLaundryModel", "canJoin", "(III)Z"⟩, prog_10_method_122_code, 5, some FieldType.boolean, 3, 1, 4, 90, []),
  (8, ⟨"FlagLaundryModel", "groups", "(I)I"⟩, prog_10_method_123_code, 5, some FieldType.int, 1, 1, 5, 114, []),
  (8, ⟨"FlagLaundryModel", "mixedWith", "(II)I"⟩, prog_10_method_124_code, 5, some FieldType.int, 2, 1, 4, 90, []),
  (8, ⟨"FlagLaundryModel", "purest", "(I)I"⟩, prog_10_method_125_code, 4, some FieldType.int, 1, 1, 5, 114, []),
  (8, ⟨"FlagLaundryModel", "washesFor", "(I)I"⟩, prog_10_method_126_code, 3, some FieldType.int, 1, 1, 3, 66, []),
  (8, ⟨"FlagLaundryModel", "driesIn", "(I)I"⟩, prog_10_method_127_code, 3, some FieldType.int, 1, 1, 5, 107, []),
  (8, ⟨"FlagLaundryModel", "dryIn", "(I)I"⟩, prog_10_method_128_code, 2, some FieldType.int, 1, 1, 6, 129, []),
  (8, ⟨"FlagLaundryModel", "isWind", "(I)Z"⟩, prog_10_method_129_code, 1, some FieldType.boolean, 1, 0, 1, 22, []),
  (8, ⟨"FlagLaundryModel", "dryByWind", "(II)I"⟩, prog_10_method_130_code, 3, some FieldType.int, 2, 1, 6, 129, []),
  (8, ⟨"FlagLaundryModel", "fallsIn", "(I)I"⟩, prog_10_method_131_code, 4, some FieldType.int, 1, 1, 6, 127, []),
  (8, ⟨"FlagLaundryModel", "payIn", "(II)I"⟩, prog_10_method_132_code, 3, some FieldType.int, 2, 1, 3, 67, []),
  (8, ⟨"FlagLaundryModel", "payIf", "(II)I"⟩, prog_10_method_133_code, 3, some FieldType.int, 2, 1, 4, 89, []),
  (8, ⟨"FlagLaundryModel", "lastHour", "(I)I"⟩, prog_10_method_134_code, 3, some FieldType.int, 1, 1, 2, 45, []),
  (8, ⟨"FlagLaundryModel", "latest", "(I)I"⟩, prog_10_method_135_code, 2, some FieldType.int, 1, 1, 3, 67, [])]
def ev_ms_21 : List ev_ME := [(8, ⟨"FlagLaundryModel", "dearest", "()I"⟩, prog_10_method_136_code, 5, some FieldType.int, 0, 1, 4, 89, []),
  (8, ⟨"FlagLaundryModel", "ironsUntil", "(II)I"⟩, prog_10_method_137_code, 4, some FieldType.int, 2, 1, 2, 45, []),
  (8, ⟨"FlagLaundryModel", "ironsFor", "(II)I"⟩, prog_10_method_138_code, 3, some FieldType.int, 2, 1, 4, 86, []),
  (8, ⟨"FlagLaundryModel", "readyShare", "()F"⟩, prog_10_method_139_code, 1, some FieldType.float, 0, 1, 5, 109, []),
  (8, ⟨"FlagLaundryModel", "allDirt", "()I"⟩, prog_10_method_140_code, 3, some FieldType.int, 0, 1, 1, 22, []),
  (8, ⟨"FlagLaundryModel", "meanDirt", "()D"⟩, prog_10_method_141_code, 1, some FieldType.double, 0, 1, 2, 44, []),
  (8, ⟨"FlagLaundryModel", "writesByte", "(I)V"⟩, prog_10_method_142_code, 2, none, 1, 1, 0, 0, []),
  (8, ⟨"FlagLaundryModel", "writesNumber", "(I)V"⟩, prog_10_method_143_code, 2, none, 1, 1, 1, 21, []),
  (8, ⟨"FlagLaundryModel", "letterOf", "(I)I"⟩, prog_10_method_144_code, 1, some FieldType.int, 1, 0, 0, 0, []),
  (8, ⟨"FlagLaundryModel", "writeFlag", "(I)I"⟩, prog_10_method_145_code, 3, some FieldType.int, 1, 1, 3, 66, []),
  (8, ⟨"FlagLaundryModel", "writeTub", "(I)I"⟩, prog_10_method_146_code, 4, some FieldType.int, 1, 1, 5, 111, []),
  (8, ⟨"FlagLaundryModel", "writesReason", "(I)V"⟩, prog_10_method_147_code, 2, none, 1, 1, 4, 87, []),
  (8, ⟨"FlagLaundryModel", "writeNation", "(I)I"⟩, prog_10_method_148_code, 3, some FieldType.int, 1, 1, 5, 108, []),
  (8, ⟨"FlagLaundryModel", "writeLine", "()I"⟩, prog_10_method_149_code, 2, some FieldType.int, 0, 1, 3, 65, []),
  (8, ⟨"FlagLaundryModel", "textByte", "(I)I"⟩, prog_10_method_150_code, 2, some FieldType.int, 1, 1, 1, 23, []),
  (8, ⟨"FlagLaundryModel", "remembers", "()V"⟩, prog_10_method_151_code, 2, none, 0, 1, 1, 24, [])]
def ev_ms_22 : List ev_ME := [(8, ⟨"FlagLaundryModel", "put", "(II)I"⟩, prog_10_method_152_code, 4, some FieldType.int, 2, 1, 5, 110, []),
  (8, ⟨"FlagLaundryModel", "wash", "(II)I"⟩, prog_10_method_153_code, 4, some FieldType.int, 2, 1, 6, 141, []),
  (8, ⟨"FlagLaundryModel", "hang", "(I)I"⟩, prog_10_method_154_code, 3, some FieldType.int, 1, 1, 5, 107, []),
  (8, ⟨"FlagLaundryModel", "hangAll", "()I"⟩, prog_10_method_155_code, 3, some FieldType.int, 0, 1, 5, 107, []),
  (8, ⟨"FlagLaundryModel", "clearTub", "(I)I"⟩, prog_10_method_156_code, 4, some FieldType.int, 1, 1, 4, 88, []),
  (8, ⟨"FlagLaundryModel", "takeDown", "(I)I"⟩, prog_10_method_157_code, 3, some FieldType.int, 1, 1, 2, 46, []),
  (8, ⟨"FlagLaundryModel", "iron", "(II)I"⟩, prog_10_method_158_code, 4, some FieldType.int, 2, 1, 4, 86, []),
  (8, ⟨"FlagLaundryModel", "stainsOf", "(I)I"⟩, prog_10_method_159_code, 4, some FieldType.int, 1, 1, 1, 22, []),
  (8, ⟨"FlagLaundryModel", "bleach", "(I)I"⟩, prog_10_method_160_code, 4, some FieldType.int, 1, 1, 4, 85, []),
  (8, ⟨"FlagLaundryModel", "leaves", "(I)V"⟩, prog_10_method_161_code, 3, none, 1, 1, 2, 46, []),
  (8, ⟨"FlagLaundryModel", "handOver", "(I)I"⟩, prog_10_method_162_code, 4, some FieldType.int, 1, 1, 5, 109, []),
  (8, ⟨"FlagLaundryModel", "pass", "(I)I"⟩, prog_10_method_163_code, 4, some FieldType.int, 1, 1, 6, 127, []),
  (8, ⟨"FlagLaundryModel", "setWind", "(I)I"⟩, prog_10_method_164_code, 3, some FieldType.int, 1, 1, 2, 45, []),
  (8, ⟨"FlagLaundryModel", "addFlag", "(IIII)I"⟩, prog_10_method_165_code, 7, some FieldType.int, 4, 1, 3, 72, []),
  (8, ⟨"FlagLaundryModel", "undo", "()I"⟩, prog_10_method_166_code, 1, some FieldType.int, 0, 1, 1, 24, []),
  (8, ⟨"FlagLaundryModel", "undoable", "()I"⟩, prog_10_method_167_code, 1, some FieldType.int, 0, 1, 0, 0, [])]
def ev_ms_23 : List ev_ME := [(8, ⟨"FlagLaundryModel", "isSlot", "(I)Z"⟩, prog_10_method_168_code, 1, some FieldType.boolean, 1, 0, 1, 22, []),
  (8, ⟨"FlagLaundryModel", "save", "(I)I"⟩, prog_10_method_169_code, 2, some FieldType.int, 1, 1, 2, 45, []),
  (8, ⟨"FlagLaundryModel", "restore", "(I)I"⟩, prog_10_method_170_code, 3, some FieldType.int, 1, 1, 2, 45, []),
  (10, ⟨"java/util/Arrays", "fill", "([II)V"⟩, prog_23_method_103_code, 4, none, 2, 0, 0, 0, []),
  (11, ⟨"java/lang/Integer", "bitCount", "(I)I"⟩, prog_15_method_49_code, 1, some FieldType.int, 1, 0, 0, 0, []),
  (9, ⟨"FlagLaundryLaw", "load", "(LFlagLaundry;I[J)I"⟩, method_3_code, 4, some FieldType.int, 3, 0, 8, 199, [(0, 9, 12, 13), (0, 9, 15, 15)]),
  (9, ⟨"FlagLaundryLaw", "count", "(LFlagLaundry;I[J)I"⟩, method_4_code, 4, some FieldType.int, 3, 0, 8, 127, [(0, 9, 12, 20), (0, 9, 15, 15)]),
  (9, ⟨"FlagLaundryLaw", "colour", "(LFlagLaundry;II[J)I"⟩, method_5_code, 5, some FieldType.int, 4, 0, 8, 126, [(0, 10, 13, 20), (0, 10, 17, 13), (0, 10, 21, 15)]),
  (9, ⟨"FlagLaundryLaw", "nation", "(LFlagLaundry;II[J)I"⟩, method_6_code, 5, some FieldType.int, 4, 0, 9, 145, [(0, 10, 13, 20), (0, 10, 17, 13), (0, 10, 21, 15)]),
  (9, ⟨"FlagLaundryLaw", "flag", "(LFlagLaundry;II[J)I"⟩, method_7_code, 5, some FieldType.int, 4, 0, 9, 146, [(0, 10, 13, 20), (0, 10, 17, 13), (0, 10, 21, 15)]),
  (9, ⟨"FlagLaundryLaw", "tub", "(LFlagLaundry;II[J)I"⟩, method_8_code, 5, some FieldType.int, 4, 0, 9, 145, [(0, 10, 13, 20), (0, 10, 17, 13), (0, 10, 21, 15)]),
  (9, ⟨"FlagLaundryLaw", "inTub", "(LFlagLaundry;II[J)I"⟩, method_9_code, 5, some FieldType.int, 4, 0, 9, 145, [(0, 10, 13, 20), (0, 10, 17, 13)]),
  (9, ⟨"FlagLaundryLaw", "onPeg", "(LFlagLaundry;I[J)I"⟩, method_10_code, 4, some FieldType.int, 3, 0, 8, 123, [(0, 9, 12, 20), (0, 9, 15, 13)]),
  (9, ⟨"FlagLaundryLaw", "freePegs", "(LFlagLaundry;[J)I"⟩, method_11_code, 3, some FieldType.int, 2, 0, 8, 122, [(0, 8, 11, 20)]),
  (9, ⟨"FlagLaundryLaw", "wettest", "(LFlagLaundry;[J)I"⟩, method_12_code, 3, some FieldType.int, 2, 0, 8, 122, [(0, 8, 11, 20)]),
  (9, ⟨"FlagLaundryLaw", "gap", "(LFlagLaundry;[J)I"⟩, method_13_code, 3, some FieldType.int, 2, 0, 8, 122, [(0, 8, 11, 20)])]
def ev_ms_24 : List ev_ME := [(9, ⟨"FlagLaundryLaw", "why", "(LFlagLaundry;I[J)I"⟩, method_14_code, 4, some FieldType.int, 3, 0, 9, 144, [(0, 9, 12, 20), (0, 9, 15, 13)]),
  (9, ⟨"FlagLaundryLaw", "reasons", "(LFlagLaundry;I[J)I"⟩, method_15_code, 4, some FieldType.int, 3, 0, 9, 144, [(0, 9, 12, 20), (0, 9, 15, 13)]),
  (9, ⟨"FlagLaundryLaw", "culprit", "(LFlagLaundry;I[J)I"⟩, method_16_code, 4, some FieldType.int, 3, 0, 9, 144, [(0, 9, 12, 20), (0, 9, 15, 13)]),
  (9, ⟨"FlagLaundryLaw", "whyNotPut", "(LFlagLaundry;II[J)I"⟩, method_17_code, 5, some FieldType.int, 4, 0, 9, 145, [(0, 10, 13, 20), (0, 10, 17, 13)]),
  (9, ⟨"FlagLaundryLaw", "whyNotWash", "(LFlagLaundry;II[J)I"⟩, method_18_code, 5, some FieldType.int, 4, 0, 9, 146, [(0, 10, 13, 20), (0, 10, 17, 13), (0, 10, 21, 15)]),
  (9, ⟨"FlagLaundryLaw", "whyNotIron", "(LFlagLaundry;II[J)I"⟩, method_19_code, 5, some FieldType.int, 4, 0, 9, 146, [(0, 10, 13, 20), (0, 10, 17, 13), (0, 10, 21, 15)]),
  (9, ⟨"FlagLaundryLaw", "whyNotBleach", "(LFlagLaundry;I[J)I"⟩, method_20_code, 4, some FieldType.int, 3, 0, 9, 144, [(0, 9, 12, 20), (0, 9, 15, 13)]),
  (9, ⟨"FlagLaundryLaw", "running", "(LFlagLaundry;II[J)I"⟩, method_21_code, 5, some FieldType.int, 4, 0, 9, 146, [(0, 10, 13, 20), (0, 10, 17, 13), (0, 10, 21, 15)]),
  (9, ⟨"FlagLaundryLaw", "stainedIf", "(LFlagLaundry;II[J)I"⟩, method_22_code, 5, some FieldType.int, 4, 0, 9, 146, [(0, 10, 13, 20), (0, 10, 17, 13), (0, 10, 21, 15)]),
  (9, ⟨"FlagLaundryLaw", "dirtIf", "(LFlagLaundry;II[J)I"⟩, method_23_code, 5, some FieldType.int, 4, 0, 9, 146, [(0, 10, 13, 20), (0, 10, 17, 13), (0, 10, 21, 15)]),
  (9, ⟨"FlagLaundryLaw", "bestHeat", "(LFlagLaundry;I[J)I"⟩, method_24_code, 4, some FieldType.int, 3, 0, 9, 144, [(0, 9, 12, 20), (0, 9, 15, 13)]),
  (9, ⟨"FlagLaundryLaw", "firstSafe", "(LFlagLaundry;II[J)I"⟩, method_25_code, 5, some FieldType.int, 4, 0, 9, 146, [(0, 10, 13, 20), (0, 10, 17, 13), (0, 10, 21, 15)]),
  (9, ⟨"FlagLaundryLaw", "doNotMix", "(LFlagLaundry;III[J)I"⟩, method_26_code, 6, some FieldType.int, 5, 0, 9, 147, [(0, 12, 15, 20), (0, 12, 19, 13), (0, 12, 23, 15)]),
  (9, ⟨"FlagLaundryLaw", "groups", "(LFlagLaundry;I[J)I"⟩, method_27_code, 4, some FieldType.int, 3, 0, 9, 145, [(0, 9, 12, 20), (0, 9, 15, 15)]),
  (9, ⟨"FlagLaundryLaw", "purest", "(LFlagLaundry;I[J)I"⟩, method_28_code, 4, some FieldType.int, 3, 0, 9, 145, [(0, 9, 12, 20), (0, 9, 15, 15)]),
  (9, ⟨"FlagLaundryLaw", "washesFor", "(LFlagLaundry;I[J)I"⟩, method_29_code, 4, some FieldType.int, 3, 0, 9, 144, [(0, 9, 12, 20), (0, 9, 15, 13)])]
def ev_ms_25 : List ev_ME := [(9, ⟨"FlagLaundryLaw", "dryIn", "(LFlagLaundry;I[J)I"⟩, method_30_code, 4, some FieldType.int, 3, 0, 9, 144, [(0, 9, 12, 20), (0, 9, 15, 13)]),
  (9, ⟨"FlagLaundryLaw", "dryByWind", "(LFlagLaundry;II[J)I"⟩, method_31_code, 5, some FieldType.int, 4, 0, 9, 145, [(0, 10, 13, 20), (0, 10, 17, 13), (0, 10, 21, 15)]),
  (9, ⟨"FlagLaundryLaw", "fallsIn", "(LFlagLaundry;I[J)I"⟩, method_32_code, 4, some FieldType.int, 3, 0, 8, 125, [(0, 9, 12, 20), (0, 9, 15, 15)]),
  (9, ⟨"FlagLaundryLaw", "payIf", "(LFlagLaundry;II[J)I"⟩, method_33_code, 5, some FieldType.int, 4, 0, 9, 145, [(0, 10, 13, 20), (0, 10, 17, 13), (0, 10, 21, 15)]),
  (9, ⟨"FlagLaundryLaw", "latest", "(LFlagLaundry;I[J)I"⟩, method_34_code, 4, some FieldType.int, 3, 0, 9, 144, [(0, 9, 12, 20), (0, 9, 15, 13)]),
  (9, ⟨"FlagLaundryLaw", "dearest", "(LFlagLaundry;[J)I"⟩, method_35_code, 3, some FieldType.int, 2, 0, 8, 131, [(0, 8, 11, 20)]),
  (9, ⟨"FlagLaundryLaw", "ironsFor", "(LFlagLaundry;II[J)I"⟩, method_36_code, 5, some FieldType.int, 4, 0, 9, 146, [(0, 10, 13, 20), (0, 10, 17, 13), (0, 10, 21, 15)]),
  (9, ⟨"FlagLaundryLaw", "readyShare", "(LFlagLaundry;[D)I"⟩, method_37_code, 3, some FieldType.int, 2, 0, 8, 123, [(0, 8, 11, 20)]),
  (9, ⟨"FlagLaundryLaw", "meanDirt", "(LFlagLaundry;[D)I"⟩, method_38_code, 3, some FieldType.int, 2, 0, 8, 123, [(0, 7, 10, 20)]),
  (9, ⟨"FlagLaundryLaw", "writeFlag", "(LFlagLaundry;I[J)I"⟩, method_39_code, 4, some FieldType.int, 3, 0, 9, 144, [(0, 9, 12, 20), (0, 9, 15, 13)]),
  (9, ⟨"FlagLaundryLaw", "writeTub", "(LFlagLaundry;I[J)I"⟩, method_40_code, 4, some FieldType.int, 3, 0, 9, 144, [(0, 9, 12, 20), (0, 9, 15, 13)]),
  (9, ⟨"FlagLaundryLaw", "writeNation", "(LFlagLaundry;I[J)I"⟩, method_41_code, 4, some FieldType.int, 3, 0, 9, 144, [(0, 9, 12, 20), (0, 9, 15, 13)]),
  (9, ⟨"FlagLaundryLaw", "writeLine", "(LFlagLaundry;[J)I"⟩, method_42_code, 3, some FieldType.int, 2, 0, 8, 122, [(0, 8, 11, 20)]),
  (9, ⟨"FlagLaundryLaw", "textByte", "(LFlagLaundry;I[J)I"⟩, method_43_code, 4, some FieldType.int, 3, 0, 7, 103, [(0, 9, 12, 13)]),
  (9, ⟨"FlagLaundryLaw", "put", "(LFlagLaundry;II[J)I"⟩, method_44_code, 5, some FieldType.int, 4, 0, 9, 145, [(0, 10, 13, 20), (0, 10, 17, 13), (0, 10, 21, 15)]),
  (9, ⟨"FlagLaundryLaw", "wash", "(LFlagLaundry;II[J)I"⟩, method_45_code, 5, some FieldType.int, 4, 0, 9, 146, [(0, 10, 13, 20), (0, 10, 17, 13), (0, 10, 21, 15)])]
def ev_ms_26 : List ev_ME := [(9, ⟨"FlagLaundryLaw", "hang", "(LFlagLaundry;I[J)I"⟩, method_46_code, 4, some FieldType.int, 3, 0, 9, 144, [(0, 9, 12, 20), (0, 9, 15, 13), (0, 9, 18, 15)]),
  (9, ⟨"FlagLaundryLaw", "hangAll", "(LFlagLaundry;[J)I"⟩, method_47_code, 3, some FieldType.int, 2, 0, 8, 122, [(0, 8, 11, 20)]),
  (9, ⟨"FlagLaundryLaw", "takeDown", "(LFlagLaundry;I[J)I"⟩, method_48_code, 4, some FieldType.int, 3, 0, 9, 145, [(0, 9, 12, 20), (0, 9, 15, 13), (0, 9, 18, 15)]),
  (9, ⟨"FlagLaundryLaw", "clearTub", "(LFlagLaundry;I[J)I"⟩, method_49_code, 4, some FieldType.int, 3, 0, 9, 144, [(0, 9, 12, 20), (0, 9, 15, 13)]),
  (9, ⟨"FlagLaundryLaw", "iron", "(LFlagLaundry;II[J)I"⟩, method_50_code, 5, some FieldType.int, 4, 0, 9, 147, [(0, 10, 13, 20), (0, 10, 17, 13), (0, 10, 21, 15)]),
  (9, ⟨"FlagLaundryLaw", "bleach", "(LFlagLaundry;I[J)I"⟩, method_51_code, 4, some FieldType.int, 3, 0, 9, 145, [(0, 9, 12, 20), (0, 9, 15, 13), (0, 9, 18, 15)]),
  (9, ⟨"FlagLaundryLaw", "handOver", "(LFlagLaundry;I[J)I"⟩, method_52_code, 4, some FieldType.int, 3, 0, 9, 144, [(0, 9, 12, 20), (0, 9, 15, 13), (0, 9, 18, 15)]),
  (9, ⟨"FlagLaundryLaw", "pass", "(LFlagLaundry;I[J)I"⟩, method_53_code, 4, some FieldType.int, 3, 0, 8, 125, [(0, 9, 12, 20), (0, 9, 15, 15)]),
  (9, ⟨"FlagLaundryLaw", "setWind", "(LFlagLaundry;I[J)I"⟩, method_54_code, 4, some FieldType.int, 3, 0, 8, 126, [(0, 9, 12, 20), (0, 9, 15, 15)]),
  (9, ⟨"FlagLaundryLaw", "addFlag", "(LFlagLaundry;IIII[J)I"⟩, method_55_code, 7, some FieldType.int, 6, 0, 9, 147, [(0, 14, 17, 20), (0, 14, 21, 13), (0, 14, 25, 15)]),
  (9, ⟨"FlagLaundryLaw", "undo", "(LFlagLaundry;[J)I"⟩, method_56_code, 3, some FieldType.int, 2, 0, 7, 103, [(0, 8, 11, 20)]),
  (9, ⟨"FlagLaundryLaw", "save", "(LFlagLaundry;I[J)I"⟩, method_57_code, 4, some FieldType.int, 3, 0, 8, 123, [(0, 9, 12, 20), (0, 9, 15, 13)]),
  (9, ⟨"FlagLaundryLaw", "restore", "(LFlagLaundry;I[J)I"⟩, method_58_code, 4, some FieldType.int, 3, 0, 8, 123, [(0, 9, 12, 13), (0, 9, 15, 20)])]
def ev_mss : List (Nat × List ev_ME) := [(0, ev_ms_0), (1, ev_ms_1), (2, ev_ms_2), (3, ev_ms_3), (4, ev_ms_4), (5, ev_ms_5), (6, ev_ms_6), (7, ev_ms_7), (8, ev_ms_8), (9, ev_ms_9), (10, ev_ms_10), (11, ev_ms_11), (12, ev_ms_12), (13, ev_ms_13), (14, ev_ms_14), (15, ev_ms_15), (16, ev_ms_16), (17, ev_ms_17), (18, ev_ms_18), (19, ev_ms_19), (20, ev_ms_20), (21, ev_ms_21), (22, ev_ms_22), (23, ev_ms_23), (24, ev_ms_24), (25, ev_ms_25), (26, ev_ms_26)]
set_option maxRecDepth 100000 in
theorem ev_msw_0 : GoodIn lw_tbl (ev_ms_0.flatMap ev_mw) := goodIn_c _ [(1, 104), (1, 5), (1, 103), (3, 131), (1, 5), (3, 129), (3, 130), (6, 146), (1, 5), (6, 144), (6, 145), (3, 135), (1, 5), (3, 133), (3, 134), (4, 97), (1, 5), (4, 95), (4, 96), (5, 3), (1, 5), (5, 1), (5, 2), (4, 93), (1, 5), (4, 91), (4, 92), (5, 56), (1, 5), (5, 54), (5, 55), (5, 52), (1, 5), (5, 50), (5, 51), (5, 67), (1, 5), (5, 65), (5, 66), (3, 179), (1, 5), (3, 177), (3, 178), (3, 191), (1, 5), (3, 189), (3, 190), (3, 200), (1, 5), (3, 198), (3, 199), (3, 195), (1, 5), (3, 193), (3, 194), (4, 21), (1, 5), (4, 19), (4, 20), (6, 29), (1, 5), (6, 28)] (by decide +kernel) (by decide +kernel)
set_option maxRecDepth 100000 in
theorem ev_msw_1 : GoodIn lw_tbl (ev_ms_1.flatMap ev_mw) := goodIn_c _ [(6, 32), (1, 5), (6, 31), (6, 214), (1, 5), (6, 212), (6, 213), (6, 225), (1, 5), (6, 223), (6, 224), (5, 185), (1, 5), (5, 183), (5, 184), (6, 25), (1, 5), (6, 23), (6, 24), (2, 43), (1, 7), (2, 42), (4, 49), (1, 7), (4, 47), (4, 48), (4, 45), (1, 7), (4, 43), (4, 44), (6, 138), (1, 7), (6, 136), (6, 137), (7, 47), (1, 7), (7, 45), (7, 46), (7, 62), (1, 7), (7, 60), (7, 61), (7, 74), (1, 7), (7, 72), (7, 73), (1, 36), (1, 2), (1, 35), (2, 223), (1, 2), (2, 221), (2, 222), (3, 162), (1, 2), (3, 160), (3, 161), (4, 176), (1, 2), (4, 174), (4, 175)] (by decide +kernel) (by decide +kernel)
set_option maxRecDepth 100000 in
theorem ev_msw_2 : GoodIn lw_tbl (ev_ms_2.flatMap ev_mw) := goodIn_c _ [(4, 180), (1, 2), (4, 178), (4, 179), (3, 175), (1, 2), (3, 173), (3, 174), (5, 78), (1, 2), (5, 76), (5, 77), (3, 187), (1, 2), (3, 185), (3, 186), (5, 97), (1, 2), (5, 95), (5, 96), (3, 144), (1, 2), (3, 142), (3, 143), (3, 158), (1, 2), (3, 156), (3, 157), (3, 171), (1, 2), (3, 169), (3, 170), (5, 109), (1, 2), (5, 107), (5, 108), (5, 122), (1, 2), (5, 120), (5, 121), (5, 127), (1, 2), (5, 125), (5, 126), (5, 139), (1, 2), (5, 137), (5, 138), (5, 150), (1, 2), (5, 148), (5, 149), (5, 154), (1, 2), (5, 153), (0, 28), (5, 158), (1, 2), (5, 157), (0, 29), (5, 170), (1, 2), (5, 168), (5, 169)] (by decide +kernel) (by decide +kernel)
set_option maxRecDepth 100000 in
theorem ev_msw_3 : GoodIn lw_tbl (ev_ms_3.flatMap ev_mw) := goodIn_c _ [(5, 174), (1, 2), (5, 173), (0, 30), (3, 222), (1, 2), (3, 220), (3, 221), (3, 218), (1, 2), (3, 216), (3, 217), (3, 226), (1, 2), (3, 224), (3, 225), (6, 178), (1, 2), (6, 176), (6, 177), (4, 146), (1, 2), (4, 144), (4, 145), (4, 141), (1, 2), (4, 139), (4, 140), (5, 230), (1, 2), (5, 228), (5, 229), (5, 226), (1, 2), (5, 224), (5, 225), (6, 2), (1, 2), (6, 0), (6, 1), (6, 13), (1, 2), (6, 11), (6, 12), (7, 2), (1, 2), (7, 0), (7, 1), (7, 7), (1, 2), (7, 5), (7, 6), (4, 228), (1, 2), (4, 226), (4, 227), (2, 7), (1, 6), (2, 6), (2, 216), (1, 6), (2, 214), (2, 215)] (by decide +kernel) (by decide +kernel)
set_option maxRecDepth 100000 in
theorem ev_msw_4 : GoodIn lw_tbl (ev_ms_4.flatMap ev_mw) := goodIn_c _ [(3, 6), (1, 6), (3, 5), (0, 4), (3, 22), (1, 6), (3, 21), (0, 8), (3, 14), (1, 6), (3, 13), (0, 6), (3, 18), (1, 6), (3, 17), (0, 7), (3, 10), (1, 6), (3, 9), (0, 5), (3, 2), (1, 6), (3, 1), (0, 3), (3, 27), (1, 6), (3, 26), (0, 9), (3, 123), (1, 6), (3, 122), (0, 17), (3, 79), (1, 6), (3, 78), (0, 10), (2, 238), (1, 6), (2, 237), (0, 2), (4, 25), (1, 6), (4, 24), (0, 23), (3, 83), (1, 6), (3, 82), (0, 11), (3, 92), (1, 6), (3, 91), (0, 13), (3, 88), (1, 6), (3, 87), (0, 12), (3, 101), (1, 6), (3, 100), (0, 14), (3, 110), (1, 6), (3, 109), (0, 15)] (by decide +kernel) (by decide +kernel)
set_option maxRecDepth 100000 in
theorem ev_msw_5 : GoodIn lw_tbl (ev_ms_5.flatMap ev_mw) := goodIn_c _ [(3, 119), (1, 6), (3, 118), (0, 16), (3, 140), (1, 6), (3, 139), (0, 18), (3, 154), (1, 6), (3, 153), (0, 19), (3, 214), (1, 6), (3, 213), (0, 20), (3, 235), (1, 6), (3, 234), (0, 21), (4, 0), (1, 6), (3, 239), (0, 22), (1, 42), (1, 3), (1, 41), (2, 227), (1, 3), (2, 225), (2, 226), (3, 96), (1, 3), (3, 94), (3, 95), (3, 105), (1, 3), (3, 103), (3, 104), (3, 114), (1, 3), (3, 112), (3, 113), (7, 34), (1, 3), (7, 32), (7, 33), (3, 183), (1, 3), (3, 181), (3, 182), (1, 97), (1, 4), (1, 96), (2, 231), (1, 4), (2, 229), (2, 230), (6, 142), (1, 4), (6, 140), (6, 141)] (by decide +kernel) (by decide +kernel)
set_option maxRecDepth 100000 in
theorem ev_msw_6 : GoodIn lw_tbl (ev_ms_6.flatMap ev_mw) := goodIn_c _ [(3, 127), (1, 4), (3, 125), (3, 126), (4, 191), (1, 4), (4, 189), (4, 190), (3, 166), (1, 4), (3, 164), (3, 165), (4, 137), (1, 4), (4, 135), (4, 136), (4, 85), (1, 4), (4, 83), (4, 84), (4, 89), (1, 4), (4, 87), (4, 88), (4, 129), (1, 4), (4, 127), (4, 128), (4, 133), (1, 4), (4, 131), (4, 132), (5, 22), (1, 4), (5, 20), (5, 21), (4, 109), (1, 4), (4, 107), (4, 108), (4, 113), (1, 4), (4, 111), (4, 112), (6, 50), (1, 4), (6, 48), (6, 49), (4, 217), (1, 4), (4, 215), (4, 216), (3, 148), (1, 4), (3, 146), (3, 147), (3, 230), (1, 4), (3, 228), (3, 229), (6, 191), (1, 4), (6, 189), (6, 190)] (by decide +kernel) (by decide +kernel)
set_option maxRecDepth 100000 in
theorem ev_msw_7 : GoodIn lw_tbl (ev_ms_7.flatMap ev_mw) := goodIn_c _ [(6, 195), (1, 4), (6, 193), (6, 194), (3, 208), (1, 4), (3, 206), (3, 207), (4, 17), (1, 4), (4, 15), (4, 16), (4, 4), (1, 4), (4, 2), (4, 3), (4, 8), (1, 4), (4, 6), (4, 7), (4, 13), (1, 4), (4, 11), (4, 12), (5, 196), (1, 4), (5, 194), (5, 195), (5, 200), (1, 4), (5, 198), (5, 199), (2, 71), (1, 8), (2, 70), (6, 68), (1, 8), (6, 66), (6, 67), (6, 72), (1, 8), (6, 70), (6, 71), (6, 87), (1, 8), (6, 85), (6, 86), (6, 92), (1, 8), (6, 90), (6, 91), (6, 64), (1, 8), (6, 63), (6, 61), (1, 8), (6, 59), (6, 60), (6, 83), (1, 8), (6, 81), (6, 82)] (by decide +kernel) (by decide +kernel)
set_option maxRecDepth 100000 in
theorem ev_msw_8 : GoodIn lw_tbl (ev_ms_8.flatMap ev_mw) := goodIn_c _ [(6, 103), (1, 8), (6, 101), (6, 102), (6, 115), (1, 8), (6, 113), (6, 114), (1, 28), (1, 1), (1, 27), (2, 116), (1, 1), (2, 114), (2, 115), (2, 145), (1, 1), (2, 143), (2, 144), (2, 124), (1, 1), (2, 122), (2, 123), (2, 128), (1, 1), (2, 126), (2, 127), (2, 132), (1, 1), (2, 130), (2, 131), (4, 57), (1, 1), (4, 55), (4, 56), (4, 104), (1, 1), (4, 102), (4, 103), (4, 120), (1, 1), (4, 118), (4, 119), (4, 154), (1, 1), (4, 152), (4, 153), (4, 166), (1, 1), (4, 164), (4, 165), (4, 187), (1, 1), (4, 185), (4, 186), (4, 198), (1, 1), (4, 196), (4, 197), (4, 206), (1, 1), (4, 204), (4, 205)] (by decide +kernel) (by decide +kernel)
set_option maxRecDepth 100000 in
theorem ev_msw_9 : GoodIn lw_tbl (ev_ms_9.flatMap ev_mw) := goodIn_c _ [(4, 213), (1, 1), (4, 211), (4, 212), (4, 224), (1, 1), (4, 222), (4, 223), (4, 239), (1, 1), (4, 237), (4, 238), (5, 10), (1, 1), (5, 8), (5, 9), (5, 18), (1, 1), (5, 16), (5, 17), (5, 29), (1, 1), (5, 27), (5, 28), (5, 37), (1, 1), (5, 35), (5, 36), (5, 48), (1, 1), (5, 46), (5, 47), (5, 63), (1, 1), (5, 61), (5, 62), (5, 74), (1, 1), (5, 72), (5, 73), (5, 85), (1, 1), (5, 83), (5, 84), (5, 93), (1, 1), (5, 91), (5, 92), (5, 105), (1, 1), (5, 103), (5, 104), (5, 118), (1, 1), (5, 116), (5, 117), (5, 135), (1, 1), (5, 133), (5, 134), (5, 146), (1, 1), (5, 144), (5, 145)] (by decide +kernel) (by decide +kernel)
set_option maxRecDepth 100000 in
theorem ev_msw_10 : GoodIn lw_tbl (ev_ms_10.flatMap ev_mw) := goodIn_c _ [(5, 166), (1, 1), (5, 164), (5, 165), (5, 181), (1, 1), (5, 179), (5, 180), (5, 192), (1, 1), (5, 190), (5, 191), (5, 207), (1, 1), (5, 205), (5, 206), (5, 214), (1, 1), (5, 212), (5, 213), (5, 222), (1, 1), (5, 220), (5, 221), (5, 238), (1, 1), (5, 236), (5, 237), (6, 9), (1, 1), (6, 7), (6, 8), (6, 21), (1, 1), (6, 19), (6, 20), (6, 39), (1, 1), (6, 37), (6, 38), (6, 46), (1, 1), (6, 44), (6, 45), (6, 57), (1, 1), (6, 55), (6, 56), (6, 79), (1, 1), (6, 77), (6, 78), (6, 99), (1, 1), (6, 97), (6, 98), (6, 111), (1, 1), (6, 109), (6, 110), (6, 122), (1, 1), (6, 120), (6, 121)] (by decide +kernel) (by decide +kernel)
set_option maxRecDepth 100000 in
theorem ev_msw_11 : GoodIn lw_tbl (ev_ms_11.flatMap ev_mw) := goodIn_c _ [(6, 130), (1, 1), (6, 128), (6, 129), (6, 157), (1, 1), (6, 155), (6, 156), (6, 165), (1, 1), (6, 163), (6, 164), (6, 174), (1, 1), (6, 172), (6, 173), (6, 187), (1, 1), (6, 185), (6, 186), (6, 202), (1, 1), (6, 200), (6, 201), (6, 210), (1, 1), (6, 208), (6, 209), (6, 221), (1, 1), (6, 219), (6, 220), (6, 238), (1, 1), (6, 236), (6, 237), (7, 15), (1, 1), (7, 13), (7, 14), (7, 23), (1, 1), (7, 21), (7, 22), (7, 30), (1, 1), (7, 28), (7, 29), (7, 42), (1, 1), (7, 40), (7, 41), (2, 136), (1, 1), (2, 134), (2, 135), (7, 54), (1, 1), (7, 52), (7, 53), (7, 69), (1, 1), (7, 67), (7, 68)] (by decide +kernel) (by decide +kernel)
set_option maxRecDepth 100000 in
theorem ev_msw_12 : GoodIn lw_tbl (ev_ms_12.flatMap ev_mw) := goodIn_c _ [(4, 61), (1, 1), (4, 60), (0, 24), (4, 158), (1, 1), (4, 157), (0, 26), (4, 170), (1, 1), (4, 169), (0, 27), (4, 124), (1, 1), (4, 123), (0, 25), (7, 57), (1, 1), (7, 56), (5, 40), (1, 1), (5, 39), (4, 80), (1, 1), (4, 79), (6, 133), (1, 1), (6, 132), (2, 120), (1, 1), (2, 119), (0, 0), (7, 79), (1, 9), (7, 78), (7, 145), (1, 9), (7, 143), (7, 144), (7, 172), (1, 9), (7, 171), (8, 69), (1, 9), (8, 68), (8, 21), (1, 9), (8, 20), (7, 176), (1, 9), (7, 175), (0, 32), (8, 179), (1, 9), (8, 178), (0, 86)] (by decide +kernel) (by decide +kernel)
set_option maxRecDepth 100000 in
theorem ev_msw_13 : GoodIn lw_tbl (ev_ms_13.flatMap ev_mw) := goodIn_c _ [(9, 43), (1, 9), (9, 42), (0, 105), (7, 183), (1, 9), (7, 182), (7, 180), (1, 9), (7, 179), (0, 33), (8, 171), (1, 9), (8, 170), (0, 85), (7, 149), (1, 9), (7, 147), (7, 148), (7, 153), (1, 9), (7, 152), (0, 31), (7, 157), (1, 9), (7, 155), (7, 156), (7, 161), (1, 9), (7, 159), (7, 160), (7, 165), (1, 9), (7, 163), (7, 164), (7, 195), (1, 9), (7, 194), (0, 36), (7, 199), (1, 9), (7, 198), (0, 37), (7, 191), (1, 9), (7, 190), (0, 35), (7, 214), (1, 9), (7, 213), (0, 40), (7, 208), (1, 9), (7, 207), (0, 39), (7, 204), (1, 9), (7, 203), (0, 38), (7, 222), (1, 9), (7, 221), (0, 42)] (by decide +kernel) (by decide +kernel)
set_option maxRecDepth 100000 in
theorem ev_msw_14 : GoodIn lw_tbl (ev_ms_14.flatMap ev_mw) := goodIn_c _ [(7, 218), (1, 9), (7, 217), (0, 41), (7, 235), (1, 9), (7, 234), (0, 45), (7, 231), (1, 9), (7, 230), (0, 44), (8, 0), (1, 9), (7, 239), (0, 46), (8, 9), (1, 9), (8, 8), (0, 48), (8, 18), (1, 9), (8, 17), (0, 50), (8, 14), (1, 9), (8, 13), (0, 49), (8, 42), (1, 9), (8, 41), (0, 55), (8, 78), (1, 9), (8, 77), (0, 63), (8, 125), (1, 9), (8, 124), (0, 74), (8, 146), (1, 9), (8, 145), (0, 79), (8, 151), (1, 9), (8, 150), (0, 80), (7, 226), (1, 9), (7, 225), (0, 43), (8, 37), (1, 9), (8, 36), (0, 54), (7, 187), (1, 9), (7, 186), (0, 34), (7, 169), (1, 9), (7, 167), (7, 168)] (by decide +kernel) (by decide +kernel)
set_option maxRecDepth 100000 in
theorem ev_msw_15 : GoodIn lw_tbl (ev_ms_15.flatMap ev_mw) := goodIn_c _ [(8, 227), (1, 9), (8, 226), (0, 96), (8, 4), (1, 9), (8, 3), (0, 47), (8, 58), (1, 9), (8, 57), (0, 59), (8, 29), (1, 9), (8, 28), (0, 52), (8, 54), (1, 9), (8, 53), (0, 58), (8, 50), (1, 9), (8, 49), (0, 57), (8, 66), (1, 9), (8, 65), (0, 61), (8, 33), (1, 9), (8, 32), (0, 53), (8, 25), (1, 9), (8, 24), (0, 51), (8, 191), (1, 9), (8, 190), (0, 89), (8, 187), (1, 9), (8, 186), (0, 88), (8, 62), (1, 9), (8, 61), (0, 60), (8, 46), (1, 9), (8, 45), (0, 56), (8, 73), (1, 9), (8, 72), (0, 62), (8, 86), (1, 9), (8, 85), (0, 65), (8, 82), (1, 9), (8, 81), (0, 64)] (by decide +kernel) (by decide +kernel)
set_option maxRecDepth 100000 in
theorem ev_msw_16 : GoodIn lw_tbl (ev_ms_16.flatMap ev_mw) := goodIn_c _ [(8, 103), (1, 9), (8, 102), (0, 69), (8, 99), (1, 9), (8, 98), (0, 68), (8, 95), (1, 9), (8, 94), (0, 67), (8, 111), (1, 9), (8, 110), (0, 71), (8, 107), (1, 9), (8, 106), (0, 70), (8, 119), (1, 9), (8, 118), (0, 73), (9, 119), (1, 9), (9, 118), (0, 111), (8, 115), (1, 9), (8, 114), (0, 72), (8, 91), (1, 9), (8, 90), (0, 66), (8, 137), (1, 9), (8, 136), (0, 77), (8, 133), (1, 9), (8, 132), (0, 76), (8, 129), (1, 9), (8, 128), (0, 75), (8, 141), (1, 9), (8, 140), (0, 78), (8, 167), (1, 9), (8, 166), (0, 84), (8, 159), (1, 9), (8, 158), (0, 82), (8, 163), (1, 9), (8, 162), (0, 83)] (by decide +kernel) (by decide +kernel)
set_option maxRecDepth 100000 in
theorem ev_msw_17 : GoodIn lw_tbl (ev_ms_17.flatMap ev_mw) := goodIn_c _ [(8, 155), (1, 9), (8, 154), (0, 81), (9, 95), (1, 9), (9, 94), (0, 109), (9, 218), (1, 9), (9, 217), (0, 122), (8, 219), (1, 9), (8, 218), (0, 94), (8, 235), (1, 9), (8, 234), (0, 98), (9, 194), (1, 9), (9, 193), (0, 119), (8, 231), (1, 9), (8, 230), (0, 97), (9, 72), (1, 9), (9, 71), (0, 107), (8, 195), (1, 9), (8, 194), (0, 90), (8, 183), (1, 9), (8, 182), (0, 87), (8, 175), (1, 9), (8, 173), (8, 174), (8, 203), (1, 9), (8, 202), (0, 91), (8, 215), (1, 9), (8, 214), (0, 93), (9, 3), (1, 9), (9, 2), (0, 99), (9, 11), (1, 9), (9, 10), (0, 100), (9, 87), (1, 9), (9, 86)] (by decide +kernel) (by decide +kernel)
set_option maxRecDepth 100000 in
theorem ev_msw_18 : GoodIn lw_tbl (ev_ms_18.flatMap ev_mw) := goodIn_c _ [(9, 60), (1, 9), (9, 59), (0, 106), (9, 23), (1, 9), (9, 22), (0, 102), (9, 84), (1, 9), (9, 83), (0, 108), (8, 207), (1, 9), (8, 206), (0, 92), (8, 199), (1, 9), (8, 197), (8, 198), (8, 223), (1, 9), (8, 222), (0, 95), (8, 211), (1, 9), (8, 209), (8, 210), (8, 239), (1, 9), (8, 237), (8, 238), (9, 15), (1, 9), (9, 14), (0, 101), (9, 7), (1, 9), (9, 5), (9, 6), (9, 31), (1, 9), (9, 30), (0, 104), (9, 27), (1, 9), (9, 26), (0, 103), (9, 19), (1, 9), (9, 17), (9, 18), (9, 35), (1, 9), (9, 33), (9, 34), (9, 39), (1, 9), (9, 37), (9, 38), (9, 47), (1, 9), (9, 45), (9, 46)] (by decide +kernel) (by decide +kernel)
set_option maxRecDepth 100000 in
theorem ev_msw_19 : GoodIn lw_tbl (ev_ms_19.flatMap ev_mw) := goodIn_c _ [(9, 51), (1, 9), (9, 49), (9, 50), (9, 56), (1, 9), (9, 54), (9, 55), (9, 64), (1, 9), (9, 62), (9, 63), (9, 68), (1, 9), (9, 66), (9, 67), (9, 76), (1, 9), (9, 74), (9, 75), (9, 80), (1, 9), (9, 78), (9, 79), (9, 91), (1, 9), (9, 89), (9, 90), (9, 103), (1, 9), (9, 102), (0, 110), (9, 99), (1, 9), (9, 97), (9, 98), (9, 107), (1, 9), (9, 105), (9, 106), (9, 111), (1, 9), (9, 109), (9, 110), (9, 115), (1, 9), (9, 113), (9, 114), (9, 127), (1, 9), (9, 126), (0, 112), (9, 123), (1, 9), (9, 121), (9, 122), (9, 135), (1, 9), (9, 134), (0, 113), (9, 131), (1, 9), (9, 129), (9, 130)] (by decide +kernel) (by decide +kernel)
set_option maxRecDepth 100000 in
theorem ev_msw_20 : GoodIn lw_tbl (ev_ms_20.flatMap ev_mw) := goodIn_c _ [(9, 143), (1, 9), (9, 142), (0, 114), (9, 139), (1, 9), (9, 137), (9, 138), (9, 151), (1, 9), (9, 150), (0, 115), (9, 147), (1, 9), (9, 145), (9, 146), (9, 159), (1, 9), (9, 158), (0, 116), (9, 155), (1, 9), (9, 153), (9, 154), (9, 163), (1, 9), (9, 161), (9, 162), (9, 171), (1, 9), (9, 170), (0, 117), (9, 167), (1, 9), (9, 165), (9, 166), (9, 178), (1, 9), (9, 177), (9, 175), (1, 9), (9, 173), (9, 174), (9, 182), (1, 9), (9, 180), (9, 181), (9, 190), (1, 9), (9, 189), (0, 118), (9, 186), (1, 9), (9, 184), (9, 185), (9, 202), (1, 9), (9, 201), (0, 120), (9, 198), (1, 9), (9, 196), (9, 197)] (by decide +kernel) (by decide +kernel)
set_option maxRecDepth 100000 in
theorem ev_msw_21 : GoodIn lw_tbl (ev_ms_21.flatMap ev_mw) := goodIn_c _ [(9, 206), (1, 9), (9, 204), (9, 205), (9, 214), (1, 9), (9, 213), (0, 121), (9, 210), (1, 9), (9, 208), (9, 209), (9, 222), (1, 9), (9, 220), (9, 221), (9, 230), (1, 9), (9, 229), (0, 123), (9, 226), (1, 9), (9, 224), (9, 225), (10, 1), (1, 9), (10, 0), (0, 124), (10, 5), (1, 9), (10, 4), (0, 125), (9, 237), (1, 9), (9, 236), (9, 234), (1, 9), (9, 232), (9, 233), (10, 9), (1, 9), (10, 7), (10, 8), (10, 17), (1, 9), (10, 16), (0, 126), (10, 13), (1, 9), (10, 11), (10, 12), (10, 21), (1, 9), (10, 19), (10, 20), (10, 25), (1, 9), (10, 23), (10, 24), (10, 33), (1, 9), (10, 32), (0, 127)] (by decide +kernel) (by decide +kernel)
set_option maxRecDepth 100000 in
theorem ev_msw_22 : GoodIn lw_tbl (ev_ms_22.flatMap ev_mw) := goodIn_c _ [(10, 29), (1, 9), (10, 27), (10, 28), (10, 37), (1, 9), (10, 35), (10, 36), (10, 41), (1, 9), (10, 39), (10, 40), (10, 45), (1, 9), (10, 43), (10, 44), (10, 49), (1, 9), (10, 47), (10, 48), (10, 53), (1, 9), (10, 51), (10, 52), (10, 57), (1, 9), (10, 55), (10, 56), (10, 65), (1, 9), (10, 64), (0, 128), (10, 61), (1, 9), (10, 59), (10, 60), (10, 73), (1, 9), (10, 72), (0, 129), (10, 69), (1, 9), (10, 67), (10, 68), (10, 77), (1, 9), (10, 75), (10, 76), (10, 81), (1, 9), (10, 79), (10, 80), (10, 85), (1, 9), (10, 83), (10, 84), (10, 89), (1, 9), (10, 87), (10, 88), (10, 93), (1, 9), (10, 91), (10, 92)] (by decide +kernel) (by decide +kernel)
set_option maxRecDepth 100000 in
theorem ev_msw_23 : GoodIn lw_tbl (ev_ms_23.flatMap ev_mw) := goodIn_c _ [(10, 100), (1, 9), (10, 99), (10, 97), (1, 9), (10, 95), (10, 96), (10, 104), (1, 9), (10, 102), (10, 103), (2, 234), (1, 15), (2, 233), (6, 228), (1, 23), (6, 227), (2, 139), (1, 0), (2, 138), (4, 52), (1, 0), (4, 51), (4, 100), (1, 0), (4, 99), (4, 116), (1, 0), (4, 115), (4, 150), (1, 0), (4, 149), (4, 162), (1, 0), (4, 161), (4, 183), (1, 0), (4, 182), (4, 194), (1, 0), (4, 193), (4, 202), (1, 0), (4, 201), (4, 209), (1, 0), (4, 208), (4, 220), (1, 0), (4, 219)] (by decide +kernel) (by decide +kernel)
set_option maxRecDepth 100000 in
theorem ev_msw_24 : GoodIn lw_tbl (ev_ms_24.flatMap ev_mw) := goodIn_c _ [(4, 235), (1, 0), (4, 234), (5, 6), (1, 0), (5, 5), (5, 14), (1, 0), (5, 13), (5, 25), (1, 0), (5, 24), (5, 33), (1, 0), (5, 32), (5, 44), (1, 0), (5, 43), (5, 59), (1, 0), (5, 58), (5, 70), (1, 0), (5, 69), (5, 81), (1, 0), (5, 80), (5, 89), (1, 0), (5, 88), (5, 101), (1, 0), (5, 100), (5, 114), (1, 0), (5, 113), (5, 131), (1, 0), (5, 130), (5, 142), (1, 0), (5, 141), (5, 162), (1, 0), (5, 161), (5, 177), (1, 0), (5, 176)] (by decide +kernel) (by decide +kernel)
set_option maxRecDepth 100000 in
theorem ev_msw_25 : GoodIn lw_tbl (ev_ms_25.flatMap ev_mw) := goodIn_c _ [(5, 188), (1, 0), (5, 187), (5, 203), (1, 0), (5, 202), (5, 210), (1, 0), (5, 209), (5, 218), (1, 0), (5, 217), (5, 234), (1, 0), (5, 233), (6, 5), (1, 0), (6, 4), (6, 17), (1, 0), (6, 16), (6, 35), (1, 0), (6, 34), (6, 42), (1, 0), (6, 41), (6, 53), (1, 0), (6, 52), (6, 75), (1, 0), (6, 74), (6, 95), (1, 0), (6, 94), (6, 107), (1, 0), (6, 106), (6, 118), (1, 0), (6, 117), (6, 126), (1, 0), (6, 125), (6, 153), (1, 0), (6, 152)] (by decide +kernel) (by decide +kernel)
set_option maxRecDepth 100000 in
theorem ev_msw_26 : GoodIn lw_tbl (ev_ms_26.flatMap ev_mw) := goodIn_c _ [(6, 161), (1, 0), (6, 160), (6, 170), (1, 0), (6, 169), (6, 183), (1, 0), (6, 182), (6, 198), (1, 0), (6, 197), (6, 206), (1, 0), (6, 205), (6, 217), (1, 0), (6, 216), (6, 234), (1, 0), (6, 233), (7, 11), (1, 0), (7, 10), (7, 19), (1, 0), (7, 18), (7, 26), (1, 0), (7, 25), (7, 38), (1, 0), (7, 37), (7, 50), (1, 0), (7, 49), (7, 65), (1, 0), (7, 64)] (by decide +kernel) (by decide +kernel)
def ev_look {α : Type} (k : Nat) : List (Nat × α) → Option α
  | [] => none
  | q :: r => bif Nat.beq k q.1 then some q.2 else ev_look k r
theorem ev_look_mem {α : Type} {k : Nat} {a : α} : ∀ {l : List (Nat × α)}, ev_look k l = some a → (k, a) ∈ l
  | [], h => by cases h
  | (j, b) :: r, h => by
    unfold ev_look at h
    cases hb : Nat.beq k j with
    | true =>
      rw [hb] at h
      have e := Nat.eq_of_beq_eq_true hb
      subst e
      cases h
      exact List.mem_cons_self
    | false =>
      rw [hb] at h
      exact List.mem_cons_of_mem _ (ev_look_mem h)
def ev_look2 {α : Type} (o k : Nat) (t : List (Nat × List (Nat × α))) : Option α := match ev_look o t with
  | some l => ev_look k l
  | none => none
theorem ev_look2_mem {α : Type} {o k : Nat} {a : α} {t : List (Nat × List (Nat × α))} (h : ev_look2 o k t = some a) : ∃ l, (o, l) ∈ t ∧ (k, a) ∈ l := by
  unfold ev_look2 at h
  cases hl : ev_look o t with
  | none => rw [hl] at h; cases h
  | some l => rw [hl] at h; exact ⟨l, ev_look_mem hl, ev_look_mem h⟩
def ev_LAW : Nat := 429
def ev_me (j : Nat) : Option ev_ME := match ev_look (j / 16) ev_mss with
  | some l => l[j % 16]?
  | none => none
def ev_lawME : ev_ME := (9, x, code, maxLocals, ret, 1, 0, 11, 246, [])
/-- a method, or the law -/
def ev_mel (j : Nat) : Option ev_ME := bif Nat.beq j ev_LAW then some ev_lawME else ev_me j
/-- fields: class of the code, index, (class, place) -/
def ev_flt : List (Nat × List (Nat × Nat × Nat)) := [(0, [(9, 0, 0), (15, 0, 1), (18, 0, 2), (21, 0, 3), (24, 0, 4), (27, 0, 5), (30, 0, 6), (33, 0, 7), (40, 0, 8), (43, 0, 9)]),
  (1, [(11, 1, 3), (18, 1, 4), (21, 1, 1), (25, 1, 0), (29, 1, 2)]),
  (2, [(12, 2, 0), (21, 2, 1), (25, 2, 2), (33, 5, 8), (40, 0, 2), (52, 0, 3), (55, 0, 1), (75, 5, 7), (79, 0, 8), (82, 4, 8), (98, 5, 4), (107, 5, 6), (138, 4, 0), (141, 5, 10), (149, 0, 4), (158, 4, 5), (164, 5, 11), (167, 5, 0), (173, 4, 6), (176, 4, 7), (185, 4, 2), (194, 5, 2), (197, 5, 3), (200, 0, 0), (209, 0, 6)]),
  (3, [(9, 3, 1), (15, 3, 2), (25, 3, 3), (28, 3, 4), (31, 3, 5), (34, 3, 0), (37, 3, 8), (62, 3, 6), (75, 3, 7), (100, 2, 0), (104, 4, 0), (109, 4, 1), (112, 4, 2), (115, 4, 3), (177, 2, 1), (181, 5, 6), (212, 5, 1)]),
  (4, [(9, 4, 4), (15, 4, 5), (18, 4, 6), (21, 4, 7), (24, 4, 8), (27, 4, 0), (31, 4, 1), (34, 4, 2), (37, 4, 3)]),
  (5, [(11, 5, 7), (18, 5, 8), (22, 5, 9), (25, 5, 10), (28, 5, 11), (31, 5, 0), (35, 5, 1), (38, 5, 2), (41, 5, 3), (44, 5, 4), (47, 5, 5), (50, 5, 6), (73, 0, 8), (80, 0, 0), (83, 0, 1), (86, 0, 6), (89, 0, 3), (92, 0, 4), (99, 0, 9)]),
  (6, [(9, 6, 1), (15, 6, 0), (23, 0, 8), (32, 0, 3), (38, 0, 4), (41, 0, 5), (44, 0, 6), (47, 5, 8), (62, 5, 6), (65, 5, 7), (69, 0, 0), (76, 5, 10)]),
  (7, [(9, 7, 0), (13, 7, 1), (17, 7, 2), (20, 7, 3), (23, 7, 4), (30, 7, 5), (34, 7, 6), (40, 7, 7), (47, 7, 8), (54, 7, 9), (73, 3, 0), (76, 3, 1), (85, 2, 1), (89, 5, 6), (101, 2, 0), (105, 4, 1), (110, 4, 2), (113, 4, 3), (116, 4, 0), (119, 5, 0), (122, 5, 1), (129, 5, 2), (132, 5, 3), (135, 5, 4), (138, 5, 5), (147, 4, 4), (160, 4, 5), (163, 4, 6), (166, 4, 7), (185, 5, 7), (189, 0, 0), (194, 0, 1), (195, 0, 2), (198, 0, 3), (201, 0, 4), (204, 0, 5), (207, 0, 6), (210, 0, 7), (213, 0, 8), (216, 0, 9), (222, 4, 8), (225, 5, 8), (243, 5, 10), (330, 6, 0), (345, 6, 1), (399, 1, 0), (417, 1, 1)]),
  (8, [(9, 8, 1), (13, 8, 2), (16, 8, 3), (19, 8, 4), (22, 8, 5), (26, 8, 8), (30, 8, 11), (34, 8, 17), (37, 8, 18), (40, 8, 0), (47, 8, 6), (55, 8, 9), (62, 8, 10), (65, 8, 12), (72, 8, 13), (75, 8, 14), (78, 8, 15), (88, 8, 16), (224, 8, 7), (425, 8, 19)])]
def ev_flw1 (o : Nat) (q : Nat × Nat × Nat) : Cond := match vwCl[q.2.1]? with
  | some r => .fieldLink (ev_own.getD o "") q.1 (r.2.1 q.2.2).1 (r.2.1 q.2.2).2.1 (r.2.1 q.2.2).2.2.1
  | none => .tt
def ev_flw : List Cond := ev_flt.flatMap (fun p => p.2.map (ev_flw1 p.1))
set_option maxRecDepth 100000 in
theorem ev_flw_in : GoodIn lw_tbl ev_flw := goodIn_c _ [(1, 106), (1, 111), (1, 115), (1, 118), (1, 123), (1, 128), (1, 131), (1, 136), (1, 138), (1, 143), (2, 53), (2, 54), (2, 50), (2, 48), (2, 52), (1, 229), (1, 232), (1, 235), (1, 194), (1, 116), (1, 119), (1, 112), (1, 191), (1, 141), (1, 70), (1, 181), (1, 187), (1, 47), (1, 201), (1, 127), (1, 62), (1, 203), (1, 169), (1, 65), (1, 68), (1, 54), (1, 175), (1, 178), (1, 110), (1, 135), (2, 11), (2, 13), (2, 14), (2, 15), (2, 16), (2, 9), (2, 19), (2, 17), (2, 18), (1, 231), (1, 46), (1, 50), (1, 53), (1, 57), (1, 234), (1, 188), (1, 172), (1, 58), (1, 60), (1, 63), (1, 66), (1, 69), (1, 44), (1, 48), (1, 51), (1, 55), (1, 189), (1, 193), (1, 197), (1, 198), (1, 202), (1, 167), (1, 170), (1, 173), (1, 176), (1, 179), (1, 182), (1, 184), (1, 140), (1, 108), (1, 114), (1, 134), (1, 122), (1, 126), (1, 145), (2, 75), (2, 73), (1, 139), (1, 120), (1, 124), (1, 129), (1, 132), (1, 195), (1, 186), (1, 190), (1, 107), (1, 199), (2, 82), (2, 83), (2, 84), (2, 85), (2, 86), (2, 87), (2, 88), (2, 89), (2, 90), (2, 91), (2, 10), (2, 12), (1, 233), (1, 185), (1, 230), (1, 49), (1, 52), (1, 56), (1, 45), (1, 168), (1, 171), (1, 174), (1, 177), (1, 180), (1, 183), (1, 59), (1, 61), (1, 64), (1, 67), (1, 192), (1, 109), (1, 113), (1, 117), (1, 121), (1, 125), (1, 130), (1, 133), (1, 137), (1, 142), (1, 144), (1, 71), (1, 196), (1, 200), (2, 74), (2, 76), (2, 49), (2, 51), (7, 82), (7, 83), (7, 84), (7, 85), (7, 86), (7, 89), (7, 92), (7, 98), (7, 99), (7, 81), (7, 87), (7, 90), (7, 91), (7, 93), (7, 94), (7, 95), (7, 96), (7, 97), (7, 88), (7, 100)] (by decide +kernel) (by decide +kernel)
set_option maxRecDepth 100000 in
theorem ev_fl_ok : ev_flt.all (fun p => p.2.all (fun q => match vwCl[q.2.1]? with | some r => decide (q.2.2 < r.2.2) | none => false)) = true := by decide +kernel
/-- calls: class of the code, index, method -/
def ev_tgt : List (Nat × List (Nat × Nat)) := [(0, [(36, 3), (46, 4), (50, 7), (60, 11), (64, 12), (70, 15), (74, 16), (77, 372), (82, 8)]),
  (1, [(17, 93), (32, 22), (35, 95)]),
  (2, [(11, 86), (20, 93), (29, 87), (32, 94), (36, 98), (58, 10), (62, 33), (66, 92), (69, 11), (72, 12), (85, 30), (88, 35), (91, 13), (95, 113), (101, 34), (104, 36), (110, 37), (113, 42), (117, 7), (121, 45), (128, 46), (132, 43), (135, 48), (143, 49), (146, 110), (152, 50), (155, 51), (161, 99), (170, 53), (179, 55), (182, 102), (188, 56), (191, 104), (203, 3), (206, 100)]),
  (3, [(41, 29), (46, 73), (49, 64), (53, 75), (56, 69), (59, 74), (65, 68), (68, 66), (72, 67), (78, 65), (93, 70), (97, 72), (120, 77), (125, 78), (130, 79), (135, 80), (140, 81), (145, 82), (150, 83), (155, 84), (160, 85), (163, 76), (167, 88), (170, 89), (174, 90), (186, 71), (189, 96), (193, 37), (196, 109), (199, 38), (202, 39), (205, 50), (208, 51), (214, 115)]),
  (5, [(53, 371), (59, 2), (69, 1), (76, 6), (95, 3), (102, 112), (105, 98), (109, 116), (113, 117), (122, 114), (126, 14), (129, 119)]),
  (6, [(19, 121), (28, 125), (35, 122), (52, 123), (55, 97), (59, 124), (72, 5)]),
  (7, [(29, 28), (39, 62), (46, 21), (53, 120), (58, 200), (69, 63), (82, 23), (94, 192), (97, 198), (125, 100), (141, 101), (151, 105), (154, 106), (157, 195), (169, 102), (172, 103), (175, 99), (179, 54), (182, 193), (219, 194), (228, 30), (231, 31), (234, 32), (237, 97), (245, 108), (248, 61), (251, 5), (254, 4), (257, 104), (260, 37), (263, 197), (266, 38), (269, 8), (272, 9), (275, 34), (278, 35), (281, 36), (284, 40), (287, 41), (290, 43), (294, 44), (297, 47), (300, 19), (303, 118), (311, 56), (314, 57), (317, 58), (320, 20), (323, 107), (326, 126), (333, 127), (337, 128), (340, 129), (348, 199), (352, 24), (356, 109), (359, 39), (362, 50), (365, 51), (368, 52), (371, 111), (374, 113), (377, 17), (380, 18), (383, 59), (386, 60), (389, 115), (392, 91), (395, 96), (407, 25), (410, 196), (413, 26), (423, 27)]),
  (8, [(43, 206), (51, 209), (58, 213), (68, 203), (81, 217), (85, 218), (91, 221), (104, 220), (107, 223), (111, 219), (114, 225), (118, 224), (121, 241), (125, 205), (129, 229), (133, 248), (137, 252), (140, 253), (143, 255), (146, 264), (149, 267), (152, 268), (155, 272), (160, 222), (164, 226), (169, 227), (174, 228), (179, 230), (182, 237), (187, 231), (192, 232), (197, 233), (202, 234), (207, 235), (212, 236), (215, 210), (218, 238), (221, 211), (227, 242), (230, 244), (233, 243), (236, 247), (239, 249), (242, 246), (245, 204), (249, 245), (252, 251), (260, 254), (263, 256), (266, 257), (269, 258), (272, 259), (278, 261), (281, 260), (284, 263), (287, 265), (290, 266), (293, 269), (296, 270), (299, 271), (302, 240), (305, 275), (308, 276), (311, 250), (314, 207), (318, 281), (321, 280), (324, 285), (327, 286), (330, 287), (333, 283), (336, 291), (339, 284), (342, 293), (345, 278), (348, 296), (351, 298), (354, 289), (357, 299), (360, 208), (367, 288), (370, 279), (373, 290), (376, 273), (379, 311), (382, 262), (385, 316), (388, 318), (391, 320), (395, 322), (398, 324), (401, 327), (404, 329), (407, 277), (410, 332), (413, 334), (416, 274), (419, 337), (422, 340), (428, 342), (431, 344), (434, 343), (437, 347), (440, 351), (443, 359), (446, 361), (449, 368)]),
  (9, [(7, 132), (17, 136), (22, 137), (26, 138), (29, 139), (32, 140), (35, 141), (38, 142), (41, 143), (45, 144), (48, 145), (51, 146), (54, 147), (57, 148), (60, 149), (63, 150), (66, 151), (69, 152), (72, 153), (75, 154), (78, 155), (81, 156), (84, 157), (87, 158), (91, 159), (94, 160), (97, 161), (100, 162), (103, 163), (106, 164), (109, 165), (112, 166), (115, 167), (118, 168), (121, 169), (125, 170), (129, 171), (132, 172), (135, 173), (138, 174), (141, 175), (144, 176), (147, 177), (150, 178), (153, 179), (156, 180), (159, 181), (162, 182), (165, 183), (168, 184), (171, 185), (174, 186), (177, 187), (181, 188), (184, 190), (187, 191), (190, 130), (193, 201), (194, 131), (198, 212), (199, 373), (204, 239), (205, 133), (208, 214), (209, 134), (212, 215), (213, 135), (216, 216), (217, 374), (219, 282), (220, 375), (223, 292), (224, 376), (226, 294), (227, 377), (229, 295), (230, 378), (232, 297), (233, 379), (235, 300), (236, 380), (238, 301), (239, 381), (242, 302), (243, 382), (245, 303), (246, 383), (248, 304), (249, 384), (251, 305), (252, 385), (254, 306), (255, 386), (257, 307), (258, 387), (260, 308), (261, 388), (263, 309), (264, 389), (266, 310), (267, 390), (269, 312), (270, 391), (272, 313), (273, 392), (275, 314), (276, 393), (278, 315), (279, 394), (281, 317), (282, 395), (284, 319), (285, 396), (288, 321), (289, 397), (291, 323), (292, 398), (294, 325), (295, 399), (297, 326), (298, 400), (300, 328), (301, 401), (303, 330), (304, 402), (306, 331), (307, 403), (309, 333), (310, 404), (312, 335), (313, 405), (315, 336), (316, 406), (318, 338), (319, 407), (322, 339), (323, 408), (325, 341), (326, 409), (328, 345), (329, 410), (331, 346), (332, 411), (334, 348), (335, 412), (337, 349), (338, 413), (340, 350), (341, 414), (343, 352), (344, 415), (346, 353), (347, 416), (349, 354), (350, 417), (352, 355), (353, 418), (355, 357), (356, 419), (358, 356), (359, 420), (361, 358), (362, 421), (364, 360), (365, 422), (367, 362), (368, 423), (370, 363), (371, 424), (373, 364), (374, 425), (377, 365), (378, 426), (380, 366), (381, 189), (384, 367), (385, 427), (387, 369), (388, 428), (390, 370), (391, 202)])]
def ev_tgw1 (o : Nat) (q : Nat × Nat) : Cond := match ev_me q.2 with
  | some e => .methodLink (ev_own.getD o "") q.1 (ev_y e)
  | none => .tt
def ev_tgw (p : Nat × List (Nat × Nat)) : List Cond := p.2.map (ev_tgw1 p.1)
def ev_tgp_0 : List (Nat × Nat) := [(3, 132), (4, 94), (5, 53), (3, 196), (3, 197), (6, 27), (6, 30), (6, 226), (6, 26)]
set_option maxRecDepth 100000 in
theorem ev_tgw_in_0 : GoodIn lw_tbl (ev_tgw (ev_tgt.getD 0 (0, []))) := goodIn_c _ ev_tgp_0 (by decide +kernel) (by decide +kernel)
def ev_tgp_1 : List (Nat × Nat) := [(2, 47), (4, 46), (6, 139)]
set_option maxRecDepth 100000 in
theorem ev_tgw_in_1 : GoodIn lw_tbl (ev_tgw (ev_tgt.getD 1 (0, []))) := goodIn_c _ ev_tgp_1 (by decide +kernel) (by decide +kernel)
def ev_tgp_2 : List (Nat × Nat) := [(1, 40), (1, 95), (2, 224), (2, 228), (3, 163), (3, 176), (3, 172), (3, 180), (3, 188), (5, 98), (3, 159), (3, 184), (3, 192), (3, 205), (5, 110), (5, 111), (5, 123), (5, 124), (5, 128), (5, 151), (5, 155), (5, 159), (5, 171), (3, 219), (3, 227), (6, 179), (6, 180), (4, 142), (4, 143), (5, 227), (5, 231), (6, 14), (7, 3), (7, 8), (4, 229)]
set_option maxRecDepth 100000 in
theorem ev_tgw_in_2 : GoodIn lw_tbl (ev_tgw (ev_tgt.getD 2 (0, []))) := goodIn_c _ ev_tgp_2 (by decide +kernel) (by decide +kernel)
def ev_tgp_3 : List (Nat × Nat) := [(2, 220), (2, 235), (3, 3), (3, 80), (2, 239), (4, 22), (3, 7), (3, 11), (3, 15), (3, 19), (3, 24), (3, 76), (3, 85), (3, 98), (3, 107), (3, 116), (3, 137), (3, 151), (3, 211), (3, 232), (3, 237), (3, 89), (3, 93), (3, 102), (3, 111), (3, 120), (3, 124), (3, 141), (3, 145), (3, 155), (3, 168), (3, 215), (3, 223), (4, 1)]
set_option maxRecDepth 100000 in
theorem ev_tgw_in_3 : GoodIn lw_tbl (ev_tgw (ev_tgt.getD 3 (0, []))) := goodIn_c _ ev_tgp_3 (by decide +kernel) (by decide +kernel)
def ev_tgp_4 : List (Nat × Nat) := [(2, 232), (6, 143), (3, 128), (4, 90), (3, 149), (6, 192), (3, 209), (4, 5), (4, 10), (4, 14), (4, 18), (5, 197)]
set_option maxRecDepth 100000 in
theorem ev_tgw_in_4 : GoodIn lw_tbl (ev_tgw (ev_tgt.getD 4 (0, []))) := goodIn_c _ ev_tgp_4 (by decide +kernel) (by decide +kernel)
def ev_tgp_5 : List (Nat × Nat) := [(6, 65), (6, 62), (6, 69), (6, 84), (6, 88), (6, 89), (6, 104)]
set_option maxRecDepth 100000 in
theorem ev_tgw_in_5 : GoodIn lw_tbl (ev_tgw (ev_tgt.getD 5 (0, []))) := goodIn_c _ ev_tgp_5 (by decide +kernel) (by decide +kernel)
def ev_tgp_6 : List (Nat × Nat) := [(1, 34), (2, 5), (2, 41), (2, 69), (2, 117), (2, 213), (4, 42), (4, 58), (4, 78), (4, 82), (4, 86), (4, 106), (4, 110), (4, 121), (4, 126), (4, 130), (4, 134), (4, 138), (4, 155), (4, 167), (4, 172), (4, 173), (4, 177), (4, 188), (4, 214), (4, 225), (5, 0), (5, 11), (5, 19), (5, 30), (5, 38), (5, 41), (5, 49), (5, 64), (5, 75), (5, 86), (5, 94), (5, 106), (5, 119), (5, 136), (5, 147), (5, 167), (5, 182), (5, 193), (5, 223), (5, 239), (6, 10), (6, 22), (6, 47), (6, 58), (6, 80), (6, 100), (6, 112), (6, 131), (6, 135), (6, 150), (6, 158), (6, 166), (6, 167), (6, 175), (6, 188), (6, 203), (6, 211), (6, 222), (6, 239), (7, 4), (7, 16), (7, 31), (7, 35), (7, 44), (7, 55), (7, 59), (7, 71)]
set_option maxRecDepth 100000 in
theorem ev_tgw_in_6 : GoodIn lw_tbl (ev_tgw (ev_tgt.getD 6 (0, []))) := goodIn_c _ ev_tgp_6 (by decide +kernel) (by decide +kernel)
def ev_tgp_7 : List (Nat × Nat) := [(7, 173), (7, 181), (7, 150), (7, 170), (7, 192), (7, 196), (7, 205), (7, 211), (7, 219), (7, 188), (7, 232), (7, 215), (8, 1), (8, 19), (8, 15), (8, 22), (8, 43), (8, 70), (8, 79), (8, 88), (8, 126), (8, 138), (8, 152), (7, 201), (7, 228), (7, 237), (8, 6), (8, 11), (8, 34), (8, 39), (8, 75), (8, 122), (8, 143), (8, 148), (7, 223), (7, 177), (7, 184), (8, 168), (8, 55), (8, 51), (8, 26), (8, 30), (8, 188), (8, 63), (8, 67), (8, 47), (8, 59), (8, 83), (8, 100), (8, 96), (8, 92), (8, 108), (8, 116), (8, 104), (8, 112), (8, 134), (8, 130), (8, 164), (8, 156), (8, 160), (8, 224), (8, 216), (8, 232), (8, 184), (8, 176), (8, 180), (8, 192), (9, 0), (9, 8), (9, 85), (8, 200), (8, 204), (8, 212), (8, 220), (8, 228), (9, 12), (9, 28), (9, 20), (9, 24), (9, 40), (9, 57), (9, 69), (9, 81), (9, 92), (9, 100), (9, 116), (9, 124), (9, 132), (9, 140), (9, 148), (9, 156), (9, 168), (9, 176), (9, 191), (9, 187), (9, 199), (9, 215), (9, 211), (9, 227), (9, 238), (9, 235), (10, 2), (10, 14), (10, 30), (10, 62), (10, 70), (10, 98)]
set_option maxRecDepth 100000 in
theorem ev_tgw_in_7 : GoodIn lw_tbl (ev_tgw (ev_tgt.getD 7 (0, []))) := goodIn_c _ ev_tgp_7 (by decide +kernel) (by decide +kernel)
def ev_tgp_8 : List (Nat × Nat) := [(2, 142), (4, 54), (4, 101), (4, 117), (4, 151), (4, 163), (4, 184), (4, 195), (4, 203), (4, 210), (4, 221), (4, 236), (5, 7), (5, 15), (5, 26), (5, 34), (5, 45), (5, 60), (5, 71), (5, 82), (5, 90), (5, 102), (5, 115), (5, 132), (5, 143), (5, 163), (5, 178), (5, 189), (5, 204), (5, 211), (5, 219), (5, 235), (6, 6), (6, 18), (6, 36), (6, 43), (6, 54), (6, 76), (6, 96), (6, 108), (6, 119), (6, 127), (6, 154), (6, 162), (6, 171), (6, 184), (6, 199), (6, 207), (6, 218), (6, 235), (7, 12), (7, 20), (7, 27), (7, 39), (7, 51), (7, 66), (1, 26), (7, 77), (2, 113), (7, 146), (2, 137), (7, 166), (2, 121), (7, 154), (2, 125), (7, 158), (2, 129), (7, 162), (4, 50), (8, 172), (4, 98), (8, 196), (4, 114), (8, 208), (4, 148), (8, 236), (4, 160), (9, 4), (4, 181), (9, 16), (4, 192), (9, 32), (4, 200), (9, 36), (4, 207), (9, 44), (4, 218), (9, 48), (4, 233), (9, 53), (5, 4), (9, 61), (5, 12), (9, 65), (5, 23), (9, 73), (5, 31), (9, 77), (5, 42), (9, 88), (5, 57), (9, 96), (5, 68), (9, 104), (5, 79), (9, 108), (5, 87), (9, 112), (5, 99), (9, 120), (5, 112), (9, 128), (5, 129), (9, 136), (5, 140), (9, 144), (5, 160), (9, 152), (5, 175), (9, 160), (5, 186), (9, 164), (5, 201), (9, 172), (5, 208), (9, 179), (5, 216), (9, 183), (5, 232), (9, 195), (6, 3), (9, 203), (6, 15), (9, 207), (6, 33), (9, 219), (6, 40), (9, 223), (6, 51), (9, 231), (6, 73), (10, 6), (6, 93), (10, 10), (6, 105), (10, 18), (6, 116), (10, 22), (6, 124), (10, 26), (6, 151), (10, 34), (6, 159), (10, 38), (6, 168), (10, 42), (6, 181), (10, 50), (6, 196), (10, 46), (6, 204), (10, 54), (6, 215), (10, 58), (6, 232), (10, 66), (7, 9), (10, 74), (7, 17), (10, 78), (7, 24), (10, 82), (7, 36), (10, 86), (2, 133), (10, 90), (7, 48), (10, 94), (7, 63), (10, 101), (7, 142)]
set_option maxRecDepth 100000 in
theorem ev_tgw_in_8 : GoodIn lw_tbl (ev_tgw (ev_tgt.getD 8 (0, []))) := goodIn_c _ ev_tgp_8 (by decide +kernel) (by decide +kernel)
set_option maxRecDepth 100000 in
theorem ev_tgw_in : ∀ p ∈ ev_tgt, GoodIn lw_tbl (ev_tgw p) := by
  intro p hp
  obtain ⟨i, hi⟩ := List.getElem?_of_mem hp
  have h9 : ev_tgt.getD i (0, []) = p := by rw [List.getD_eq_getElem?_getD, hi]; rfl
  have hl : i < 9 := (List.getElem?_eq_some_iff.mp hi).1
  rw [← h9]
  match i, hl with
  | 0, _ => exact ev_tgw_in_0
  | 1, _ => exact ev_tgw_in_1
  | 2, _ => exact ev_tgw_in_2
  | 3, _ => exact ev_tgw_in_3
  | 4, _ => exact ev_tgw_in_4
  | 5, _ => exact ev_tgw_in_5
  | 6, _ => exact ev_tgw_in_6
  | 7, _ => exact ev_tgw_in_7
  | 8, _ => exact ev_tgw_in_8
/-- the one call of a nest mate: class of the code, index, method -/
def ev_nst : Nat × Nat × Nat := (5, 17, 0)
def ev_nsw : Cond := .methodLinkNest "FlagLaundry$State" 17 ⟨"FlagLaundry$Flag", "<init>", "()V"⟩ "FlagLaundry"
set_option maxRecDepth 100000 in
theorem ev_nsw_in : ev_nsw ∈ lw_tbl := List.mem_of_getElem? (i := 232) (by decide +kernel)
/-- calls of the JDK: class of the code, index, 100 max 101 min 102 abs 103 Object() 104 arraycopy 105 length 106 charAt -/
def ev_nat : List (Nat × List (Nat × Nat)) := [(0, [(3, 103), (54, 100), (67, 101)]),
  (1, [(3, 103)]),
  (2, [(3, 103), (46, 101), (125, 100), (212, 102)]),
  (3, [(3, 103), (19, 101), (82, 105), (87, 106)]),
  (4, [(3, 103)]),
  (5, [(3, 103), (63, 104), (116, 100)]),
  (6, [(3, 103)]),
  (7, [(1, 103), (306, 101)]),
  (8, [(1, 103), (94, 105), (100, 106), (255, 101), (275, 100), (364, 102)])]
def ev_natn (k : Nat) : MethodName := match k with
  | 100 => Lib.Math.max.name
  | 101 => Lib.Math.min.name
  | 102 => Lib.Math.abs.name
  | 103 => Lib.objectInit
  | 104 => arraycopyName
  | 105 => ⟨"java/lang/String", "length", "()I"⟩
  | _ => ⟨"java/lang/String", "charAt", "(I)C"⟩
def ev_natw : List Cond := ev_nat.flatMap (fun p => p.2.map (fun q => .methodLink (ev_own.getD p.1 "") q.1 (ev_natn q.2)))
set_option maxRecDepth 100000 in
theorem ev_natw_in : GoodIn lw_tbl ev_natw := goodIn_c _ [(1, 105), (3, 201), (3, 204), (2, 44), (1, 37), (3, 167), (4, 147), (4, 230), (2, 8), (2, 217), (3, 28), (3, 38), (1, 43), (1, 98), (6, 147), (4, 9), (2, 72), (1, 29), (5, 215), (7, 80), (7, 209), (7, 210), (8, 87), (8, 120), (9, 52)] (by decide +kernel) (by decide +kernel)
def ev_jdw : List Cond := [.code Lib.Math.max.name Lib.Math.max.code 2 (some .int), .static Lib.Math.max.name, .code Lib.Math.min.name Lib.Math.min.code 2 (some .int), .static Lib.Math.min.name, .code Lib.Math.abs.name Lib.Math.abs.code 1 (some .int), .static Lib.Math.abs.name, .code Lib.objectInit ⟨#[0xb1]⟩ 1 none, .instanceMethod Lib.objectInit, .initialized "java/lang/Math", .static arraycopyName, .native arraycopyName, .initialized "java/lang/System"]
set_option maxRecDepth 100000 in
theorem ev_jdw_in : GoodIn lw_tbl ev_jdw := goodIn_c _ [(3, 203), (3, 202), (2, 219), (2, 218), (4, 232), (4, 231), (1, 31), (1, 30), (1, 14), (6, 148), (6, 149), (1, 22)] (by decide +kernel) (by decide +kernel)
/-- classes named by an index: class of the code, index, class -/
def ev_clt : List (Nat × List (Nat × Nat)) := [(1, [(9, 5)]),
  (2, [(9, 4), (18, 5)]),
  (5, [(9, 0)]),
  (7, [(27, 2), (37, 3), (44, 1), (51, 6)]),
  (9, [(8, 7), (191, 8)])]
def ev_clw1 (o : Nat) (q : Nat × Nat) : Cond := match vwCl[q.2]? with
  | some r => .classLink (ev_own.getD o "") q.1 r.1
  | none => .tt
def ev_clw : List Cond := ev_clt.flatMap (fun p => p.2.map (ev_clw1 p.1))
set_option maxRecDepth 100000 in
theorem ev_clw_in : GoodIn lw_tbl ev_clw := goodIn_c _ [(2, 45), (1, 38), (1, 93), (1, 99), (1, 32), (2, 3), (2, 39), (2, 67), (1, 24), (7, 75)] (by decide +kernel) (by decide +kernel)
def ev_insw : List Cond := vwCl.flatMap (fun r => [.instantiable r.1 r.2.2, .initialized r.1])
set_option maxRecDepth 100000 in
theorem ev_insw_in : GoodIn lw_tbl ev_insw := goodIn_c _ [(1, 101), (1, 5), (2, 40), (1, 7), (1, 33), (1, 2), (2, 4), (1, 6), (1, 39), (1, 3), (1, 94), (1, 4), (2, 68), (1, 8), (1, 25), (1, 1), (7, 76), (1, 9)] (by decide +kernel) (by decide +kernel)
def ev_arrw : List Cond := [.arrayClass .byte, .arrayClass .int, .arrayClass .boolean, .arrayClass .long, .arrayClass .double]
set_option maxRecDepth 100000 in
theorem ev_arrw_in : GoodIn lw_tbl ev_arrw := goodIn_c _ [(1, 91), (1, 92), (2, 66), (10, 105), (10, 106)] (by decide +kernel) (by decide +kernel)
set_option maxRecDepth 100000 in
theorem ev_ao_Flag : Cond.arrayOver (.object RX0) ∈ lw_tbl := List.mem_of_getElem? (i := 230) (by decide +kernel)
set_option maxRecDepth 100000 in
theorem ev_ao_State : Cond.arrayOver (.object RX5) ∈ lw_tbl := List.mem_of_getElem? (i := 416) (by decide +kernel)
/-- int constants: class of the code, index, value -/
def ev_cst : List (Nat × Nat × Int32) := [(11, 265, 1431655765), (11, 266, 858993459), (11, 267, 252645135)]
def ev_cstw : List Cond := ev_cst.map (fun q => .constant (ev_own.getD q.1 "") q.2.1 q.2.2)
set_option maxRecDepth 100000 in
theorem ev_cstw_in : GoodIn lw_tbl ev_cstw := goodIn_c _ [(6, 229), (6, 230), (6, 231)] (by decide +kernel) (by decide +kernel)
/-- throw sites: method, pc, (exception 0 state 1 index 2 argument, class index, text index, constructor index, wide) -/
def ev_thr : List (Nat × List (Nat × Nat × Nat × Nat × Nat × Nat)) := [(132, [(12, 1, 62, 64, 66, 0), (72, 2, 77, 79, 81, 0)]), (137, [(22, 1, 62, 145, 66, 0)]), (142, [(22, 1, 62, 241, 66, 0)]), (175, [(15, 1, 62, 343, 66, 1)]), (188, [(10, 0, 402, 404, 406, 1)]), (191, [(16, 0, 402, 421, 406, 1)]), (192, [(7, 0, 402, 426, 406, 1)]), (193, [(22, 1, 62, 428, 66, 1)]), (194, [(22, 1, 62, 430, 66, 1)]), (195, [(22, 1, 62, 432, 66, 1)]), (196, [(9, 1, 62, 434, 66, 1)]), (198, [(10, 2, 77, 436, 81, 1)]), (199, [(4, 2, 77, 438, 81, 1)])]
def ev_ex (k : Nat) : String := match k with
  | 0 => "java/lang/IllegalStateException"
  | 1 => "java/lang/IndexOutOfBoundsException"
  | _ => "java/lang/IllegalArgumentException"
/-- the classes that the law's handlers name: index, exception -/
def ev_hct : List (Nat × Nat) := [(13, 1), (15, 2), (20, 0)]
def ev_hcw : List Cond := ev_hct.map (fun q => .classLink "FlagLaundryLaw" q.1 (ev_ex q.2))
set_option maxRecDepth 100000 in
theorem ev_hcw_in : GoodIn lw_tbl ev_hcw := goodIn_c _ [(2, 140), (2, 141), (4, 53)] (by decide +kernel) (by decide +kernel)
/-- what a throw needs of the tables: (class of the code, exception, class index, constructor index) -/
def ev_thk : List (Nat × Nat × Nat × Nat) := [(7, 1, 62, 66), (7, 2, 77, 81), (7, 0, 402, 406)]
set_option maxRecDepth 100000 in
theorem ev_thk_cl : GoodIn lw_tbl (ev_thk.map (fun q => Cond.classLink (ev_own.getD q.1 "") q.2.2.1 (ev_ex q.2.1))) := goodIn_c _ [(2, 146), (4, 26), (4, 62)] (by decide +kernel) (by decide +kernel)
set_option maxRecDepth 100000 in
theorem ev_thk_in : GoodIn lw_tbl [Cond.initialized (ev_ex 0), Cond.initialized (ev_ex 1), Cond.initialized (ev_ex 2)] := goodIn_c _ [(1, 21), (1, 13), (1, 20)] (by decide +kernel) (by decide +kernel)
set_option maxRecDepth 100000 in
theorem ev_thk_at : ev_thk.all (fun q => ((vx_atS (ev_own.getD q.1 "") q.2.2.2 (ev_ex q.2.1) ["java/lang/RuntimeException", "java/lang/Exception"]).filter goodWord).all (fun w => decide (w ∈ lw_tbl))) = true := by decide +kernel
def ev_ngw : List Cond := [.castable (ev_ex 0) (ev_ex 0), .castable (ev_ex 1) (ev_ex 1), .castable (ev_ex 2) (ev_ex 2), .declares ⟨"java/lang/RuntimeException", "<init>", "(Ljava/lang/String;)V"⟩, .declares ⟨"java/lang/Exception", "<init>", "(Ljava/lang/String;)V"⟩, .declares ⟨"java/lang/Throwable", "<init>", "(Ljava/lang/String;)V"⟩]
set_option maxRecDepth 100000 in
theorem ev_ngw_eq : ev_ngw = ([914, 518, 878, 520, 522, 524]).filterMap (fun i => lw_tbl[i]?) := by rfl
set_option maxRecDepth 100000 in
theorem ev_ngw_in : ∀ w ∈ ev_ngw, w ∈ lw_tbl := fun w hw => by
  rw [ev_ngw_eq] at hw
  obtain ⟨i, -, hi⟩ := List.mem_filterMap.mp hw
  exact List.mem_of_getElem? hi
set_option maxRecDepth 100000 in
theorem ev_thk_ng : ev_thk.all (fun q => ((vx_atS (ev_own.getD q.1 "") q.2.2.2 (ev_ex q.2.1) ["java/lang/RuntimeException", "java/lang/Exception"]).filter (fun w => !goodWord w)).all (fun w => decide (w ∈ ev_ngw))) = true := by decide +kernel
set_option maxRecDepth 100000 in
theorem ev_thk_ot : ev_thk.all (fun q => (Cond.classLink (ev_own.getD q.1 "") q.2.2.1 (ev_ex q.2.1) :: Cond.initialized (ev_ex q.2.1) :: vx_atS (ev_own.getD q.1 "") q.2.2.2 (ev_ex q.2.1) ["java/lang/RuntimeException", "java/lang/Exception"]).all vx_ot) = true := by decide +kernel
/-- String constants: class of the code, index, text -/
def ev_str : List (Nat × Nat × String) := [(7, 64, "not so many bytes in the buffer"),
  (3, 91, "line"),
  (3, 118, "colour"),
  (3, 123, "nation"),
  (3, 128, "tub"),
  (3, 133, "flag"),
  (3, 138, "put"),
  (3, 143, "wash"),
  (3, 148, "hang"),
  (3, 153, "wind"),
  (3, 158, "pass"),
  (7, 79, "the text has an error"),
  (7, 426, "no text was loaded"),
  (7, 436, "out of range"),
  (7, 145, "no such colour"),
  (7, 432, "no such nation"),
  (7, 428, "no such flag"),
  (7, 430, "no such tub"),
  (7, 241, "no such peg"),
  (7, 343, "no such byte"),
  (7, 438, "this can not be done now"),
  (7, 404, "nothing to undo"),
  (7, 434, "no such slot"),
  (7, 421, "nothing is saved there"),
  (8, 210, "line"),
  (8, 158, "colour"),
  (8, 167, "nation"),
  (8, 172, "tub"),
  (8, 177, "flag"),
  (8, 185, "put"),
  (8, 190, "wash"),
  (8, 195, "hang"),
  (8, 200, "wind"),
  (8, 205, "pass")]
/-- their bytes -/
def ev_sby : List (List Int32) := [[110, 111, 116, 32, 115, 111, 32, 109, 97, 110, 121, 32, 98, 121, 116, 101, 115, 32, 105, 110, 32, 116, 104, 101, 32, 98, 117, 102, 102, 101, 114],
  [108, 105, 110, 101],
  [99, 111, 108, 111, 117, 114],
  [110, 97, 116, 105, 111, 110],
  [116, 117, 98],
  [102, 108, 97, 103],
  [112, 117, 116],
  [119, 97, 115, 104],
  [104, 97, 110, 103],
  [119, 105, 110, 100],
  [112, 97, 115, 115],
  [116, 104, 101, 32, 116, 101, 120, 116, 32, 104, 97, 115, 32, 97, 110, 32, 101, 114, 114, 111, 114],
  [110, 111, 32, 116, 101, 120, 116, 32, 119, 97, 115, 32, 108, 111, 97, 100, 101, 100],
  [111, 117, 116, 32, 111, 102, 32, 114, 97, 110, 103, 101],
  [110, 111, 32, 115, 117, 99, 104, 32, 99, 111, 108, 111, 117, 114],
  [110, 111, 32, 115, 117, 99, 104, 32, 110, 97, 116, 105, 111, 110],
  [110, 111, 32, 115, 117, 99, 104, 32, 102, 108, 97, 103],
  [110, 111, 32, 115, 117, 99, 104, 32, 116, 117, 98],
  [110, 111, 32, 115, 117, 99, 104, 32, 112, 101, 103],
  [110, 111, 32, 115, 117, 99, 104, 32, 98, 121, 116, 101],
  [116, 104, 105, 115, 32, 99, 97, 110, 32, 110, 111, 116, 32, 98, 101, 32, 100, 111, 110, 101, 32, 110, 111, 119],
  [110, 111, 116, 104, 105, 110, 103, 32, 116, 111, 32, 117, 110, 100, 111],
  [110, 111, 32, 115, 117, 99, 104, 32, 115, 108, 111, 116],
  [110, 111, 116, 104, 105, 110, 103, 32, 105, 115, 32, 115, 97, 118, 101, 100, 32, 116, 104, 101, 114, 101],
  [108, 105, 110, 101],
  [99, 111, 108, 111, 117, 114],
  [110, 97, 116, 105, 111, 110],
  [116, 117, 98],
  [102, 108, 97, 103],
  [112, 117, 116],
  [119, 97, 115, 104],
  [104, 97, 110, 103],
  [119, 105, 110, 100],
  [112, 97, 115, 115]]
set_option maxRecDepth 100000 in
theorem ev_str_in : ∀ q ∈ ev_str, Cond.stringRef (ev_own.getD q.1 "") q.2.1 q.2.2 ∈ lw_tbl := by
  have h : (ev_str.map (fun q => Cond.stringRef (ev_own.getD q.1 "") q.2.1 q.2.2)) = ([557, 633, 694, 707, 716, 725, 746, 760, 820, 841, 846, 885, 921, 931, 955, 975, 1009, 1021, 1049, 1453, 1464, 1613, 1628, 1640, 1770, 1797, 1806, 1815, 1820, 1848, 1884, 1931, 1952, 1957]).filterMap (fun i => lw_tbl[i]?) := by rfl
  intro q hq
  have h1 : Cond.stringRef (ev_own.getD q.1 "") q.2.1 q.2.2 ∈ ev_str.map (fun q => Cond.stringRef (ev_own.getD q.1 "") q.2.1 q.2.2) := List.mem_map.mpr ⟨q, hq, rfl⟩
  rw [h] at h1
  obtain ⟨i, -, hi⟩ := List.mem_filterMap.mp h1
  exact List.mem_of_getElem? hi
