/-! tables, by wip/gen/gen.py -/
def RX0 : String := "FlagLaundry$Flag"
def TX0 : u_T := fun k => match k with
  | 0 => ("FlagLaundry$Flag", "nation", "I", false)
  | 1 => ("FlagLaundry$Flag", "colours", "I", false)
  | 2 => ("FlagLaundry$Flag", "care", "I", false)
  | 3 => ("FlagLaundry$Flag", "dirt", "I", false)
  | 4 => ("FlagLaundry$Flag", "wet", "I", false)
  | 5 => ("FlagLaundry$Flag", "crease", "I", false)
  | 6 => ("FlagLaundry$Flag", "stains", "I", false)
  | 7 => ("FlagLaundry$Flag", "bleached", "I", false)
  | 8 => ("FlagLaundry$Flag", "place", "I", false)
  | _ => ("FlagLaundry$Flag", "spot", "I", false)
def tyX0 : Nat → FieldType := fun k => match k with
  | 0 => .int
  | 1 => .int
  | 2 => .int
  | 3 => .int
  | 4 => .int
  | 5 => .int
  | 6 => .int
  | 7 => .int
  | 8 => .int
  | _ => .int
theorem nmX0 : ∀ a, a < 10 → ∀ b, b < 10 → a ≠ b → (TX0 a).2.1 ≠ (TX0 b).2.1 := by decide +kernel
theorem tyX0_ok : ∀ k, k < 10 → parseFieldDescriptor (TX0 k).2.2.1 = some (tyX0 k) := by decide +kernel
set_option maxRecDepth 100000 in
theorem ev_layX0 : GoodIn lw_tbl (u_ws RX0 TX0 10) := goodIn_r _ [276, 278, 280, 282, 284, 286, 288, 290, 292, 294] rfl (by decide +kernel)
def RX1 : String := "FlagLaundry$History"
def TX1 : u_T := fun k => match k with
  | 0 => ("FlagLaundry$History", "count", "I", false)
  | 1 => ("FlagLaundry$History", "isSaved", "[Z", true)
  | 2 => ("FlagLaundry$History", "oldest", "I", false)
  | 3 => ("FlagLaundry$History", "before", "[LFlagLaundry$State;", true)
  | _ => ("FlagLaundry$History", "saved", "[LFlagLaundry$State;", true)
def tyX1 : Nat → FieldType := fun k => match k with
  | 0 => .int
  | 1 => .array .boolean
  | 2 => .int
  | 3 => .array (.object "FlagLaundry$State")
  | _ => .array (.object "FlagLaundry$State")
theorem nmX1 : ∀ a, a < 5 → ∀ b, b < 5 → a ≠ b → (TX1 a).2.1 ≠ (TX1 b).2.1 := by decide +kernel
theorem tyX1_ok : ∀ k, k < 5 → parseFieldDescriptor (TX1 k).2.2.1 = some (tyX1 k) := by decide +kernel
set_option maxRecDepth 100000 in
theorem ev_layX1 : GoodIn lw_tbl (u_ws RX1 TX1 5) := goodIn_r _ [425, 427, 429, 431, 433] rfl (by decide +kernel)
def RX2 : String := "FlagLaundry$Laundry"
def TX2 : u_T := fun k => match k with
  | 0 => ("FlagLaundry$Laundry", "setup", "LFlagLaundry$Setup;", true)
  | 1 => ("FlagLaundry$Laundry", "state", "LFlagLaundry$State;", true)
  | _ => ("FlagLaundry$Laundry", "groupOf", "[I", true)
def tyX2 : Nat → FieldType := fun k => match k with
  | 0 => .object "FlagLaundry$Setup"
  | 1 => .object "FlagLaundry$State"
  | _ => .array .int
theorem nmX2 : ∀ a, a < 3 → ∀ b, b < 3 → a ≠ b → (TX2 a).2.1 ≠ (TX2 b).2.1 := by decide +kernel
theorem tyX2_ok : ∀ k, k < 3 → parseFieldDescriptor (TX2 k).2.2.1 = some (tyX2 k) := by decide +kernel
set_option maxRecDepth 100000 in
theorem ev_layX2 : GoodIn lw_tbl (u_ws RX2 TX2 3) := goodIn_r _ [366, 368, 370] rfl (by decide +kernel)
def RX3 : String := "FlagLaundry$Parser"
def TX3 : u_T := fun k => match k with
  | 0 => ("FlagLaundry$Parser", "errorCode", "I", false)
  | 1 => ("FlagLaundry$Parser", "errorPosition", "I", false)
  | 2 => ("FlagLaundry$Parser", "bytes", "[B", false)
  | 3 => ("FlagLaundry$Parser", "length", "I", false)
  | 4 => ("FlagLaundry$Parser", "position", "I", false)
  | 5 => ("FlagLaundry$Parser", "kind", "I", false)
  | 6 => ("FlagLaundry$Parser", "start", "I", false)
  | 7 => ("FlagLaundry$Parser", "value", "I", false)
  | _ => ("FlagLaundry$Parser", "laundry", "LFlagLaundry$Laundry;", false)
def tyX3 : Nat → FieldType := fun k => match k with
  | 0 => .int
  | 1 => .int
  | 2 => .array .byte
  | 3 => .int
  | 4 => .int
  | 5 => .int
  | 6 => .int
  | 7 => .int
  | _ => .object "FlagLaundry$Laundry"
theorem nmX3 : ∀ a, a < 9 → ∀ b, b < 9 → a ≠ b → (TX3 a).2.1 ≠ (TX3 b).2.1 := by decide +kernel
theorem tyX3_ok : ∀ k, k < 9 → parseFieldDescriptor (TX3 k).2.2.1 = some (tyX3 k) := by decide +kernel
set_option maxRecDepth 100000 in
theorem ev_layX3 : GoodIn lw_tbl (u_ws RX3 TX3 9) := goodIn_r _ [390, 392, 394, 396, 398, 400, 402, 404, 406] rfl (by decide +kernel)
def RX4 : String := "FlagLaundry$Setup"
def TX4 : u_T := fun k => match k with
  | 0 => ("FlagLaundry$Setup", "pegs", "I", false)
  | 1 => ("FlagLaundry$Setup", "colours", "I", false)
  | 2 => ("FlagLaundry$Setup", "nations", "I", false)
  | 3 => ("FlagLaundry$Setup", "tubs", "I", false)
  | 4 => ("FlagLaundry$Setup", "runs", "[I", true)
  | 5 => ("FlagLaundry$Setup", "due", "[I", true)
  | 6 => ("FlagLaundry$Setup", "fee", "[I", true)
  | 7 => ("FlagLaundry$Setup", "fine", "[I", true)
  | _ => ("FlagLaundry$Setup", "room", "[I", true)
def tyX4 : Nat → FieldType := fun k => match k with
  | 0 => .int
  | 1 => .int
  | 2 => .int
  | 3 => .int
  | 4 => .array .int
  | 5 => .array .int
  | 6 => .array .int
  | 7 => .array .int
  | _ => .array .int
theorem nmX4 : ∀ a, a < 9 → ∀ b, b < 9 → a ≠ b → (TX4 a).2.1 ≠ (TX4 b).2.1 := by decide +kernel
theorem tyX4_ok : ∀ k, k < 9 → parseFieldDescriptor (TX4 k).2.2.1 = some (tyX4 k) := by decide +kernel
set_option maxRecDepth 100000 in
theorem ev_layX4 : GoodIn lw_tbl (u_ws RX4 TX4 9) := goodIn_r _ [202, 204, 206, 208, 210, 212, 214, 216, 218] rfl (by decide +kernel)
def RX5 : String := "FlagLaundry$State"
def TX5 : u_T := fun k => match k with
  | 0 => ("FlagLaundry$State", "hour", "I", false)
  | 1 => ("FlagLaundry$State", "wind", "I", false)
  | 2 => ("FlagLaundry$State", "earned", "I", false)
  | 3 => ("FlagLaundry$State", "fined", "I", false)
  | 4 => ("FlagLaundry$State", "washes", "I", false)
  | 5 => ("FlagLaundry$State", "falls", "I", false)
  | 6 => ("FlagLaundry$State", "flagCount", "I", false)
  | 7 => ("FlagLaundry$State", "flags", "[LFlagLaundry$Flag;", true)
  | 8 => ("FlagLaundry$State", "tubSizes", "[I", true)
  | 9 => ("FlagLaundry$State", "tubFlags", "[I", true)
  | 10 => ("FlagLaundry$State", "pegs", "[I", true)
  | _ => ("FlagLaundry$State", "lateThen", "[I", true)
def tyX5 : Nat → FieldType := fun k => match k with
  | 0 => .int
  | 1 => .int
  | 2 => .int
  | 3 => .int
  | 4 => .int
  | 5 => .int
  | 6 => .int
  | 7 => .array (.object "FlagLaundry$Flag")
  | 8 => .array .int
  | 9 => .array .int
  | 10 => .array .int
  | _ => .array .int
theorem nmX5 : ∀ a, a < 12 → ∀ b, b < 12 → a ≠ b → (TX5 a).2.1 ≠ (TX5 b).2.1 := by decide +kernel
theorem tyX5_ok : ∀ k, k < 12 → parseFieldDescriptor (TX5 k).2.2.1 = some (tyX5 k) := by decide +kernel
set_option maxRecDepth 100000 in
theorem ev_layX5 : GoodIn lw_tbl (u_ws RX5 TX5 12) := goodIn_r _ [334, 336, 338, 340, 342, 344, 346, 348, 350, 352, 354, 356] rfl (by decide +kernel)
def RX6 : String := "FlagLaundry$Text"
def TX6 : u_T := fun k => match k with
  | 0 => ("FlagLaundry$Text", "length", "I", false)
  | _ => ("FlagLaundry$Text", "bytes", "[I", true)
def tyX6 : Nat → FieldType := fun k => match k with
  | 0 => .int
  | _ => .array .int
theorem nmX6 : ∀ a, a < 2 → ∀ b, b < 2 → a ≠ b → (TX6 a).2.1 ≠ (TX6 b).2.1 := by decide +kernel
theorem tyX6_ok : ∀ k, k < 2 → parseFieldDescriptor (TX6 k).2.2.1 = some (tyX6 k) := by decide +kernel
set_option maxRecDepth 100000 in
theorem ev_layX6 : GoodIn lw_tbl (u_ws RX6 TX6 2) := goodIn_r _ [447, 449] rfl (by decide +kernel)
def RX7 : String := "FlagLaundry"
def TX7 : u_T := fun k => match k with
  | 0 => ("FlagLaundry", "buffer", "[B", true)
  | 1 => ("FlagLaundry", "buffered", "I", false)
  | 2 => ("FlagLaundry", "parseError", "I", false)
  | 3 => ("FlagLaundry", "errorPosition", "I", false)
  | 4 => ("FlagLaundry", "loaded", "Z", false)
  | 5 => ("FlagLaundry", "now", "LFlagLaundry$Laundry;", false)
  | 6 => ("FlagLaundry", "spare", "LFlagLaundry$Laundry;", false)
  | 7 => ("FlagLaundry", "parser", "LFlagLaundry$Parser;", true)
  | 8 => ("FlagLaundry", "history", "LFlagLaundry$History;", true)
  | _ => ("FlagLaundry", "text", "LFlagLaundry$Text;", true)
def tyX7 : Nat → FieldType := fun k => match k with
  | 0 => .array .byte
  | 1 => .int
  | 2 => .int
  | 3 => .int
  | 4 => .boolean
  | 5 => .object "FlagLaundry$Laundry"
  | 6 => .object "FlagLaundry$Laundry"
  | 7 => .object "FlagLaundry$Parser"
  | 8 => .object "FlagLaundry$History"
  | _ => .object "FlagLaundry$Text"
theorem nmX7 : ∀ a, a < 10 → ∀ b, b < 10 → a ≠ b → (TX7 a).2.1 ≠ (TX7 b).2.1 := by decide +kernel
theorem tyX7_ok : ∀ k, k < 10 → parseFieldDescriptor (TX7 k).2.2.1 = some (tyX7 k) := by decide +kernel
set_option maxRecDepth 100000 in
theorem ev_layX7 : GoodIn lw_tbl (u_ws RX7 TX7 10) := goodIn_r _ [462, 464, 466, 468, 470, 472, 474, 476, 478, 480] rfl (by decide +kernel)
def RX8 : String := "FlagLaundryModel"
def TX8 : u_T := fun k => match k with
  | 0 => ("FlagLaundryModel", "thrown", "I", false)
  | 1 => ("FlagLaundryModel", "now", "[I", true)
  | 2 => ("FlagLaundryModel", "aside", "[I", true)
  | 3 => ("FlagLaundryModel", "undos", "[I", true)
  | 4 => ("FlagLaundryModel", "saved", "[I", true)
  | 5 => ("FlagLaundryModel", "isSaved", "[Z", true)
  | 6 => ("FlagLaundryModel", "isThere", "Z", false)
  | 7 => ("FlagLaundryModel", "undoMany", "I", false)
  | 8 => ("FlagLaundryModel", "buffer", "[B", true)
  | 9 => ("FlagLaundryModel", "buffered", "I", false)
  | 10 => ("FlagLaundryModel", "parseCode", "I", false)
  | 11 => ("FlagLaundryModel", "parseAt", "I", false)
  | 12 => ("FlagLaundryModel", "size", "I", false)
  | 13 => ("FlagLaundryModel", "cursor", "I", false)
  | 14 => ("FlagLaundryModel", "start", "I", false)
  | 15 => ("FlagLaundryModel", "token", "I", false)
  | 16 => ("FlagLaundryModel", "told", "I", false)
  | 17 => ("FlagLaundryModel", "group", "[I", true)
  | 18 => ("FlagLaundryModel", "page", "[B", true)
  | _ => ("FlagLaundryModel", "pageSize", "I", false)
def tyX8 : Nat → FieldType := fun k => match k with
  | 0 => .int
  | 1 => .array .int
  | 2 => .array .int
  | 3 => .array .int
  | 4 => .array .int
  | 5 => .array .boolean
  | 6 => .boolean
  | 7 => .int
  | 8 => .array .byte
  | 9 => .int
  | 10 => .int
  | 11 => .int
  | 12 => .int
  | 13 => .int
  | 14 => .int
  | 15 => .int
  | 16 => .int
  | 17 => .array .int
  | 18 => .array .byte
  | _ => .int
theorem nmX8 : ∀ a, a < 20 → ∀ b, b < 20 → a ≠ b → (TX8 a).2.1 ≠ (TX8 b).2.1 := by decide +kernel
theorem tyX8_ok : ∀ k, k < 20 → parseFieldDescriptor (TX8 k).2.2.1 = some (tyX8 k) := by decide +kernel
set_option maxRecDepth 100000 in
theorem ev_layX8 : GoodIn lw_tbl (u_ws RX8 TX8 20) := goodIn_r _ [1671, 1673, 1675, 1677, 1679, 1681, 1683, 1685, 1687, 1689, 1691, 1693, 1695, 1697, 1699, 1701, 1703, 1705, 1707, 1709] rfl (by decide +kernel)
abbrev vwCl : List vw_C := [(RX0, TX0, 10), (RX1, TX1, 5), (RX2, TX2, 3), (RX3, TX3, 9), (RX4, TX4, 9), (RX5, TX5, 12), (RX6, TX6, 2), (RX7, TX7, 10), (RX8, TX8, 20)]
def ev_own : List String := ["FlagLaundry$Flag", "FlagLaundry$History", "FlagLaundry$Laundry", "FlagLaundry$Parser", "FlagLaundry$Setup", "FlagLaundry$State", "FlagLaundry$Text", "FlagLaundry", "FlagLaundryModel", "FlagLaundryLaw", "java/util/Arrays", "java/lang/Integer"]
/-- kinds of the fields: 0 a number, 1 a boolean, 2 a reference -/
def ev_ft : List (List Nat) := [[0, 0, 0, 0, 0, 0, 0, 0, 0, 0], [0, 2, 0, 2, 2], [2, 2, 2], [0, 0, 2, 0, 0, 0, 0, 0, 2], [0, 0, 0, 0, 2, 2, 2, 2, 2], [0, 0, 0, 0, 0, 0, 0, 2, 2, 2, 2, 2], [0, 2], [2, 0, 0, 0, 1, 2, 2, 2, 2, 2], [0, 2, 2, 2, 2, 2, 1, 0, 2, 0, 0, 0, 0, 0, 0, 0, 0, 2, 2, 0]]
/-- a method: its class's place, name, code, locals, answer, arguments (the receiver not counted), kind (0 static, 1 virtual, 2 a constructor, 3 one of a nest mate), frames, locals' words, handlers -/
abbrev ev_ME : Type := Nat × MethodName × ByteArray × Nat × Option FieldType × Nat × Nat × Nat × Nat × List (Nat × Nat × Nat × Nat)
def ev_own1 (e : ev_ME) : Nat := e.1
def ev_y (e : ev_ME) : MethodName := e.2.1
def ev_by (e : ev_ME) : ByteArray := e.2.2.1
def ev_ml (e : ev_ME) : Nat := e.2.2.2.1
def ev_rt (e : ev_ME) : Option FieldType := e.2.2.2.2.1
def ev_na (e : ev_ME) : Nat := e.2.2.2.2.2.1
def ev_kd (e : ev_ME) : Nat := e.2.2.2.2.2.2.1
def ev_fr (e : ev_ME) : Nat := e.2.2.2.2.2.2.2.1
def ev_lo (e : ev_ME) : Nat := e.2.2.2.2.2.2.2.2.1
def ev_hh (e : ev_ME) : List (Nat × Nat × Nat × Nat) := e.2.2.2.2.2.2.2.2.2
def ev_cw (e : ev_ME) : Cond := match ev_hh e with
  | [] => .code (ev_y e) (ev_by e) (ev_ml e) (ev_rt e)
  | h :: r => .codeWith (ev_y e) (ev_by e) (ev_ml e) (ev_rt e) (h :: r)
def ev_mw (e : ev_ME) : List Cond := ev_cw e :: .initialized (ev_y e).cls :: (match ev_kd e with
  | 0 => [.static (ev_y e)]
  | 1 => [.instanceMethod (ev_y e), .selects (ev_y e).cls (ev_y e) (ev_y e)]
  | _ => [.instanceMethod (ev_y e)])
def ev_ms_0 : List ev_ME := [(0, ⟨"FlagLaundry$Flag", "<init>", "()V"⟩, prog_2_method_1_code, 1, none, 0, 3, 1, 21, []),
  (0, ⟨"FlagLaundry$Flag", "begin", "(IIII)V"⟩, prog_2_method_2_code, 5, none, 4, 1, 1, 22, []),
  (0, ⟨"FlagLaundry$Flag", "become", "(LFlagLaundry$Flag;)V"⟩, prog_2_method_3_code, 2, none, 1, 1, 0, 0, []),
  (0, ⟨"FlagLaundry$Flag", "moveTo", "(II)V"⟩, prog_2_method_4_code, 3, none, 2, 1, 0, 0, []),
  (0, ⟨"FlagLaundry$Flag", "allReasons", "()I"⟩, prog_2_method_5_code, 1, some FieldType.int, 0, 1, 0, 0, []),
  (0, ⟨"FlagLaundry$Flag", "firstReason", "()I"⟩, prog_2_method_6_code, 3, some FieldType.int, 0, 1, 1, 20, []),
  (0, ⟨"FlagLaundry$Flag", "isReady", "()Z"⟩, prog_2_method_7_code, 1, some FieldType.boolean, 0, 1, 1, 20, []),
  (0, ⟨"FlagLaundry$Flag", "bears", "(I)Z"⟩, prog_2_method_8_code, 2, some FieldType.boolean, 1, 1, 0, 0, []),
  (0, ⟨"FlagLaundry$Flag", "reasonAgainstIron", "(I)I"⟩, prog_2_method_9_code, 2, some FieldType.int, 1, 1, 1, 21, []),
  (0, ⟨"FlagLaundry$Flag", "reasonAgainstBleach", "()I"⟩, prog_2_method_10_code, 1, some FieldType.int, 0, 1, 0, 0, []),
  (0, ⟨"FlagLaundry$Flag", "carried", "()I"⟩, prog_2_method_11_code, 1, some FieldType.int, 0, 1, 0, 0, []),
  (0, ⟨"FlagLaundry$Flag", "newStains", "(I)I"⟩, prog_2_method_12_code, 2, some FieldType.int, 1, 1, 0, 0, []),
  (0, ⟨"FlagLaundry$Flag", "dirtAfterWash", "(I)I"⟩, prog_2_method_13_code, 2, some FieldType.int, 1, 1, 1, 21, []),
  (0, ⟨"FlagLaundry$Flag", "takeWash", "(II)V"⟩, prog_2_method_14_code, 3, none, 2, 1, 2, 42, []),
  (0, ⟨"FlagLaundry$Flag", "takeFall", "()V"⟩, prog_2_method_15_code, 1, none, 0, 1, 1, 21, []),
  (0, ⟨"FlagLaundry$Flag", "creaseAfterIron", "(III)I"⟩, prog_2_method_16_code, 3, some FieldType.int, 3, 0, 1, 21, [])]
def ev_ms_1 : List ev_ME := [(0, ⟨"FlagLaundry$Flag", "wetAfterIron", "(II)I"⟩, prog_2_method_17_code, 2, some FieldType.int, 2, 0, 1, 21, []),
  (0, ⟨"FlagLaundry$Flag", "takeIron", "(I)V"⟩, prog_2_method_18_code, 2, none, 1, 1, 2, 43, []),
  (0, ⟨"FlagLaundry$Flag", "takeBleach", "()I"⟩, prog_2_method_19_code, 2, some FieldType.int, 0, 1, 1, 20, []),
  (0, ⟨"FlagLaundry$Flag", "washesUntilClean", "()I"⟩, prog_2_method_20_code, 3, some FieldType.int, 0, 1, 0, 0, []),
  (0, ⟨"FlagLaundry$Flag", "ironsUntilSmooth", "(I)I"⟩, prog_2_method_21_code, 5, some FieldType.int, 1, 1, 2, 43, []),
  (1, ⟨"FlagLaundry$History", "<init>", "()V"⟩, prog_3_method_1_code, 2, none, 0, 2, 3, 62, []),
  (1, ⟨"FlagLaundry$History", "forgetChanges", "()V"⟩, prog_3_method_2_code, 1, none, 0, 1, 0, 0, []),
  (1, ⟨"FlagLaundry$History", "forgetAll", "()V"⟩, prog_3_method_3_code, 2, none, 0, 1, 1, 20, []),
  (1, ⟨"FlagLaundry$History", "keep", "(LFlagLaundry$State;)V"⟩, prog_3_method_4_code, 2, none, 1, 1, 2, 62, []),
  (1, ⟨"FlagLaundry$History", "takeBack", "(LFlagLaundry$State;)V"⟩, prog_3_method_5_code, 2, none, 1, 1, 2, 62, []),
  (1, ⟨"FlagLaundry$History", "saveIn", "(ILFlagLaundry$State;)V"⟩, prog_3_method_6_code, 3, none, 2, 1, 2, 62, []),
  (1, ⟨"FlagLaundry$History", "fetchFrom", "(ILFlagLaundry$State;)V"⟩, prog_3_method_7_code, 3, none, 2, 1, 2, 62, []),
  (2, ⟨"FlagLaundry$Laundry", "<init>", "()V"⟩, prog_4_method_1_code, 1, none, 0, 2, 3, 62, []),
  (2, ⟨"FlagLaundry$Laundry", "clear", "()V"⟩, prog_4_method_2_code, 1, none, 0, 1, 2, 43, []),
  (2, ⟨"FlagLaundry$Laundry", "greatestHeat", "(I)I"⟩, prog_4_method_3_code, 4, some FieldType.int, 1, 1, 1, 22, []),
  (2, ⟨"FlagLaundry$Laundry", "dirtIn", "(I)I"⟩, prog_4_method_4_code, 4, some FieldType.int, 1, 1, 1, 22, [])]
def ev_ms_2 : List ev_ME := [(2, ⟨"FlagLaundry$Laundry", "coloursIn", "(I)I"⟩, prog_4_method_5_code, 4, some FieldType.int, 1, 1, 1, 22, []),
  (2, ⟨"FlagLaundry$Laundry", "carriedIn", "(I)I"⟩, prog_4_method_6_code, 4, some FieldType.int, 1, 1, 1, 22, []),
  (2, ⟨"FlagLaundry$Laundry", "runningIn", "(II)I"⟩, prog_4_method_7_code, 3, some FieldType.int, 2, 1, 2, 45, []),
  (2, ⟨"FlagLaundry$Laundry", "stainedBy", "(II)I"⟩, prog_4_method_8_code, 5, some FieldType.int, 2, 1, 1, 22, []),
  (2, ⟨"FlagLaundry$Laundry", "dirtLeftIn", "(II)I"⟩, prog_4_method_9_code, 5, some FieldType.int, 2, 1, 2, 42, []),
  (2, ⟨"FlagLaundry$Laundry", "reasonAgainstPut", "(II)I"⟩, prog_4_method_10_code, 3, some FieldType.int, 2, 1, 0, 0, []),
  (2, ⟨"FlagLaundry$Laundry", "reasonAgainstWash", "(II)I"⟩, prog_4_method_11_code, 3, some FieldType.int, 2, 1, 2, 45, []),
  (2, ⟨"FlagLaundry$Laundry", "washTub", "(II)I"⟩, prog_4_method_12_code, 6, some FieldType.int, 2, 1, 3, 64, []),
  (2, ⟨"FlagLaundry$Laundry", "bestHeatFor", "(I)I"⟩, prog_4_method_13_code, 7, some FieldType.int, 1, 1, 3, 67, []),
  (2, ⟨"FlagLaundry$Laundry", "firstSafeFor", "(II)I"⟩, prog_4_method_14_code, 4, some FieldType.int, 2, 1, 3, 70, []),
  (2, ⟨"FlagLaundry$Laundry", "isSafeWith", "(LFlagLaundry$Flag;II)Z"⟩, prog_4_method_15_code, 5, some FieldType.boolean, 3, 1, 2, 46, []),
  (2, ⟨"FlagLaundry$Laundry", "mixing", "(III)I"⟩, prog_4_method_16_code, 7, some FieldType.int, 3, 1, 1, 23, []),
  (2, ⟨"FlagLaundry$Laundry", "groupsOfDirty", "(I)I"⟩, prog_4_method_17_code, 6, some FieldType.int, 1, 1, 4, 97, []),
  (2, ⟨"FlagLaundry$Laundry", "firstGroupFor", "(III)I"⟩, prog_4_method_18_code, 5, some FieldType.int, 3, 1, 3, 73, []),
  (2, ⟨"FlagLaundry$Laundry", "mixesInGroup", "(III)Z"⟩, prog_4_method_19_code, 5, some FieldType.boolean, 3, 1, 2, 49, []),
  (2, ⟨"FlagLaundry$Laundry", "purestInBasket", "(I)I"⟩, prog_4_method_20_code, 6, some FieldType.int, 1, 1, 3, 73, [])]
def ev_ms_3 : List ev_ME := [(2, ⟨"FlagLaundry$Laundry", "mixesInBasket", "(II)I"⟩, prog_4_method_21_code, 5, some FieldType.int, 2, 1, 2, 49, []),
  (2, ⟨"FlagLaundry$Laundry", "firstFreePeg", "()I"⟩, prog_4_method_22_code, 2, some FieldType.int, 0, 1, 0, 0, []),
  (2, ⟨"FlagLaundry$Laundry", "canHang", "(I)Z"⟩, prog_4_method_23_code, 2, some FieldType.boolean, 1, 1, 1, 21, []),
  (2, ⟨"FlagLaundry$Laundry", "hangOnFirstFree", "(I)I"⟩, prog_4_method_24_code, 3, some FieldType.int, 1, 1, 2, 44, []),
  (2, ⟨"FlagLaundry$Laundry", "hangAllWet", "()I"⟩, prog_4_method_25_code, 3, some FieldType.int, 0, 1, 3, 66, []),
  (2, ⟨"FlagLaundry$Laundry", "lateAt", "(II)I"⟩, prog_4_method_26_code, 3, some FieldType.int, 2, 1, 1, 21, []),
  (2, ⟨"FlagLaundry$Laundry", "hoursLate", "(I)I"⟩, prog_4_method_27_code, 2, some FieldType.int, 1, 1, 2, 43, []),
  (2, ⟨"FlagLaundry$Laundry", "payForEach", "(II)I"⟩, prog_4_method_28_code, 3, some FieldType.int, 2, 1, 2, 43, []),
  (2, ⟨"FlagLaundry$Laundry", "payAhead", "(II)I"⟩, prog_4_method_29_code, 3, some FieldType.int, 2, 1, 3, 65, []),
  (2, ⟨"FlagLaundry$Laundry", "lastPaidHour", "(I)I"⟩, prog_4_method_30_code, 4, some FieldType.int, 1, 1, 1, 23, []),
  (2, ⟨"FlagLaundry$Laundry", "nationLosingMost", "()I"⟩, prog_4_method_31_code, 5, some FieldType.int, 0, 1, 4, 87, []),
  (2, ⟨"FlagLaundry$Laundry", "canHandOver", "(I)Z"⟩, prog_4_method_32_code, 2, some FieldType.boolean, 1, 1, 3, 62, []),
  (2, ⟨"FlagLaundry$Laundry", "handOverAll", "(I)I"⟩, prog_4_method_33_code, 4, some FieldType.int, 1, 1, 4, 87, []),
  (2, ⟨"FlagLaundry$Laundry", "sumsThatDiffer", "()I"⟩, prog_4_method_34_code, 6, some FieldType.int, 0, 1, 1, 23, []),
  (3, ⟨"FlagLaundry$Parser", "<init>", "()V"⟩, prog_5_method_1_code, 1, none, 0, 2, 1, 21, []),
  (3, ⟨"FlagLaundry$Parser", "read", "([BILFlagLaundry$Laundry;)V"⟩, prog_5_method_2_code, 5, none, 3, 1, 6, 131, [])]
def ev_ms_4 : List ev_ME := [(3, ⟨"FlagLaundry$Parser", "failed", "()Z"⟩, prog_5_method_3_code, 1, some FieldType.boolean, 0, 1, 0, 0, []),
  (3, ⟨"FlagLaundry$Parser", "fail", "(I)V"⟩, prog_5_method_4_code, 2, none, 1, 1, 0, 0, []),
  (3, ⟨"FlagLaundry$Parser", "isLetterAt", "(I)Z"⟩, prog_5_method_5_code, 2, some FieldType.boolean, 1, 1, 0, 0, []),
  (3, ⟨"FlagLaundry$Parser", "isDigitAt", "(I)Z"⟩, prog_5_method_6_code, 2, some FieldType.boolean, 1, 1, 0, 0, []),
  (3, ⟨"FlagLaundry$Parser", "skipBlanks", "()V"⟩, prog_5_method_7_code, 1, none, 0, 1, 0, 0, []),
  (3, ⟨"FlagLaundry$Parser", "next", "()V"⟩, prog_5_method_8_code, 2, none, 0, 1, 1, 21, []),
  (3, ⟨"FlagLaundry$Parser", "isWord", "(Ljava/lang/String;)Z"⟩, prog_5_method_9_code, 3, some FieldType.boolean, 1, 1, 3, 70, []),
  (3, ⟨"FlagLaundry$Parser", "numberFollows", "()Z"⟩, prog_5_method_10_code, 1, some FieldType.boolean, 0, 1, 1, 21, []),
  (3, ⟨"FlagLaundry$Parser", "number", "(II)I"⟩, prog_5_method_11_code, 3, some FieldType.int, 2, 1, 2, 42, []),
  (3, ⟨"FlagLaundry$Parser", "readFirstLine", "()V"⟩, prog_5_method_12_code, 2, none, 0, 1, 4, 92, []),
  (3, ⟨"FlagLaundry$Parser", "readEnd", "()V"⟩, prog_5_method_13_code, 2, none, 0, 1, 1, 21, []),
  (3, ⟨"FlagLaundry$Parser", "readLine", "()V"⟩, prog_5_method_14_code, 1, none, 0, 1, 5, 111, []),
  (3, ⟨"FlagLaundry$Parser", "needPlaceFor", "(II)V"⟩, prog_5_method_15_code, 3, none, 2, 1, 1, 21, []),
  (3, ⟨"FlagLaundry$Parser", "readColour", "()V"⟩, prog_5_method_16_code, 2, none, 0, 1, 3, 64, []),
  (3, ⟨"FlagLaundry$Parser", "readNation", "()V"⟩, prog_5_method_17_code, 4, none, 0, 1, 3, 64, []),
  (3, ⟨"FlagLaundry$Parser", "readTub", "()V"⟩, prog_5_method_18_code, 2, none, 0, 1, 3, 64, [])]
def ev_ms_5 : List ev_ME := [(3, ⟨"FlagLaundry$Parser", "readFlag", "()V"⟩, prog_5_method_19_code, 7, none, 0, 1, 3, 71, []),
  (3, ⟨"FlagLaundry$Parser", "readPut", "()V"⟩, prog_5_method_20_code, 3, none, 0, 1, 3, 64, []),
  (3, ⟨"FlagLaundry$Parser", "readWash", "()V"⟩, prog_5_method_21_code, 3, none, 0, 1, 4, 89, []),
  (3, ⟨"FlagLaundry$Parser", "readHang", "()V"⟩, prog_5_method_22_code, 2, none, 0, 1, 3, 66, []),
  (3, ⟨"FlagLaundry$Parser", "readWind", "()V"⟩, prog_5_method_23_code, 2, none, 0, 1, 3, 64, []),
  (3, ⟨"FlagLaundry$Parser", "readPass", "()V"⟩, prog_5_method_24_code, 2, none, 0, 1, 4, 86, []),
  (4, ⟨"FlagLaundry$Setup", "<init>", "()V"⟩, prog_6_method_1_code, 1, none, 0, 2, 1, 21, []),
  (4, ⟨"FlagLaundry$Setup", "clear", "()V"⟩, prog_6_method_2_code, 1, none, 0, 1, 0, 0, []),
  (4, ⟨"FlagLaundry$Setup", "bringColour", "(I)V"⟩, prog_6_method_3_code, 2, none, 1, 1, 0, 0, []),
  (4, ⟨"FlagLaundry$Setup", "bringNation", "(III)V"⟩, prog_6_method_4_code, 4, none, 3, 1, 0, 0, []),
  (4, ⟨"FlagLaundry$Setup", "bringTub", "(I)V"⟩, prog_6_method_5_code, 2, none, 1, 1, 0, 0, []),
  (4, ⟨"FlagLaundry$Setup", "allColours", "()I"⟩, prog_6_method_6_code, 1, some FieldType.int, 0, 1, 0, 0, []),
  (4, ⟨"FlagLaundry$Setup", "runningWith", "(I)I"⟩, prog_6_method_7_code, 4, some FieldType.int, 1, 1, 0, 0, []),
  (5, ⟨"FlagLaundry$State", "<init>", "()V"⟩, prog_7_method_1_code, 2, none, 0, 2, 2, 41, []),
  (5, ⟨"FlagLaundry$State", "clear", "()V"⟩, prog_7_method_2_code, 1, none, 0, 1, 1, 23, []),
  (5, ⟨"FlagLaundry$State", "become", "(LFlagLaundry$State;)V"⟩, prog_7_method_3_code, 3, none, 1, 1, 1, 40, [])]
def ev_ms_6 : List ev_ME := [(5, ⟨"FlagLaundry$State", "bringFlag", "(IIII)I"⟩, prog_7_method_4_code, 6, some FieldType.int, 4, 1, 2, 46, []),
  (5, ⟨"FlagLaundry$State", "flagInTub", "(II)I"⟩, prog_7_method_5_code, 3, some FieldType.int, 2, 1, 0, 0, []),
  (5, ⟨"FlagLaundry$State", "flagObjectInTub", "(II)LFlagLaundry$Flag;"⟩, prog_7_method_6_code, 3, some (FieldType.object "FlagLaundry$Flag"), 2, 1, 0, 0, []),
  (5, ⟨"FlagLaundry$State", "wasHandedOver", "(I)Z"⟩, prog_7_method_7_code, 2, some FieldType.boolean, 1, 1, 0, 0, []),
  (5, ⟨"FlagLaundry$State", "flagsAt", "(I)I"⟩, prog_7_method_8_code, 4, some FieldType.int, 1, 1, 0, 0, []),
  (5, ⟨"FlagLaundry$State", "readyFlags", "()I"⟩, prog_7_method_9_code, 3, some FieldType.int, 0, 1, 2, 40, []),
  (5, ⟨"FlagLaundry$State", "flagsOf", "(I)I"⟩, prog_7_method_10_code, 4, some FieldType.int, 1, 1, 0, 0, []),
  (5, ⟨"FlagLaundry$State", "readyFlagsOf", "(I)I"⟩, prog_7_method_11_code, 4, some FieldType.int, 1, 1, 2, 40, []),
  (5, ⟨"FlagLaundry$State", "firstNotReady", "(I)I"⟩, prog_7_method_12_code, 3, some FieldType.int, 1, 1, 2, 40, []),
  (5, ⟨"FlagLaundry$State", "flagsWithColour", "(I)I"⟩, prog_7_method_13_code, 4, some FieldType.int, 1, 1, 0, 0, []),
  (5, ⟨"FlagLaundry$State", "flagsStainedBy", "(I)I"⟩, prog_7_method_14_code, 4, some FieldType.int, 1, 1, 0, 0, []),
  (5, ⟨"FlagLaundry$State", "dirtOfAll", "()I"⟩, prog_7_method_15_code, 3, some FieldType.int, 0, 1, 0, 0, []),
  (5, ⟨"FlagLaundry$State", "wettestOnLine", "()I"⟩, prog_7_method_16_code, 4, some FieldType.int, 0, 1, 0, 0, []),
  (5, ⟨"FlagLaundry$State", "moveToTub", "(II)I"⟩, prog_7_method_17_code, 3, some FieldType.int, 2, 1, 1, 22, []),
  (5, ⟨"FlagLaundry$State", "moveToPeg", "(II)V"⟩, prog_7_method_18_code, 3, none, 2, 1, 1, 22, []),
  (5, ⟨"FlagLaundry$State", "moveToBasket", "(I)V"⟩, prog_7_method_19_code, 3, none, 1, 1, 1, 25, [])]
def ev_ms_7 : List ev_ME := [(5, ⟨"FlagLaundry$State", "dropFromTub", "(II)V"⟩, prog_7_method_20_code, 6, none, 2, 1, 0, 0, []),
  (5, ⟨"FlagLaundry$State", "emptyTub", "(I)I"⟩, prog_7_method_21_code, 4, some FieldType.int, 1, 1, 1, 22, []),
  (5, ⟨"FlagLaundry$State", "lastPegInUse", "()I"⟩, prog_7_method_22_code, 2, some FieldType.int, 0, 1, 0, 0, []),
  (5, ⟨"FlagLaundry$State", "passHours", "(I)I"⟩, prog_7_method_23_code, 4, some FieldType.int, 1, 1, 3, 63, []),
  (5, ⟨"FlagLaundry$State", "dryOnLine", "(I)V"⟩, prog_7_method_24_code, 3, none, 1, 1, 1, 21, []),
  (5, ⟨"FlagLaundry$State", "dropLastFromLine", "()V"⟩, prog_7_method_25_code, 3, none, 0, 1, 2, 41, []),
  (5, ⟨"FlagLaundry$State", "hoursToDry", "(II)I"⟩, prog_7_method_26_code, 6, some FieldType.int, 2, 1, 1, 23, []),
  (5, ⟨"FlagLaundry$State", "hoursUntilFall", "(I)I"⟩, prog_7_method_27_code, 4, some FieldType.int, 1, 1, 0, 0, []),
  (6, ⟨"FlagLaundry$Text", "<init>", "()V"⟩, prog_8_method_1_code, 1, none, 0, 2, 1, 21, []),
  (6, ⟨"FlagLaundry$Text", "add", "(I)V"⟩, prog_8_method_2_code, 2, none, 1, 1, 0, 0, []),
  (6, ⟨"FlagLaundry$Text", "addNumber", "(I)V"⟩, prog_8_method_3_code, 2, none, 1, 1, 1, 21, []),
  (6, ⟨"FlagLaundry$Text", "addBetween", "(I)V"⟩, prog_8_method_4_code, 2, none, 1, 1, 1, 21, []),
  (6, ⟨"FlagLaundry$Text", "addHyphenIfEmpty", "()V"⟩, prog_8_method_5_code, 1, none, 0, 1, 1, 21, []),
  (6, ⟨"FlagLaundry$Text", "letterOf", "(I)C"⟩, prog_8_method_6_code, 1, some FieldType.char, 1, 0, 0, 0, []),
  (6, ⟨"FlagLaundry$Text", "tellFlag", "(LFlagLaundry$Flag;)V"⟩, prog_8_method_7_code, 3, none, 1, 1, 2, 42, []),
  (6, ⟨"FlagLaundry$Text", "tellTub", "(LFlagLaundry$State;I)V"⟩, prog_8_method_8_code, 4, none, 2, 1, 2, 42, [])]
def ev_ms_8 : List ev_ME := [(6, ⟨"FlagLaundry$Text", "tellNation", "(LFlagLaundry$State;I)V"⟩, prog_8_method_9_code, 4, none, 2, 1, 2, 42, []),
  (6, ⟨"FlagLaundry$Text", "tellLine", "(LFlagLaundry$State;I)V"⟩, prog_8_method_10_code, 4, none, 2, 1, 2, 42, []),
  (7, ⟨"FlagLaundry", "<init>", "()V"⟩, prog_1_method_1_code, 1, none, 0, 2, 4, 83, []),
  (7, ⟨"FlagLaundry", "append", "(IIIII)I"⟩, prog_1_method_2_code, 6, some FieldType.int, 5, 1, 1, 22, []),
  (7, ⟨"FlagLaundry", "load", "(I)I"⟩, prog_1_method_3_code, 3, some FieldType.int, 1, 1, 7, 155, []),
  (7, ⟨"FlagLaundry", "parseError", "()I"⟩, prog_1_method_4_code, 1, some FieldType.int, 0, 1, 0, 0, []),
  (7, ⟨"FlagLaundry", "errorPosition", "()I"⟩, prog_1_method_5_code, 1, some FieldType.int, 0, 1, 0, 0, []),
  (7, ⟨"FlagLaundry", "buffered", "()I"⟩, prog_1_method_6_code, 1, some FieldType.int, 0, 1, 0, 0, []),
  (7, ⟨"FlagLaundry", "count", "(I)I"⟩, prog_1_method_7_code, 4, some FieldType.int, 1, 1, 7, 104, []),
  (7, ⟨"FlagLaundry", "colour", "(II)I"⟩, prog_1_method_8_code, 3, some FieldType.int, 2, 1, 7, 104, []),
  (7, ⟨"FlagLaundry", "nation", "(II)I"⟩, prog_1_method_9_code, 3, some FieldType.int, 2, 1, 8, 123, []),
  (7, ⟨"FlagLaundry", "flag", "(II)I"⟩, prog_1_method_10_code, 4, some FieldType.int, 2, 1, 8, 123, []),
  (7, ⟨"FlagLaundry", "tub", "(II)I"⟩, prog_1_method_11_code, 3, some FieldType.int, 2, 1, 8, 123, []),
  (7, ⟨"FlagLaundry", "inTub", "(II)I"⟩, prog_1_method_12_code, 3, some FieldType.int, 2, 1, 8, 123, []),
  (7, ⟨"FlagLaundry", "onPeg", "(I)I"⟩, prog_1_method_13_code, 2, some FieldType.int, 1, 1, 7, 102, []),
  (7, ⟨"FlagLaundry", "freePegs", "()I"⟩, prog_1_method_14_code, 1, some FieldType.int, 0, 1, 7, 102, [])]
def ev_ms_9 : List ev_ME := [(7, ⟨"FlagLaundry", "wettest", "()I"⟩, prog_1_method_15_code, 1, some FieldType.int, 0, 1, 7, 102, []),
  (7, ⟨"FlagLaundry", "gap", "()I"⟩, prog_1_method_16_code, 1, some FieldType.int, 0, 1, 7, 102, []),
  (7, ⟨"FlagLaundry", "why", "(I)I"⟩, prog_1_method_17_code, 2, some FieldType.int, 1, 1, 8, 123, []),
  (7, ⟨"FlagLaundry", "reasons", "(I)I"⟩, prog_1_method_18_code, 2, some FieldType.int, 1, 1, 8, 123, []),
  (7, ⟨"FlagLaundry", "culprit", "(I)I"⟩, prog_1_method_19_code, 2, some FieldType.int, 1, 1, 8, 123, []),
  (7, ⟨"FlagLaundry", "whyNotPut", "(II)I"⟩, prog_1_method_20_code, 3, some FieldType.int, 2, 1, 8, 123, []),
  (7, ⟨"FlagLaundry", "whyNotWash", "(II)I"⟩, prog_1_method_21_code, 3, some FieldType.int, 2, 1, 8, 124, []),
  (7, ⟨"FlagLaundry", "whyNotIron", "(II)I"⟩, prog_1_method_22_code, 3, some FieldType.int, 2, 1, 8, 124, []),
  (7, ⟨"FlagLaundry", "whyNotBleach", "(I)I"⟩, prog_1_method_23_code, 2, some FieldType.int, 1, 1, 8, 123, []),
  (7, ⟨"FlagLaundry", "running", "(II)I"⟩, prog_1_method_24_code, 3, some FieldType.int, 2, 1, 8, 124, []),
  (7, ⟨"FlagLaundry", "stainedIf", "(II)I"⟩, prog_1_method_25_code, 3, some FieldType.int, 2, 1, 8, 124, []),
  (7, ⟨"FlagLaundry", "dirtIf", "(II)I"⟩, prog_1_method_26_code, 3, some FieldType.int, 2, 1, 8, 124, []),
  (7, ⟨"FlagLaundry", "bestHeat", "(I)I"⟩, prog_1_method_27_code, 2, some FieldType.int, 1, 1, 8, 123, []),
  (7, ⟨"FlagLaundry", "firstSafe", "(II)I"⟩, prog_1_method_28_code, 3, some FieldType.int, 2, 1, 8, 124, []),
  (7, ⟨"FlagLaundry", "doNotMix", "(III)I"⟩, prog_1_method_29_code, 4, some FieldType.int, 3, 1, 8, 124, []),
  (7, ⟨"FlagLaundry", "groups", "(I)I"⟩, prog_1_method_30_code, 2, some FieldType.int, 1, 1, 8, 124, [])]
def ev_ms_10 : List ev_ME := [(7, ⟨"FlagLaundry", "purest", "(I)I"⟩, prog_1_method_31_code, 2, some FieldType.int, 1, 1, 8, 124, []),
  (7, ⟨"FlagLaundry", "washesFor", "(I)I"⟩, prog_1_method_32_code, 2, some FieldType.int, 1, 1, 8, 123, []),
  (7, ⟨"FlagLaundry", "dryIn", "(I)I"⟩, prog_1_method_33_code, 2, some FieldType.int, 1, 1, 8, 123, []),
  (7, ⟨"FlagLaundry", "dryByWind", "(II)I"⟩, prog_1_method_34_code, 3, some FieldType.int, 2, 1, 8, 123, []),
  (7, ⟨"FlagLaundry", "fallsIn", "(I)I"⟩, prog_1_method_35_code, 2, some FieldType.int, 1, 1, 7, 104, []),
  (7, ⟨"FlagLaundry", "payIf", "(II)I"⟩, prog_1_method_36_code, 3, some FieldType.int, 2, 1, 8, 123, []),
  (7, ⟨"FlagLaundry", "latest", "(I)I"⟩, prog_1_method_37_code, 2, some FieldType.int, 1, 1, 8, 123, []),
  (7, ⟨"FlagLaundry", "dearest", "()I"⟩, prog_1_method_38_code, 1, some FieldType.int, 0, 1, 7, 111, []),
  (7, ⟨"FlagLaundry", "ironsFor", "(II)I"⟩, prog_1_method_39_code, 3, some FieldType.int, 2, 1, 8, 124, []),
  (7, ⟨"FlagLaundry", "readyShare", "()F"⟩, prog_1_method_40_code, 2, some FieldType.float, 0, 1, 7, 102, []),
  (7, ⟨"FlagLaundry", "meanDirt", "()D"⟩, prog_1_method_41_code, 2, some FieldType.double, 0, 1, 7, 102, []),
  (7, ⟨"FlagLaundry", "writeFlag", "(I)I"⟩, prog_1_method_42_code, 2, some FieldType.int, 1, 1, 8, 123, []),
  (7, ⟨"FlagLaundry", "writeTub", "(I)I"⟩, prog_1_method_43_code, 2, some FieldType.int, 1, 1, 8, 123, []),
  (7, ⟨"FlagLaundry", "writeNation", "(I)I"⟩, prog_1_method_44_code, 2, some FieldType.int, 1, 1, 8, 123, []),
  (7, ⟨"FlagLaundry", "writeLine", "()I"⟩, prog_1_method_45_code, 1, some FieldType.int, 0, 1, 7, 102, []),
  (7, ⟨"FlagLaundry", "textByte", "(I)I"⟩, prog_1_method_46_code, 2, some FieldType.int, 1, 1, 6, 82, [])]
def ev_ms_11 : List ev_ME := [(7, ⟨"FlagLaundry", "put", "(II)I"⟩, prog_1_method_47_code, 3, some FieldType.int, 2, 1, 8, 123, []),
  (7, ⟨"FlagLaundry", "wash", "(II)I"⟩, prog_1_method_48_code, 3, some FieldType.int, 2, 1, 8, 124, []),
  (7, ⟨"FlagLaundry", "hang", "(I)I"⟩, prog_1_method_49_code, 2, some FieldType.int, 1, 1, 8, 123, []),
  (7, ⟨"FlagLaundry", "hangAll", "()I"⟩, prog_1_method_50_code, 1, some FieldType.int, 0, 1, 7, 102, []),
  (7, ⟨"FlagLaundry", "takeDown", "(I)I"⟩, prog_1_method_51_code, 3, some FieldType.int, 1, 1, 8, 123, []),
  (7, ⟨"FlagLaundry", "clearTub", "(I)I"⟩, prog_1_method_52_code, 2, some FieldType.int, 1, 1, 8, 123, []),
  (7, ⟨"FlagLaundry", "iron", "(II)I"⟩, prog_1_method_53_code, 4, some FieldType.int, 2, 1, 8, 124, []),
  (7, ⟨"FlagLaundry", "bleach", "(I)I"⟩, prog_1_method_54_code, 3, some FieldType.int, 1, 1, 8, 123, []),
  (7, ⟨"FlagLaundry", "handOver", "(I)I"⟩, prog_1_method_55_code, 2, some FieldType.int, 1, 1, 8, 123, []),
  (7, ⟨"FlagLaundry", "pass", "(I)I"⟩, prog_1_method_56_code, 2, some FieldType.int, 1, 1, 7, 104, []),
  (7, ⟨"FlagLaundry", "setWind", "(I)I"⟩, prog_1_method_57_code, 3, some FieldType.int, 1, 1, 7, 104, []),
  (7, ⟨"FlagLaundry", "addFlag", "(IIII)I"⟩, prog_1_method_58_code, 5, some FieldType.int, 4, 1, 8, 123, []),
  (7, ⟨"FlagLaundry", "undo", "()I"⟩, prog_1_method_59_code, 1, some FieldType.int, 0, 1, 6, 83, []),
  (7, ⟨"FlagLaundry", "undoable", "()I"⟩, prog_1_method_60_code, 1, some FieldType.int, 0, 1, 0, 0, []),
  (7, ⟨"FlagLaundry", "save", "(I)I"⟩, prog_1_method_61_code, 2, some FieldType.int, 1, 1, 7, 102, []),
  (7, ⟨"FlagLaundry", "restore", "(I)I"⟩, prog_1_method_62_code, 2, some FieldType.int, 1, 1, 7, 102, [])]
def ev_ms_12 : List ev_ME := [(7, ⟨"FlagLaundry", "needText", "()V"⟩, prog_1_method_63_code, 1, none, 0, 1, 6, 82, []),
  (7, ⟨"FlagLaundry", "needFlag", "(I)V"⟩, prog_1_method_64_code, 2, none, 1, 1, 7, 102, []),
  (7, ⟨"FlagLaundry", "needTub", "(I)V"⟩, prog_1_method_65_code, 2, none, 1, 1, 7, 102, []),
  (7, ⟨"FlagLaundry", "needNation", "(I)V"⟩, prog_1_method_66_code, 2, none, 1, 1, 7, 102, []),
  (7, ⟨"FlagLaundry", "needSlot", "(I)V"⟩, prog_1_method_67_code, 1, none, 1, 0, 6, 82, []),
  (7, ⟨"FlagLaundry", "needHeat", "(I)V"⟩, prog_1_method_68_code, 1, none, 1, 0, 7, 104, []),
  (7, ⟨"FlagLaundry", "needRange", "(III)V"⟩, prog_1_method_69_code, 3, none, 3, 0, 6, 82, []),
  (7, ⟨"FlagLaundry", "needAllowed", "(Z)V"⟩, prog_1_method_70_code, 1, none, 1, 0, 6, 82, []),
  (7, ⟨"FlagLaundry", "store", "(I)V"⟩, prog_1_method_71_code, 3, none, 1, 1, 0, 0, []),
  (8, ⟨"FlagLaundryModel", "<init>", "()V"⟩, prog_10_method_1_code, 1, none, 0, 2, 1, 21, []),
  (8, ⟨"FlagLaundryModel", "in", "(III)Z"⟩, prog_10_method_3_code, 3, some FieldType.boolean, 3, 0, 0, 0, []),
  (8, ⟨"FlagLaundryModel", "one", "(Z)I"⟩, prog_10_method_4_code, 1, some FieldType.int, 1, 0, 0, 0, []),
  (8, ⟨"FlagLaundryModel", "has", "(II)Z"⟩, prog_10_method_5_code, 2, some FieldType.boolean, 2, 0, 0, 0, []),
  (8, ⟨"FlagLaundryModel", "may", "(ZZZ)Z"⟩, prog_10_method_6_code, 4, some FieldType.boolean, 3, 1, 0, 0, []),
  (8, ⟨"FlagLaundryModel", "mayTwo", "(ZZ)Z"⟩, prog_10_method_7_code, 3, some FieldType.boolean, 2, 1, 1, 23, []),
  (8, ⟨"FlagLaundryModel", "mayLook", "()Z"⟩, prog_10_method_8_code, 1, some FieldType.boolean, 0, 1, 1, 23, [])]
def ev_ms_13 : List ev_ME := [(8, ⟨"FlagLaundryModel", "lays", "([II[II)V"⟩, prog_10_method_9_code, 5, none, 4, 0, 0, 0, []),
  (8, ⟨"FlagLaundryModel", "thinks", "()V"⟩, prog_10_method_10_code, 1, none, 0, 1, 1, 24, []),
  (8, ⟨"FlagLaundryModel", "back", "(I)I"⟩, prog_10_method_11_code, 2, some FieldType.int, 1, 1, 1, 24, []),
  (8, ⟨"FlagLaundryModel", "append", "(IIIII)I"⟩, prog_10_method_12_code, 6, some FieldType.int, 5, 1, 1, 22, []),
  (8, ⟨"FlagLaundryModel", "four", "(I)V"⟩, prog_10_method_13_code, 3, none, 1, 1, 0, 0, []),
  (8, ⟨"FlagLaundryModel", "parseError", "()I"⟩, prog_10_method_14_code, 1, some FieldType.int, 0, 1, 0, 0, []),
  (8, ⟨"FlagLaundryModel", "errorPosition", "()I"⟩, prog_10_method_15_code, 1, some FieldType.int, 0, 1, 0, 0, []),
  (8, ⟨"FlagLaundryModel", "buffered", "()I"⟩, prog_10_method_16_code, 1, some FieldType.int, 0, 1, 0, 0, []),
  (8, ⟨"FlagLaundryModel", "isLetter", "(I)Z"⟩, prog_10_method_17_code, 2, some FieldType.boolean, 1, 1, 1, 22, []),
  (8, ⟨"FlagLaundryModel", "isDigit", "(I)Z"⟩, prog_10_method_18_code, 2, some FieldType.boolean, 1, 1, 1, 22, []),
  (8, ⟨"FlagLaundryModel", "goes", "()V"⟩, prog_10_method_19_code, 1, none, 0, 1, 2, 43, []),
  (8, ⟨"FlagLaundryModel", "faults", "(I)V"⟩, prog_10_method_20_code, 2, none, 1, 1, 0, 0, []),
  (8, ⟨"FlagLaundryModel", "is", "(I)Z"⟩, prog_10_method_21_code, 2, some FieldType.boolean, 1, 1, 0, 0, []),
  (8, ⟨"FlagLaundryModel", "isWord", "(Ljava/lang/String;)Z"⟩, prog_10_method_22_code, 3, some FieldType.boolean, 1, 1, 3, 70, []),
  (8, ⟨"FlagLaundryModel", "numberHere", "(II)I"⟩, prog_10_method_23_code, 3, some FieldType.int, 2, 1, 1, 22, []),
  (8, ⟨"FlagLaundryModel", "number", "(II)I"⟩, prog_10_method_24_code, 4, some FieldType.int, 2, 1, 3, 63, [])]
def ev_ms_14 : List ev_ME := [(8, ⟨"FlagLaundryModel", "begins", "(II)V"⟩, prog_10_method_25_code, 3, none, 2, 1, 3, 63, []),
  (8, ⟨"FlagLaundryModel", "readsColour", "()V"⟩, prog_10_method_26_code, 2, none, 0, 1, 4, 86, []),
  (8, ⟨"FlagLaundryModel", "readsNation", "()V"⟩, prog_10_method_27_code, 5, none, 0, 1, 4, 86, []),
  (8, ⟨"FlagLaundryModel", "readsTub", "()V"⟩, prog_10_method_28_code, 2, none, 0, 1, 4, 86, []),
  (8, ⟨"FlagLaundryModel", "colourRead", "(I)I"⟩, prog_10_method_29_code, 3, some FieldType.int, 1, 1, 3, 63, []),
  (8, ⟨"FlagLaundryModel", "readsFlag", "()V"⟩, prog_10_method_30_code, 5, none, 0, 1, 4, 86, []),
  (8, ⟨"FlagLaundryModel", "readsPut", "()V"⟩, prog_10_method_31_code, 3, none, 0, 1, 5, 110, []),
  (8, ⟨"FlagLaundryModel", "readsWash", "()V"⟩, prog_10_method_32_code, 4, none, 0, 1, 6, 141, []),
  (8, ⟨"FlagLaundryModel", "readsHang", "()V"⟩, prog_10_method_33_code, 2, none, 0, 1, 5, 107, []),
  (8, ⟨"FlagLaundryModel", "readsWind", "()V"⟩, prog_10_method_34_code, 2, none, 0, 1, 4, 86, []),
  (8, ⟨"FlagLaundryModel", "readsPass", "()V"⟩, prog_10_method_35_code, 3, none, 0, 1, 6, 127, []),
  (8, ⟨"FlagLaundryModel", "readsThing", "()V"⟩, prog_10_method_36_code, 1, none, 0, 1, 8, 184, []),
  (8, ⟨"FlagLaundryModel", "readsDeed", "()V"⟩, prog_10_method_37_code, 1, none, 0, 1, 7, 164, []),
  (8, ⟨"FlagLaundryModel", "readsText", "()V"⟩, prog_10_method_38_code, 1, none, 0, 1, 9, 204, []),
  (8, ⟨"FlagLaundryModel", "load", "(I)I"⟩, prog_10_method_39_code, 3, some FieldType.int, 1, 1, 10, 224, []),
  (8, ⟨"FlagLaundryModel", "ofNation", "(II)I"⟩, prog_10_method_40_code, 3, some FieldType.int, 2, 1, 0, 0, [])]
def ev_ms_15 : List ev_ME := [(8, ⟨"FlagLaundryModel", "putsNation", "(III)V"⟩, prog_10_method_41_code, 4, none, 3, 1, 0, 0, []),
  (8, ⟨"FlagLaundryModel", "ofFlag", "(II)I"⟩, prog_10_method_42_code, 3, some FieldType.int, 2, 1, 0, 0, []),
  (8, ⟨"FlagLaundryModel", "putsFlag", "(III)V"⟩, prog_10_method_43_code, 4, none, 3, 1, 0, 0, []),
  (8, ⟨"FlagLaundryModel", "where", "(I)I"⟩, prog_10_method_44_code, 2, some FieldType.int, 1, 1, 1, 22, []),
  (8, ⟨"FlagLaundryModel", "isInBasket", "(I)Z"⟩, prog_10_method_45_code, 2, some FieldType.boolean, 1, 1, 2, 43, []),
  (8, ⟨"FlagLaundryModel", "isInTub", "(II)Z"⟩, prog_10_method_46_code, 3, some FieldType.boolean, 2, 1, 2, 43, []),
  (8, ⟨"FlagLaundryModel", "goesTo", "(III)V"⟩, prog_10_method_47_code, 4, none, 3, 1, 1, 23, []),
  (8, ⟨"FlagLaundryModel", "addsFlag", "(IIII)I"⟩, prog_10_method_48_code, 7, some FieldType.int, 4, 1, 2, 46, []),
  (8, ⟨"FlagLaundryModel", "applies", "(II)Z"⟩, prog_10_method_49_code, 3, some FieldType.boolean, 2, 1, 2, 43, []),
  (8, ⟨"FlagLaundryModel", "whyNotReady", "(I)I"⟩, prog_10_method_50_code, 3, some FieldType.int, 1, 1, 3, 65, []),
  (8, ⟨"FlagLaundryModel", "manyIn", "(I)I"⟩, prog_10_method_51_code, 4, some FieldType.int, 1, 1, 3, 65, []),
  (8, ⟨"FlagLaundryModel", "whyPut", "(II)I"⟩, prog_10_method_52_code, 3, some FieldType.int, 2, 1, 4, 88, []),
  (8, ⟨"FlagLaundryModel", "putsInto", "(II)V"⟩, prog_10_method_53_code, 3, none, 2, 1, 2, 46, []),
  (8, ⟨"FlagLaundryModel", "leastCare", "(I)I"⟩, prog_10_method_54_code, 4, some FieldType.int, 1, 1, 3, 65, []),
  (8, ⟨"FlagLaundryModel", "whyWash", "(II)I"⟩, prog_10_method_55_code, 3, some FieldType.int, 2, 1, 4, 88, []),
  (8, ⟨"FlagLaundryModel", "runningOf", "(II)I"⟩, prog_10_method_56_code, 5, some FieldType.int, 2, 1, 1, 21, [])]
def ev_ms_16 : List ev_ME := [(8, ⟨"FlagLaundryModel", "runningFrom", "(II)I"⟩, prog_10_method_57_code, 3, some FieldType.int, 2, 1, 2, 45, []),
  (8, ⟨"FlagLaundryModel", "runningIn", "(II)I"⟩, prog_10_method_58_code, 5, some FieldType.int, 2, 1, 3, 67, []),
  (8, ⟨"FlagLaundryModel", "newStains", "(II)I"⟩, prog_10_method_59_code, 3, some FieldType.int, 2, 1, 1, 22, []),
  (8, ⟨"FlagLaundryModel", "stainedBy", "(II)I"⟩, prog_10_method_60_code, 6, some FieldType.int, 2, 1, 4, 91, []),
  (8, ⟨"FlagLaundryModel", "dirtBehind", "(II)I"⟩, prog_10_method_61_code, 3, some FieldType.int, 2, 1, 1, 22, []),
  (8, ⟨"FlagLaundryModel", "dirtBy", "(II)I"⟩, prog_10_method_62_code, 5, some FieldType.int, 2, 1, 3, 65, []),
  (8, ⟨"FlagLaundryModel", "isWashed", "(III)V"⟩, prog_10_method_63_code, 4, none, 3, 1, 2, 46, []),
  (8, ⟨"FlagLaundryModel", "washes", "(II)I"⟩, prog_10_method_64_code, 6, some FieldType.int, 2, 1, 5, 116, []),
  (8, ⟨"FlagLaundryModel", "flagOn", "(I)I"⟩, prog_10_method_65_code, 3, some FieldType.int, 1, 1, 2, 43, []),
  (8, ⟨"FlagLaundryModel", "freePeg", "()I"⟩, prog_10_method_66_code, 2, some FieldType.int, 0, 1, 3, 65, []),
  (8, ⟨"FlagLaundryModel", "canHang", "(I)Z"⟩, prog_10_method_67_code, 2, some FieldType.boolean, 1, 1, 4, 86, []),
  (8, ⟨"FlagLaundryModel", "hangs", "(I)V"⟩, prog_10_method_68_code, 2, none, 1, 1, 4, 86, []),
  (8, ⟨"FlagLaundryModel", "lastHung", "()I"⟩, prog_10_method_69_code, 2, some FieldType.int, 0, 1, 3, 65, []),
  (8, ⟨"FlagLaundryModel", "dries", "()V"⟩, prog_10_method_70_code, 2, none, 0, 1, 2, 43, []),
  (8, ⟨"FlagLaundryModel", "falls", "()V"⟩, prog_10_method_71_code, 2, none, 0, 1, 4, 86, []),
  (8, ⟨"FlagLaundryModel", "passes", "()V"⟩, prog_10_method_72_code, 1, none, 0, 1, 5, 107, [])]
def ev_ms_17 : List ev_ME := [(8, ⟨"FlagLaundryModel", "whyIron", "(II)I"⟩, prog_10_method_73_code, 3, some FieldType.int, 2, 1, 3, 64, []),
  (8, ⟨"FlagLaundryModel", "irons", "(II)V"⟩, prog_10_method_74_code, 3, none, 2, 1, 1, 23, []),
  (8, ⟨"FlagLaundryModel", "flagsOf", "(I)I"⟩, prog_10_method_75_code, 4, some FieldType.int, 1, 1, 1, 22, []),
  (8, ⟨"FlagLaundryModel", "lateAt", "(II)I"⟩, prog_10_method_76_code, 3, some FieldType.int, 2, 1, 1, 22, []),
  (8, ⟨"FlagLaundryModel", "payAt", "(II)I"⟩, prog_10_method_77_code, 3, some FieldType.int, 2, 1, 2, 45, []),
  (8, ⟨"FlagLaundryModel", "isHanded", "(I)Z"⟩, prog_10_method_78_code, 2, some FieldType.boolean, 1, 1, 1, 22, []),
  (8, ⟨"FlagLaundryModel", "culpritOf", "(I)I"⟩, prog_10_method_79_code, 3, some FieldType.int, 1, 1, 4, 87, []),
  (8, ⟨"FlagLaundryModel", "flagsAt", "(I)I"⟩, prog_10_method_80_code, 4, some FieldType.int, 1, 1, 2, 43, []),
  (8, ⟨"FlagLaundryModel", "readyMany", "()I"⟩, prog_10_method_81_code, 3, some FieldType.int, 0, 1, 4, 87, []),
  (8, ⟨"FlagLaundryModel", "count", "(I)I"⟩, prog_10_method_82_code, 2, some FieldType.int, 1, 1, 5, 109, []),
  (8, ⟨"FlagLaundryModel", "isColour", "(I)Z"⟩, prog_10_method_83_code, 2, some FieldType.boolean, 1, 1, 1, 22, []),
  (8, ⟨"FlagLaundryModel", "isNation", "(I)Z"⟩, prog_10_method_84_code, 2, some FieldType.boolean, 1, 1, 1, 22, []),
  (8, ⟨"FlagLaundryModel", "isFlag", "(I)Z"⟩, prog_10_method_85_code, 2, some FieldType.boolean, 1, 1, 1, 22, []),
  (8, ⟨"FlagLaundryModel", "isTub", "(I)Z"⟩, prog_10_method_86_code, 2, some FieldType.boolean, 1, 1, 1, 22, []),
  (8, ⟨"FlagLaundryModel", "isHeat", "(I)Z"⟩, prog_10_method_87_code, 1, some FieldType.boolean, 1, 0, 1, 22, []),
  (8, ⟨"FlagLaundryModel", "mayFlag", "(I)Z"⟩, prog_10_method_88_code, 2, some FieldType.boolean, 1, 1, 2, 45, [])]
def ev_ms_18 : List ev_ME := [(8, ⟨"FlagLaundryModel", "mayTub", "(I)Z"⟩, prog_10_method_89_code, 2, some FieldType.boolean, 1, 1, 2, 45, []),
  (8, ⟨"FlagLaundryModel", "mayHeat", "(II)Z"⟩, prog_10_method_90_code, 3, some FieldType.boolean, 2, 1, 2, 43, []),
  (8, ⟨"FlagLaundryModel", "flagsWith", "(II)I"⟩, prog_10_method_91_code, 5, some FieldType.int, 2, 1, 1, 22, []),
  (8, ⟨"FlagLaundryModel", "colour", "(II)I"⟩, prog_10_method_92_code, 3, some FieldType.int, 2, 1, 2, 46, []),
  (8, ⟨"FlagLaundryModel", "readyOf", "(I)I"⟩, prog_10_method_93_code, 4, some FieldType.int, 1, 1, 4, 87, []),
  (8, ⟨"FlagLaundryModel", "nation", "(II)I"⟩, prog_10_method_94_code, 3, some FieldType.int, 2, 1, 5, 110, []),
  (8, ⟨"FlagLaundryModel", "flag", "(II)I"⟩, prog_10_method_95_code, 3, some FieldType.int, 2, 1, 2, 43, []),
  (8, ⟨"FlagLaundryModel", "ofTub", "(II)I"⟩, prog_10_method_96_code, 5, some FieldType.int, 2, 1, 3, 65, []),
  (8, ⟨"FlagLaundryModel", "tub", "(II)I"⟩, prog_10_method_97_code, 3, some FieldType.int, 2, 1, 4, 89, []),
  (8, ⟨"FlagLaundryModel", "ahead", "(I)I"⟩, prog_10_method_98_code, 4, some FieldType.int, 1, 1, 3, 65, []),
  (8, ⟨"FlagLaundryModel", "flagIn", "(II)I"⟩, prog_10_method_99_code, 4, some FieldType.int, 2, 1, 4, 88, []),
  (8, ⟨"FlagLaundryModel", "inTub", "(II)I"⟩, prog_10_method_100_code, 3, some FieldType.int, 2, 1, 5, 111, []),
  (8, ⟨"FlagLaundryModel", "onPeg", "(I)I"⟩, prog_10_method_101_code, 2, some FieldType.int, 1, 1, 3, 65, []),
  (8, ⟨"FlagLaundryModel", "freePegs", "()I"⟩, prog_10_method_102_code, 1, some FieldType.int, 0, 1, 3, 66, []),
  (8, ⟨"FlagLaundryModel", "wettest", "()I"⟩, prog_10_method_103_code, 3, some FieldType.int, 0, 1, 2, 43, []),
  (8, ⟨"FlagLaundryModel", "gap", "()I"⟩, prog_10_method_104_code, 4, some FieldType.int, 0, 1, 3, 66, [])]
def ev_ms_19 : List ev_ME := [(8, ⟨"FlagLaundryModel", "why", "(I)I"⟩, prog_10_method_105_code, 2, some FieldType.int, 1, 1, 4, 87, []),
  (8, ⟨"FlagLaundryModel", "reasons", "(I)I"⟩, prog_10_method_106_code, 4, some FieldType.int, 1, 1, 3, 66, []),
  (8, ⟨"FlagLaundryModel", "culprit", "(I)I"⟩, prog_10_method_107_code, 2, some FieldType.int, 1, 1, 5, 109, []),
  (8, ⟨"FlagLaundryModel", "whyNotPut", "(II)I"⟩, prog_10_method_108_code, 3, some FieldType.int, 2, 1, 5, 110, []),
  (8, ⟨"FlagLaundryModel", "whyNotWash", "(II)I"⟩, prog_10_method_109_code, 3, some FieldType.int, 2, 1, 5, 110, []),
  (8, ⟨"FlagLaundryModel", "whyNotIron", "(II)I"⟩, prog_10_method_110_code, 3, some FieldType.int, 2, 1, 4, 86, []),
  (8, ⟨"FlagLaundryModel", "whyBleach", "(I)I"⟩, prog_10_method_111_code, 2, some FieldType.int, 1, 1, 3, 64, []),
  (8, ⟨"FlagLaundryModel", "whyNotBleach", "(I)I"⟩, prog_10_method_112_code, 2, some FieldType.int, 1, 1, 4, 85, []),
  (8, ⟨"FlagLaundryModel", "running", "(II)I"⟩, prog_10_method_113_code, 3, some FieldType.int, 2, 1, 4, 91, []),
  (8, ⟨"FlagLaundryModel", "stainedIf", "(II)I"⟩, prog_10_method_114_code, 3, some FieldType.int, 2, 1, 5, 116, []),
  (8, ⟨"FlagLaundryModel", "dirtIf", "(II)I"⟩, prog_10_method_115_code, 3, some FieldType.int, 2, 1, 4, 89, []),
  (8, ⟨"FlagLaundryModel", "isBetterHeat", "(III)Z"⟩, prog_10_method_116_code, 5, some FieldType.boolean, 3, 1, 5, 116, []),
  (8, ⟨"FlagLaundryModel", "bestHeat", "(I)I"⟩, prog_10_method_117_code, 4, some FieldType.int, 1, 1, 6, 140, []),
  (8, ⟨"FlagLaundryModel", "isSafe", "(III)Z"⟩, prog_10_method_118_code, 4, some FieldType.boolean, 3, 1, 5, 116, []),
  (8, ⟨"FlagLaundryModel", "firstSafe", "(II)I"⟩, prog_10_method_119_code, 4, some FieldType.int, 2, 1, 6, 139, []),
  (8, ⟨"FlagLaundryModel", "mixes", "(III)I"⟩, prog_10_method_120_code, 4, some FieldType.int, 3, 1, 3, 67, [])]
def ev_ms_20 : List ev_ME := [(8, ⟨"FlagLaundryModel", "doNotMix", "(III)I"⟩, prog_10_method_121_code, 4, some FieldType.int, 3, 1, 4, 90, []),
  (8, ⟨"FlagLaundryModel", "canJoin", "(III)Z"⟩, prog_10_method_122_code, 5, some FieldType.boolean, 3, 1, 4, 90, []),
  (8, ⟨"FlagLaundryModel", "groups", "(I)I"⟩, prog_10_method_123_code, 5, some FieldType.int, 1, 1, 5, 114, []),
  (8, ⟨"FlagLaundryModel", "mixedWith", "(II)I"⟩, prog_10_method_124_code, 5, some FieldType.int, 2, 1, 4, 90, []),
  (8, ⟨"FlagLaundryModel", "purest", "(I)I"⟩, prog_10_method_125_code, 4, some FieldType.int, 1, 1, 5, 114, []),
  (8, ⟨"FlagLaundryModel", "washesFor", "(I)I"⟩, prog_10_method_126_code, 3, some FieldType.int, 1, 1, 3, 66, []),
  (8, ⟨"FlagLaundryModel", "driesIn", "(I)I"⟩, prog_10_method_127_code, 3, some FieldType.int, 1, 1, 5, 107, []),
  (8, ⟨"FlagLaundryModel", "dryIn", "(I)I"⟩, prog_10_method_128_code, 2, some FieldType.int, 1, 1, 6, 129, []),
  (8, ⟨"FlagLaundryModel", "isWind", "(I)Z"⟩, prog_10_method_129_code, 1, some FieldType.boolean, 1, 0, 1, 22, []),
  (8, ⟨"FlagLaundryModel", "dryByWind", "(II)I"⟩, prog_10_method_130_code, 3, some FieldType.int, 2, 1, 6, 129, []),
  (8, ⟨"FlagLaundryModel", "fallsIn", "(I)I"⟩, prog_10_method_131_code, 4, some FieldType.int, 1, 1, 6, 127, []),
  (8, ⟨"FlagLaundryModel", "payIn", "(II)I"⟩, prog_10_method_132_code, 3, some FieldType.int, 2, 1, 3, 67, []),
  (8, ⟨"FlagLaundryModel", "payIf", "(II)I"⟩, prog_10_method_133_code, 3, some FieldType.int, 2, 1, 4, 89, []),
  (8, ⟨"FlagLaundryModel", "lastHour", "(I)I"⟩, prog_10_method_134_code, 3, some FieldType.int, 1, 1, 2, 45, []),
  (8, ⟨"FlagLaundryModel", "latest", "(I)I"⟩, prog_10_method_135_code, 2, some FieldType.int, 1, 1, 3, 67, []),
  (8, ⟨"FlagLaundryModel", "dearest", "()I"⟩, prog_10_method_136_code, 5, some FieldType.int, 0, 1, 4, 89, [])]
def ev_ms_21 : List ev_ME := [(8, ⟨"FlagLaundryModel", "ironsUntil", "(II)I"⟩, prog_10_method_137_code, 4, some FieldType.int, 2, 1, 2, 45, []),
  (8, ⟨"FlagLaundryModel", "ironsFor", "(II)I"⟩, prog_10_method_138_code, 3, some FieldType.int, 2, 1, 4, 86, []),
  (8, ⟨"FlagLaundryModel", "readyShare", "()F"⟩, prog_10_method_139_code, 1, some FieldType.float, 0, 1, 5, 109, []),
  (8, ⟨"FlagLaundryModel", "allDirt", "()I"⟩, prog_10_method_140_code, 3, some FieldType.int, 0, 1, 1, 22, []),
  (8, ⟨"FlagLaundryModel", "meanDirt", "()D"⟩, prog_10_method_141_code, 1, some FieldType.double, 0, 1, 2, 44, []),
  (8, ⟨"FlagLaundryModel", "writesByte", "(I)V"⟩, prog_10_method_142_code, 2, none, 1, 1, 0, 0, []),
  (8, ⟨"FlagLaundryModel", "writesNumber", "(I)V"⟩, prog_10_method_143_code, 2, none, 1, 1, 1, 21, []),
  (8, ⟨"FlagLaundryModel", "letterOf", "(I)I"⟩, prog_10_method_144_code, 1, some FieldType.int, 1, 0, 0, 0, []),
  (8, ⟨"FlagLaundryModel", "writeFlag", "(I)I"⟩, prog_10_method_145_code, 3, some FieldType.int, 1, 1, 3, 66, []),
  (8, ⟨"FlagLaundryModel", "writeTub", "(I)I"⟩, prog_10_method_146_code, 4, some FieldType.int, 1, 1, 5, 111, []),
  (8, ⟨"FlagLaundryModel", "writesReason", "(I)V"⟩, prog_10_method_147_code, 2, none, 1, 1, 4, 87, []),
  (8, ⟨"FlagLaundryModel", "writeNation", "(I)I"⟩, prog_10_method_148_code, 3, some FieldType.int, 1, 1, 5, 108, []),
  (8, ⟨"FlagLaundryModel", "writeLine", "()I"⟩, prog_10_method_149_code, 2, some FieldType.int, 0, 1, 3, 65, []),
  (8, ⟨"FlagLaundryModel", "textByte", "(I)I"⟩, prog_10_method_150_code, 2, some FieldType.int, 1, 1, 1, 23, []),
  (8, ⟨"FlagLaundryModel", "remembers", "()V"⟩, prog_10_method_151_code, 2, none, 0, 1, 1, 24, []),
  (8, ⟨"FlagLaundryModel", "put", "(II)I"⟩, prog_10_method_152_code, 4, some FieldType.int, 2, 1, 5, 110, [])]
def ev_ms_22 : List ev_ME := [(8, ⟨"FlagLaundryModel", "wash", "(II)I"⟩, prog_10_method_153_code, 4, some FieldType.int, 2, 1, 6, 141, []),
  (8, ⟨"FlagLaundryModel", "hang", "(I)I"⟩, prog_10_method_154_code, 3, some FieldType.int, 1, 1, 5, 107, []),
  (8, ⟨"FlagLaundryModel", "hangAll", "()I"⟩, prog_10_method_155_code, 3, some FieldType.int, 0, 1, 5, 107, []),
  (8, ⟨"FlagLaundryModel", "clearTub", "(I)I"⟩, prog_10_method_156_code, 4, some FieldType.int, 1, 1, 4, 88, []),
  (8, ⟨"FlagLaundryModel", "takeDown", "(I)I"⟩, prog_10_method_157_code, 3, some FieldType.int, 1, 1, 2, 46, []),
  (8, ⟨"FlagLaundryModel", "iron", "(II)I"⟩, prog_10_method_158_code, 4, some FieldType.int, 2, 1, 4, 86, []),
  (8, ⟨"FlagLaundryModel", "stainsOf", "(I)I"⟩, prog_10_method_159_code, 4, some FieldType.int, 1, 1, 1, 22, []),
  (8, ⟨"FlagLaundryModel", "bleach", "(I)I"⟩, prog_10_method_160_code, 4, some FieldType.int, 1, 1, 4, 85, []),
  (8, ⟨"FlagLaundryModel", "leaves", "(I)V"⟩, prog_10_method_161_code, 3, none, 1, 1, 2, 46, []),
  (8, ⟨"FlagLaundryModel", "handOver", "(I)I"⟩, prog_10_method_162_code, 4, some FieldType.int, 1, 1, 5, 109, []),
  (8, ⟨"FlagLaundryModel", "pass", "(I)I"⟩, prog_10_method_163_code, 4, some FieldType.int, 1, 1, 6, 127, []),
  (8, ⟨"FlagLaundryModel", "setWind", "(I)I"⟩, prog_10_method_164_code, 3, some FieldType.int, 1, 1, 2, 45, []),
  (8, ⟨"FlagLaundryModel", "addFlag", "(IIII)I"⟩, prog_10_method_165_code, 7, some FieldType.int, 4, 1, 3, 72, []),
  (8, ⟨"FlagLaundryModel", "undo", "()I"⟩, prog_10_method_166_code, 1, some FieldType.int, 0, 1, 1, 24, []),
  (8, ⟨"FlagLaundryModel", "undoable", "()I"⟩, prog_10_method_167_code, 1, some FieldType.int, 0, 1, 0, 0, []),
  (8, ⟨"FlagLaundryModel", "isSlot", "(I)Z"⟩, prog_10_method_168_code, 1, some FieldType.boolean, 1, 0, 1, 22, [])]
def ev_ms_23 : List ev_ME := [(8, ⟨"FlagLaundryModel", "save", "(I)I"⟩, prog_10_method_169_code, 2, some FieldType.int, 1, 1, 2, 45, []),
  (8, ⟨"FlagLaundryModel", "restore", "(I)I"⟩, prog_10_method_170_code, 3, some FieldType.int, 1, 1, 2, 45, []),
  (10, ⟨"java/util/Arrays", "fill", "([II)V"⟩, prog_23_method_103_code, 4, none, 2, 0, 0, 0, []),
  (11, ⟨"java/lang/Integer", "bitCount", "(I)I"⟩, prog_15_method_49_code, 1, some FieldType.int, 1, 0, 0, 0, []),
  (9, ⟨"FlagLaundryLaw", "load", "(LFlagLaundry;I[J)I"⟩, method_3_code, 4, some FieldType.int, 3, 0, 8, 177, [(0, 9, 12, 13), (0, 9, 15, 15)]),
  (9, ⟨"FlagLaundryLaw", "count", "(LFlagLaundry;I[J)I"⟩, method_4_code, 4, some FieldType.int, 3, 0, 8, 127, [(0, 9, 12, 20), (0, 9, 15, 15)]),
  (9, ⟨"FlagLaundryLaw", "colour", "(LFlagLaundry;II[J)I"⟩, method_5_code, 5, some FieldType.int, 4, 0, 8, 126, [(0, 10, 13, 20), (0, 10, 17, 13), (0, 10, 21, 15)]),
  (9, ⟨"FlagLaundryLaw", "nation", "(LFlagLaundry;II[J)I"⟩, method_6_code, 5, some FieldType.int, 4, 0, 9, 145, [(0, 10, 13, 20), (0, 10, 17, 13), (0, 10, 21, 15)]),
  (9, ⟨"FlagLaundryLaw", "flag", "(LFlagLaundry;II[J)I"⟩, method_7_code, 5, some FieldType.int, 4, 0, 9, 146, [(0, 10, 13, 20), (0, 10, 17, 13), (0, 10, 21, 15)]),
  (9, ⟨"FlagLaundryLaw", "tub", "(LFlagLaundry;II[J)I"⟩, method_8_code, 5, some FieldType.int, 4, 0, 9, 145, [(0, 10, 13, 20), (0, 10, 17, 13), (0, 10, 21, 15)]),
  (9, ⟨"FlagLaundryLaw", "inTub", "(LFlagLaundry;II[J)I"⟩, method_9_code, 5, some FieldType.int, 4, 0, 9, 145, [(0, 10, 13, 20), (0, 10, 17, 13)]),
  (9, ⟨"FlagLaundryLaw", "onPeg", "(LFlagLaundry;I[J)I"⟩, method_10_code, 4, some FieldType.int, 3, 0, 8, 123, [(0, 9, 12, 20), (0, 9, 15, 13)]),
  (9, ⟨"FlagLaundryLaw", "freePegs", "(LFlagLaundry;[J)I"⟩, method_11_code, 3, some FieldType.int, 2, 0, 8, 122, [(0, 8, 11, 20)]),
  (9, ⟨"FlagLaundryLaw", "wettest", "(LFlagLaundry;[J)I"⟩, method_12_code, 3, some FieldType.int, 2, 0, 8, 122, [(0, 8, 11, 20)]),
  (9, ⟨"FlagLaundryLaw", "gap", "(LFlagLaundry;[J)I"⟩, method_13_code, 3, some FieldType.int, 2, 0, 8, 122, [(0, 8, 11, 20)]),
  (9, ⟨"FlagLaundryLaw", "why", "(LFlagLaundry;I[J)I"⟩, method_14_code, 4, some FieldType.int, 3, 0, 9, 144, [(0, 9, 12, 20), (0, 9, 15, 13)])]
def ev_ms_24 : List ev_ME := [(9, ⟨"FlagLaundryLaw", "reasons", "(LFlagLaundry;I[J)I"⟩, method_15_code, 4, some FieldType.int, 3, 0, 9, 144, [(0, 9, 12, 20), (0, 9, 15, 13)]),
  (9, ⟨"FlagLaundryLaw", "culprit", "(LFlagLaundry;I[J)I"⟩, method_16_code, 4, some FieldType.int, 3, 0, 9, 144, [(0, 9, 12, 20), (0, 9, 15, 13)]),
  (9, ⟨"FlagLaundryLaw", "whyNotPut", "(LFlagLaundry;II[J)I"⟩, method_17_code, 5, some FieldType.int, 4, 0, 9, 145, [(0, 10, 13, 20), (0, 10, 17, 13)]),
  (9, ⟨"FlagLaundryLaw", "whyNotWash", "(LFlagLaundry;II[J)I"⟩, method_18_code, 5, some FieldType.int, 4, 0, 9, 146, [(0, 10, 13, 20), (0, 10, 17, 13), (0, 10, 21, 15)]),
  (9, ⟨"FlagLaundryLaw", "whyNotIron", "(LFlagLaundry;II[J)I"⟩, method_19_code, 5, some FieldType.int, 4, 0, 9, 146, [(0, 10, 13, 20), (0, 10, 17, 13), (0, 10, 21, 15)]),
  (9, ⟨"FlagLaundryLaw", "whyNotBleach", "(LFlagLaundry;I[J)I"⟩, method_20_code, 4, some FieldType.int, 3, 0, 9, 144, [(0, 9, 12, 20), (0, 9, 15, 13)]),
  (9, ⟨"FlagLaundryLaw", "running", "(LFlagLaundry;II[J)I"⟩, method_21_code, 5, some FieldType.int, 4, 0, 9, 146, [(0, 10, 13, 20), (0, 10, 17, 13), (0, 10, 21, 15)]),
  (9, ⟨"FlagLaundryLaw", "stainedIf", "(LFlagLaundry;II[J)I"⟩, method_22_code, 5, some FieldType.int, 4, 0, 9, 146, [(0, 10, 13, 20), (0, 10, 17, 13), (0, 10, 21, 15)]),
  (9, ⟨"FlagLaundryLaw", "dirtIf", "(LFlagLaundry;II[J)I"⟩, method_23_code, 5, some FieldType.int, 4, 0, 9, 146, [(0, 10, 13, 20), (0, 10, 17, 13), (0, 10, 21, 15)]),
  (9, ⟨"FlagLaundryLaw", "bestHeat", "(LFlagLaundry;I[J)I"⟩, method_24_code, 4, some FieldType.int, 3, 0, 9, 144, [(0, 9, 12, 20), (0, 9, 15, 13)]),
  (9, ⟨"FlagLaundryLaw", "firstSafe", "(LFlagLaundry;II[J)I"⟩, method_25_code, 5, some FieldType.int, 4, 0, 9, 146, [(0, 10, 13, 20), (0, 10, 17, 13), (0, 10, 21, 15)]),
  (9, ⟨"FlagLaundryLaw", "doNotMix", "(LFlagLaundry;III[J)I"⟩, method_26_code, 6, some FieldType.int, 5, 0, 9, 147, [(0, 12, 15, 20), (0, 12, 19, 13), (0, 12, 23, 15)]),
  (9, ⟨"FlagLaundryLaw", "groups", "(LFlagLaundry;I[J)I"⟩, method_27_code, 4, some FieldType.int, 3, 0, 9, 145, [(0, 9, 12, 20), (0, 9, 15, 15)]),
  (9, ⟨"FlagLaundryLaw", "purest", "(LFlagLaundry;I[J)I"⟩, method_28_code, 4, some FieldType.int, 3, 0, 9, 145, [(0, 9, 12, 20), (0, 9, 15, 15)]),
  (9, ⟨"FlagLaundryLaw", "washesFor", "(LFlagLaundry;I[J)I"⟩, method_29_code, 4, some FieldType.int, 3, 0, 9, 144, [(0, 9, 12, 20), (0, 9, 15, 13)]),
  (9, ⟨"FlagLaundryLaw", "dryIn", "(LFlagLaundry;I[J)I"⟩, method_30_code, 4, some FieldType.int, 3, 0, 9, 144, [(0, 9, 12, 20), (0, 9, 15, 13)])]
def ev_ms_25 : List ev_ME := [(9, ⟨"FlagLaundryLaw", "dryByWind", "(LFlagLaundry;II[J)I"⟩, method_31_code, 5, some FieldType.int, 4, 0, 9, 145, [(0, 10, 13, 20), (0, 10, 17, 13), (0, 10, 21, 15)]),
  (9, ⟨"FlagLaundryLaw", "fallsIn", "(LFlagLaundry;I[J)I"⟩, method_32_code, 4, some FieldType.int, 3, 0, 8, 125, [(0, 9, 12, 20), (0, 9, 15, 15)]),
  (9, ⟨"FlagLaundryLaw", "payIf", "(LFlagLaundry;II[J)I"⟩, method_33_code, 5, some FieldType.int, 4, 0, 9, 145, [(0, 10, 13, 20), (0, 10, 17, 13), (0, 10, 21, 15)]),
  (9, ⟨"FlagLaundryLaw", "latest", "(LFlagLaundry;I[J)I"⟩, method_34_code, 4, some FieldType.int, 3, 0, 9, 144, [(0, 9, 12, 20), (0, 9, 15, 13)]),
  (9, ⟨"FlagLaundryLaw", "dearest", "(LFlagLaundry;[J)I"⟩, method_35_code, 3, some FieldType.int, 2, 0, 8, 131, [(0, 8, 11, 20)]),
  (9, ⟨"FlagLaundryLaw", "ironsFor", "(LFlagLaundry;II[J)I"⟩, method_36_code, 5, some FieldType.int, 4, 0, 9, 146, [(0, 10, 13, 20), (0, 10, 17, 13), (0, 10, 21, 15)]),
  (9, ⟨"FlagLaundryLaw", "readyShare", "(LFlagLaundry;[D)I"⟩, method_37_code, 3, some FieldType.int, 2, 0, 8, 123, [(0, 8, 11, 20)]),
  (9, ⟨"FlagLaundryLaw", "meanDirt", "(LFlagLaundry;[D)I"⟩, method_38_code, 3, some FieldType.int, 2, 0, 8, 123, [(0, 7, 10, 20)]),
  (9, ⟨"FlagLaundryLaw", "writeFlag", "(LFlagLaundry;I[J)I"⟩, method_39_code, 4, some FieldType.int, 3, 0, 9, 144, [(0, 9, 12, 20), (0, 9, 15, 13)]),
  (9, ⟨"FlagLaundryLaw", "writeTub", "(LFlagLaundry;I[J)I"⟩, method_40_code, 4, some FieldType.int, 3, 0, 9, 144, [(0, 9, 12, 20), (0, 9, 15, 13)]),
  (9, ⟨"FlagLaundryLaw", "writeNation", "(LFlagLaundry;I[J)I"⟩, method_41_code, 4, some FieldType.int, 3, 0, 9, 144, [(0, 9, 12, 20), (0, 9, 15, 13)]),
  (9, ⟨"FlagLaundryLaw", "writeLine", "(LFlagLaundry;[J)I"⟩, method_42_code, 3, some FieldType.int, 2, 0, 8, 122, [(0, 8, 11, 20)]),
  (9, ⟨"FlagLaundryLaw", "textByte", "(LFlagLaundry;I[J)I"⟩, method_43_code, 4, some FieldType.int, 3, 0, 7, 103, [(0, 9, 12, 13)]),
  (9, ⟨"FlagLaundryLaw", "put", "(LFlagLaundry;II[J)I"⟩, method_44_code, 5, some FieldType.int, 4, 0, 9, 145, [(0, 10, 13, 20), (0, 10, 17, 13), (0, 10, 21, 15)]),
  (9, ⟨"FlagLaundryLaw", "wash", "(LFlagLaundry;II[J)I"⟩, method_45_code, 5, some FieldType.int, 4, 0, 9, 146, [(0, 10, 13, 20), (0, 10, 17, 13), (0, 10, 21, 15)]),
  (9, ⟨"FlagLaundryLaw", "hang", "(LFlagLaundry;I[J)I"⟩, method_46_code, 4, some FieldType.int, 3, 0, 9, 144, [(0, 9, 12, 20), (0, 9, 15, 13), (0, 9, 18, 15)])]
def ev_ms_26 : List ev_ME := [(9, ⟨"FlagLaundryLaw", "hangAll", "(LFlagLaundry;[J)I"⟩, method_47_code, 3, some FieldType.int, 2, 0, 8, 122, [(0, 8, 11, 20)]),
  (9, ⟨"FlagLaundryLaw", "takeDown", "(LFlagLaundry;I[J)I"⟩, method_48_code, 4, some FieldType.int, 3, 0, 9, 145, [(0, 9, 12, 20), (0, 9, 15, 13), (0, 9, 18, 15)]),
  (9, ⟨"FlagLaundryLaw", "clearTub", "(LFlagLaundry;I[J)I"⟩, method_49_code, 4, some FieldType.int, 3, 0, 9, 144, [(0, 9, 12, 20), (0, 9, 15, 13)]),
  (9, ⟨"FlagLaundryLaw", "iron", "(LFlagLaundry;II[J)I"⟩, method_50_code, 5, some FieldType.int, 4, 0, 9, 147, [(0, 10, 13, 20), (0, 10, 17, 13), (0, 10, 21, 15)]),
  (9, ⟨"FlagLaundryLaw", "bleach", "(LFlagLaundry;I[J)I"⟩, method_51_code, 4, some FieldType.int, 3, 0, 9, 145, [(0, 9, 12, 20), (0, 9, 15, 13), (0, 9, 18, 15)]),
  (9, ⟨"FlagLaundryLaw", "handOver", "(LFlagLaundry;I[J)I"⟩, method_52_code, 4, some FieldType.int, 3, 0, 9, 144, [(0, 9, 12, 20), (0, 9, 15, 13), (0, 9, 18, 15)]),
  (9, ⟨"FlagLaundryLaw", "pass", "(LFlagLaundry;I[J)I"⟩, method_53_code, 4, some FieldType.int, 3, 0, 8, 125, [(0, 9, 12, 20), (0, 9, 15, 15)]),
  (9, ⟨"FlagLaundryLaw", "setWind", "(LFlagLaundry;I[J)I"⟩, method_54_code, 4, some FieldType.int, 3, 0, 8, 126, [(0, 9, 12, 20), (0, 9, 15, 15)]),
  (9, ⟨"FlagLaundryLaw", "addFlag", "(LFlagLaundry;IIII[J)I"⟩, method_55_code, 7, some FieldType.int, 6, 0, 9, 147, [(0, 14, 17, 20), (0, 14, 21, 13), (0, 14, 25, 15)]),
  (9, ⟨"FlagLaundryLaw", "undo", "(LFlagLaundry;[J)I"⟩, method_56_code, 3, some FieldType.int, 2, 0, 7, 103, [(0, 8, 11, 20)]),
  (9, ⟨"FlagLaundryLaw", "save", "(LFlagLaundry;I[J)I"⟩, method_57_code, 4, some FieldType.int, 3, 0, 8, 123, [(0, 9, 12, 20), (0, 9, 15, 13)]),
  (9, ⟨"FlagLaundryLaw", "restore", "(LFlagLaundry;I[J)I"⟩, method_58_code, 4, some FieldType.int, 3, 0, 8, 123, [(0, 9, 12, 13), (0, 9, 15, 20)])]
def ev_mss : List (Nat × List ev_ME) := [(0, ev_ms_0), (1, ev_ms_1), (2, ev_ms_2), (3, ev_ms_3), (4, ev_ms_4), (5, ev_ms_5), (6, ev_ms_6), (7, ev_ms_7), (8, ev_ms_8), (9, ev_ms_9), (10, ev_ms_10), (11, ev_ms_11), (12, ev_ms_12), (13, ev_ms_13), (14, ev_ms_14), (15, ev_ms_15), (16, ev_ms_16), (17, ev_ms_17), (18, ev_ms_18), (19, ev_ms_19), (20, ev_ms_20), (21, ev_ms_21), (22, ev_ms_22), (23, ev_ms_23), (24, ev_ms_24), (25, ev_ms_25), (26, ev_ms_26)]
set_option maxRecDepth 100000 in
theorem ev_msw_0 : GoodIn lw_tbl (ev_ms_0.flatMap ev_mw) := goodIn_r _ [234, 135, 233, 741, 135, 739, 740, 1476, 135, 1474, 1475, 745, 135, 743, 744, 947, 135, 945, 946, 1093, 135, 1091, 1092, 943, 135, 941, 942, 1146, 135, 1144, 1145, 1142, 135, 1140, 1141, 1157, 135, 1155, 1156, 789, 135, 787, 788, 801, 135, 799, 800, 810, 135, 808, 809, 805, 135, 803, 804, 871, 135, 869, 870, 1359, 135, 1358] rfl (by decide +kernel)
set_option maxRecDepth 100000 in
theorem ev_msw_1 : GoodIn lw_tbl (ev_ms_1.flatMap ev_mw) := goodIn_r _ [1362, 135, 1361, 1544, 135, 1542, 1543, 1555, 135, 1553, 1554, 1275, 135, 1273, 1274, 1355, 135, 1353, 1354, 413, 137, 412, 899, 137, 897, 898, 895, 137, 893, 894, 1468, 137, 1466, 1467, 1617, 137, 1615, 1616, 1632, 137, 1630, 1631, 1644, 137, 1642, 1643, 166, 132, 165, 593, 132, 591, 592, 772, 132, 770, 771, 1026, 132, 1024, 1025] rfl (by decide +kernel)
set_option maxRecDepth 100000 in
theorem ev_msw_2 : GoodIn lw_tbl (ev_ms_2.flatMap ev_mw) := goodIn_r _ [1030, 132, 1028, 1029, 785, 132, 783, 784, 1168, 132, 1166, 1167, 797, 132, 795, 796, 1187, 132, 1185, 1186, 754, 132, 752, 753, 768, 132, 766, 767, 781, 132, 779, 780, 1199, 132, 1197, 1198, 1212, 132, 1210, 1211, 1217, 132, 1215, 1216, 1229, 132, 1227, 1228, 1240, 132, 1238, 1239, 1244, 132, 1243, 28, 1248, 132, 1247, 29, 1260, 132, 1258, 1259] rfl (by decide +kernel)
set_option maxRecDepth 100000 in
theorem ev_msw_3 : GoodIn lw_tbl (ev_ms_3.flatMap ev_mw) := goodIn_r _ [1264, 132, 1263, 30, 832, 132, 830, 831, 828, 132, 826, 827, 836, 132, 834, 835, 1508, 132, 1506, 1507, 996, 132, 994, 995, 991, 132, 989, 990, 1320, 132, 1318, 1319, 1316, 132, 1314, 1315, 1332, 132, 1330, 1331, 1343, 132, 1341, 1342, 1572, 132, 1570, 1571, 1577, 132, 1575, 1576, 1078, 132, 1076, 1077, 377, 136, 376, 586, 136, 584, 585] rfl (by decide +kernel)
set_option maxRecDepth 100000 in
theorem ev_msw_4 : GoodIn lw_tbl (ev_ms_4.flatMap ev_mw) := goodIn_r _ [616, 136, 615, 4, 632, 136, 631, 8, 624, 136, 623, 6, 628, 136, 627, 7, 620, 136, 619, 5, 612, 136, 611, 3, 637, 136, 636, 9, 733, 136, 732, 17, 689, 136, 688, 10, 608, 136, 607, 2, 875, 136, 874, 23, 693, 136, 692, 11, 702, 136, 701, 13, 698, 136, 697, 12, 711, 136, 710, 14, 720, 136, 719, 15] rfl (by decide +kernel)
set_option maxRecDepth 100000 in
theorem ev_msw_5 : GoodIn lw_tbl (ev_ms_5.flatMap ev_mw) := goodIn_r _ [729, 136, 728, 16, 750, 136, 749, 18, 764, 136, 763, 19, 824, 136, 823, 20, 845, 136, 844, 21, 850, 136, 849, 22, 172, 133, 171, 597, 133, 595, 596, 706, 133, 704, 705, 715, 133, 713, 714, 724, 133, 722, 723, 1604, 133, 1602, 1603, 793, 133, 791, 792, 227, 134, 226, 601, 134, 599, 600, 1472, 134, 1470, 1471] rfl (by decide +kernel)
set_option maxRecDepth 100000 in
theorem ev_msw_6 : GoodIn lw_tbl (ev_ms_6.flatMap ev_mw) := goodIn_r _ [737, 134, 735, 736, 1041, 134, 1039, 1040, 776, 134, 774, 775, 987, 134, 985, 986, 935, 134, 933, 934, 939, 134, 937, 938, 979, 134, 977, 978, 983, 134, 981, 982, 1112, 134, 1110, 1111, 959, 134, 957, 958, 963, 134, 961, 962, 1380, 134, 1378, 1379, 1067, 134, 1065, 1066, 758, 134, 756, 757, 840, 134, 838, 839, 1521, 134, 1519, 1520] rfl (by decide +kernel)
set_option maxRecDepth 100000 in
theorem ev_msw_7 : GoodIn lw_tbl (ev_ms_7.flatMap ev_mw) := goodIn_r _ [1525, 134, 1523, 1524, 818, 134, 816, 817, 867, 134, 865, 866, 854, 134, 852, 853, 858, 134, 856, 857, 863, 134, 861, 862, 1286, 134, 1284, 1285, 1290, 134, 1288, 1289, 441, 138, 440, 1398, 138, 1396, 1397, 1402, 138, 1400, 1401, 1417, 138, 1415, 1416, 1422, 138, 1420, 1421, 1394, 138, 1393, 1391, 138, 1389, 1390, 1413, 138, 1411, 1412] rfl (by decide +kernel)
set_option maxRecDepth 100000 in
theorem ev_msw_8 : GoodIn lw_tbl (ev_ms_8.flatMap ev_mw) := goodIn_r _ [1433, 138, 1431, 1432, 1445, 138, 1443, 1444, 158, 131, 157, 486, 131, 484, 485, 515, 131, 513, 514, 494, 131, 492, 493, 498, 131, 496, 497, 502, 131, 500, 501, 907, 131, 905, 906, 954, 131, 952, 953, 970, 131, 968, 969, 1004, 131, 1002, 1003, 1016, 131, 1014, 1015, 1037, 131, 1035, 1036, 1048, 131, 1046, 1047, 1056, 131, 1054, 1055] rfl (by decide +kernel)
set_option maxRecDepth 100000 in
theorem ev_msw_9 : GoodIn lw_tbl (ev_ms_9.flatMap ev_mw) := goodIn_r _ [1063, 131, 1061, 1062, 1074, 131, 1072, 1073, 1089, 131, 1087, 1088, 1100, 131, 1098, 1099, 1108, 131, 1106, 1107, 1119, 131, 1117, 1118, 1127, 131, 1125, 1126, 1138, 131, 1136, 1137, 1153, 131, 1151, 1152, 1164, 131, 1162, 1163, 1175, 131, 1173, 1174, 1183, 131, 1181, 1182, 1195, 131, 1193, 1194, 1208, 131, 1206, 1207, 1225, 131, 1223, 1224, 1236, 131, 1234, 1235] rfl (by decide +kernel)
set_option maxRecDepth 100000 in
theorem ev_msw_10 : GoodIn lw_tbl (ev_ms_10.flatMap ev_mw) := goodIn_r _ [1256, 131, 1254, 1255, 1271, 131, 1269, 1270, 1282, 131, 1280, 1281, 1297, 131, 1295, 1296, 1304, 131, 1302, 1303, 1312, 131, 1310, 1311, 1328, 131, 1326, 1327, 1339, 131, 1337, 1338, 1351, 131, 1349, 1350, 1369, 131, 1367, 1368, 1376, 131, 1374, 1375, 1387, 131, 1385, 1386, 1409, 131, 1407, 1408, 1429, 131, 1427, 1428, 1441, 131, 1439, 1440, 1452, 131, 1450, 1451] rfl (by decide +kernel)
set_option maxRecDepth 100000 in
theorem ev_msw_11 : GoodIn lw_tbl (ev_ms_11.flatMap ev_mw) := goodIn_r _ [1460, 131, 1458, 1459, 1487, 131, 1485, 1486, 1495, 131, 1493, 1494, 1504, 131, 1502, 1503, 1517, 131, 1515, 1516, 1532, 131, 1530, 1531, 1540, 131, 1538, 1539, 1551, 131, 1549, 1550, 1568, 131, 1566, 1567, 1585, 131, 1583, 1584, 1593, 131, 1591, 1592, 1600, 131, 1598, 1599, 1612, 131, 1610, 1611, 506, 131, 504, 505, 1624, 131, 1622, 1623, 1639, 131, 1637, 1638] rfl (by decide +kernel)
set_option maxRecDepth 100000 in
theorem ev_msw_12 : GoodIn lw_tbl (ev_ms_12.flatMap ev_mw) := goodIn_r _ [911, 131, 910, 24, 1008, 131, 1007, 26, 1020, 131, 1019, 27, 974, 131, 973, 25, 1627, 131, 1626, 1130, 131, 1129, 930, 131, 929, 1463, 131, 1462, 490, 131, 489, 0, 1649, 139, 1648, 1738, 139, 1737, 1875, 139, 1874, 1827, 139, 1826, 1742, 139, 1741, 32, 1985, 139, 1984, 86, 2089, 139, 2088, 105] rfl (by decide +kernel)
set_option maxRecDepth 100000 in
theorem ev_msw_13 : GoodIn lw_tbl (ev_ms_13.flatMap ev_mw) := goodIn_r _ [1749, 139, 1748, 1746, 139, 1745, 33, 1977, 139, 1976, 85, 1715, 139, 1713, 1714, 1719, 139, 1718, 31, 1723, 139, 1721, 1722, 1727, 139, 1725, 1726, 1731, 139, 1729, 1730, 1761, 139, 1760, 36, 1765, 139, 1764, 37, 1757, 139, 1756, 35, 1780, 139, 1779, 40, 1774, 139, 1773, 39, 1770, 139, 1769, 38, 1788, 139, 1787, 42, 1784, 139, 1783, 41] rfl (by decide +kernel)
set_option maxRecDepth 100000 in
theorem ev_msw_14 : GoodIn lw_tbl (ev_ms_14.flatMap ev_mw) := goodIn_r _ [1801, 139, 1800, 45, 1797, 139, 1796, 44, 1806, 139, 1805, 46, 1815, 139, 1814, 48, 1824, 139, 1823, 50, 1820, 139, 1819, 49, 1848, 139, 1847, 55, 1884, 139, 1883, 63, 1931, 139, 1930, 74, 1952, 139, 1951, 79, 1957, 139, 1956, 80, 1792, 139, 1791, 43, 1843, 139, 1842, 54, 1753, 139, 1752, 34, 1735, 139, 1733, 1734, 2033, 139, 2032, 96] rfl (by decide +kernel)
set_option maxRecDepth 100000 in
theorem ev_msw_15 : GoodIn lw_tbl (ev_ms_15.flatMap ev_mw) := goodIn_r _ [1810, 139, 1809, 47, 1864, 139, 1863, 59, 1835, 139, 1834, 52, 1860, 139, 1859, 58, 1856, 139, 1855, 57, 1872, 139, 1871, 61, 1839, 139, 1838, 53, 1831, 139, 1830, 51, 1997, 139, 1996, 89, 1993, 139, 1992, 88, 1868, 139, 1867, 60, 1852, 139, 1851, 56, 1879, 139, 1878, 62, 1892, 139, 1891, 65, 1888, 139, 1887, 64, 1909, 139, 1908, 69] rfl (by decide +kernel)
set_option maxRecDepth 100000 in
theorem ev_msw_16 : GoodIn lw_tbl (ev_ms_16.flatMap ev_mw) := goodIn_r _ [1905, 139, 1904, 68, 1901, 139, 1900, 67, 1917, 139, 1916, 71, 1913, 139, 1912, 70, 1925, 139, 1924, 73, 2165, 139, 2164, 111, 1921, 139, 1920, 72, 1897, 139, 1896, 66, 1943, 139, 1942, 77, 1939, 139, 1938, 76, 1935, 139, 1934, 75, 1947, 139, 1946, 78, 1973, 139, 1972, 84, 1965, 139, 1964, 82, 1969, 139, 1968, 83, 1961, 139, 1960, 81] rfl (by decide +kernel)
set_option maxRecDepth 100000 in
theorem ev_msw_17 : GoodIn lw_tbl (ev_ms_17.flatMap ev_mw) := goodIn_r _ [2141, 139, 2140, 109, 2264, 139, 2263, 122, 2025, 139, 2024, 94, 2041, 139, 2040, 98, 2240, 139, 2239, 119, 2037, 139, 2036, 97, 2118, 139, 2117, 107, 2001, 139, 2000, 90, 1989, 139, 1988, 87, 1981, 139, 1979, 1980, 2009, 139, 2008, 91, 2021, 139, 2020, 93, 2049, 139, 2048, 99, 2057, 139, 2056, 100, 2133, 139, 2132, 2106, 139, 2105, 106] rfl (by decide +kernel)
set_option maxRecDepth 100000 in
theorem ev_msw_18 : GoodIn lw_tbl (ev_ms_18.flatMap ev_mw) := goodIn_r _ [2069, 139, 2068, 102, 2130, 139, 2129, 108, 2013, 139, 2012, 92, 2005, 139, 2003, 2004, 2029, 139, 2028, 95, 2017, 139, 2015, 2016, 2045, 139, 2043, 2044, 2061, 139, 2060, 101, 2053, 139, 2051, 2052, 2077, 139, 2076, 104, 2073, 139, 2072, 103, 2065, 139, 2063, 2064, 2081, 139, 2079, 2080, 2085, 139, 2083, 2084, 2093, 139, 2091, 2092, 2097, 139, 2095, 2096] rfl (by decide +kernel)
set_option maxRecDepth 100000 in
theorem ev_msw_19 : GoodIn lw_tbl (ev_ms_19.flatMap ev_mw) := goodIn_r _ [2102, 139, 2100, 2101, 2110, 139, 2108, 2109, 2114, 139, 2112, 2113, 2122, 139, 2120, 2121, 2126, 139, 2124, 2125, 2137, 139, 2135, 2136, 2149, 139, 2148, 110, 2145, 139, 2143, 2144, 2153, 139, 2151, 2152, 2157, 139, 2155, 2156, 2161, 139, 2159, 2160, 2173, 139, 2172, 112, 2169, 139, 2167, 2168, 2181, 139, 2180, 113, 2177, 139, 2175, 2176, 2189, 139, 2188, 114] rfl (by decide +kernel)
set_option maxRecDepth 100000 in
theorem ev_msw_20 : GoodIn lw_tbl (ev_ms_20.flatMap ev_mw) := goodIn_r _ [2185, 139, 2183, 2184, 2197, 139, 2196, 115, 2193, 139, 2191, 2192, 2205, 139, 2204, 116, 2201, 139, 2199, 2200, 2209, 139, 2207, 2208, 2217, 139, 2216, 117, 2213, 139, 2211, 2212, 2224, 139, 2223, 2221, 139, 2219, 2220, 2228, 139, 2226, 2227, 2236, 139, 2235, 118, 2232, 139, 2230, 2231, 2248, 139, 2247, 120, 2244, 139, 2242, 2243, 2252, 139, 2250, 2251] rfl (by decide +kernel)
set_option maxRecDepth 100000 in
theorem ev_msw_21 : GoodIn lw_tbl (ev_ms_21.flatMap ev_mw) := goodIn_r _ [2260, 139, 2259, 121, 2256, 139, 2254, 2255, 2268, 139, 2266, 2267, 2276, 139, 2275, 123, 2272, 139, 2270, 2271, 2287, 139, 2286, 124, 2291, 139, 2290, 125, 2283, 139, 2282, 2280, 139, 2278, 2279, 2295, 139, 2293, 2294, 2303, 139, 2302, 126, 2299, 139, 2297, 2298, 2307, 139, 2305, 2306, 2311, 139, 2309, 2310, 2319, 139, 2318, 127, 2315, 139, 2313, 2314] rfl (by decide +kernel)
set_option maxRecDepth 100000 in
theorem ev_msw_22 : GoodIn lw_tbl (ev_ms_22.flatMap ev_mw) := goodIn_r _ [2323, 139, 2321, 2322, 2327, 139, 2325, 2326, 2331, 139, 2329, 2330, 2335, 139, 2333, 2334, 2339, 139, 2337, 2338, 2343, 139, 2341, 2342, 2351, 139, 2350, 128, 2347, 139, 2345, 2346, 2359, 139, 2358, 129, 2355, 139, 2353, 2354, 2363, 139, 2361, 2362, 2367, 139, 2365, 2366, 2371, 139, 2369, 2370, 2375, 139, 2373, 2374, 2379, 139, 2377, 2378, 2386, 139, 2385] rfl (by decide +kernel)
set_option maxRecDepth 100000 in
theorem ev_msw_23 : GoodIn lw_tbl (ev_ms_23.flatMap ev_mw) := goodIn_r _ [2383, 139, 2381, 2382, 2390, 139, 2388, 2389, 604, 145, 603, 1558, 153, 1557, 509, 130, 508, 902, 130, 901, 950, 130, 949, 966, 130, 965, 1000, 130, 999, 1012, 130, 1011, 1033, 130, 1032, 1044, 130, 1043, 1052, 130, 1051, 1059, 130, 1058, 1070, 130, 1069, 1085, 130, 1084] rfl (by decide +kernel)
set_option maxRecDepth 100000 in
theorem ev_msw_24 : GoodIn lw_tbl (ev_ms_24.flatMap ev_mw) := goodIn_r _ [1096, 130, 1095, 1104, 130, 1103, 1115, 130, 1114, 1123, 130, 1122, 1134, 130, 1133, 1149, 130, 1148, 1160, 130, 1159, 1171, 130, 1170, 1179, 130, 1178, 1191, 130, 1190, 1204, 130, 1203, 1221, 130, 1220, 1232, 130, 1231, 1252, 130, 1251, 1267, 130, 1266, 1278, 130, 1277] rfl (by decide +kernel)
set_option maxRecDepth 100000 in
theorem ev_msw_25 : GoodIn lw_tbl (ev_ms_25.flatMap ev_mw) := goodIn_r _ [1293, 130, 1292, 1300, 130, 1299, 1308, 130, 1307, 1324, 130, 1323, 1335, 130, 1334, 1347, 130, 1346, 1365, 130, 1364, 1372, 130, 1371, 1383, 130, 1382, 1405, 130, 1404, 1425, 130, 1424, 1437, 130, 1436, 1448, 130, 1447, 1456, 130, 1455, 1483, 130, 1482, 1491, 130, 1490] rfl (by decide +kernel)
set_option maxRecDepth 100000 in
theorem ev_msw_26 : GoodIn lw_tbl (ev_ms_26.flatMap ev_mw) := goodIn_r _ [1500, 130, 1499, 1513, 130, 1512, 1528, 130, 1527, 1536, 130, 1535, 1547, 130, 1546, 1564, 130, 1563, 1581, 130, 1580, 1589, 130, 1588, 1596, 130, 1595, 1608, 130, 1607, 1620, 130, 1619, 1635, 130, 1634] rfl (by decide +kernel)
def ev_look {α : Type} (k : Nat) : List (Nat × α) → Option α
  | [] => none
  | q :: r => bif Nat.beq k q.1 then some q.2 else ev_look k r
theorem ev_look_mem {α : Type} {k : Nat} {a : α} : ∀ {l : List (Nat × α)}, ev_look k l = some a → (k, a) ∈ l
  | [], h => by cases h
  | (j, b) :: r, h => by
    unfold ev_look at h
    cases hb : Nat.beq k j with
    | true =>
      rw [hb] at h
      have e := Nat.eq_of_beq_eq_true hb
      subst e
      cases h
      exact List.mem_cons_self
    | false =>
      rw [hb] at h
      exact List.mem_cons_of_mem _ (ev_look_mem h)
def ev_look2 {α : Type} (o k : Nat) (t : List (Nat × List (Nat × α))) : Option α := match ev_look o t with
  | some l => ev_look k l
  | none => none
theorem ev_look2_mem {α : Type} {o k : Nat} {a : α} {t : List (Nat × List (Nat × α))} (h : ev_look2 o k t = some a) : ∃ l, (o, l) ∈ t ∧ (k, a) ∈ l := by
  unfold ev_look2 at h
  cases hl : ev_look o t with
  | none => rw [hl] at h; cases h
  | some l => rw [hl] at h; exact ⟨l, ev_look_mem hl, ev_look_mem h⟩
def ev_LAW : Nat := 428
def ev_me (j : Nat) : Option ev_ME := match ev_look (j / 16) ev_mss with
  | some l => l[j % 16]?
  | none => none
def ev_lawME : ev_ME := (9, x, code, maxLocals, ret, 1, 0, 11, 246, [])
/-- a method, or the law -/
def ev_mel (j : Nat) : Option ev_ME := bif Nat.beq j ev_LAW then some ev_lawME else ev_me j
/-- fields: class of the code, index, (class, place) -/
def ev_flt : List (Nat × List (Nat × Nat × Nat)) := [(0, [(9, 0, 0), (15, 0, 1), (18, 0, 2), (21, 0, 3), (24, 0, 4), (27, 0, 5), (30, 0, 6), (33, 0, 7), (40, 0, 8), (43, 0, 9)]),
  (1, [(11, 1, 3), (18, 1, 4), (21, 1, 1), (25, 1, 0), (29, 1, 2)]),
  (2, [(12, 2, 0), (21, 2, 1), (25, 2, 2), (33, 5, 8), (40, 0, 2), (52, 0, 3), (55, 0, 1), (75, 5, 7), (79, 0, 8), (82, 4, 8), (98, 5, 4), (107, 5, 6), (138, 4, 0), (141, 5, 10), (149, 0, 4), (158, 4, 5), (164, 5, 11), (167, 5, 0), (173, 4, 6), (176, 4, 7), (185, 4, 2), (194, 5, 2), (197, 5, 3), (200, 0, 0), (209, 0, 6)]),
  (3, [(9, 3, 1), (15, 3, 2), (25, 3, 3), (28, 3, 4), (31, 3, 5), (34, 3, 0), (37, 3, 8), (62, 3, 6), (75, 3, 7), (100, 2, 0), (104, 4, 0), (109, 4, 1), (112, 4, 2), (115, 4, 3), (177, 2, 1), (181, 5, 6), (212, 5, 1)]),
  (4, [(9, 4, 4), (15, 4, 5), (18, 4, 6), (21, 4, 7), (24, 4, 8), (27, 4, 0), (31, 4, 1), (34, 4, 2), (37, 4, 3)]),
  (5, [(11, 5, 7), (18, 5, 8), (22, 5, 9), (25, 5, 10), (28, 5, 11), (31, 5, 0), (35, 5, 1), (38, 5, 2), (41, 5, 3), (44, 5, 4), (47, 5, 5), (50, 5, 6), (73, 0, 8), (80, 0, 0), (83, 0, 1), (86, 0, 6), (89, 0, 3), (92, 0, 4), (99, 0, 9)]),
  (6, [(9, 6, 1), (15, 6, 0), (23, 0, 8), (32, 0, 3), (38, 0, 4), (41, 0, 5), (44, 0, 6), (47, 5, 8), (62, 5, 6), (65, 5, 7), (69, 0, 0), (76, 5, 10)]),
  (7, [(9, 7, 0), (13, 7, 1), (17, 7, 2), (20, 7, 3), (23, 7, 4), (30, 7, 5), (34, 7, 6), (40, 7, 7), (47, 7, 8), (54, 7, 9), (73, 3, 0), (76, 3, 1), (85, 2, 1), (89, 5, 6), (101, 2, 0), (105, 4, 1), (110, 4, 2), (113, 4, 3), (116, 4, 0), (119, 5, 0), (122, 5, 1), (129, 5, 2), (132, 5, 3), (135, 5, 4), (138, 5, 5), (147, 4, 4), (160, 4, 5), (163, 4, 6), (166, 4, 7), (185, 5, 7), (189, 0, 0), (194, 0, 1), (195, 0, 2), (198, 0, 3), (201, 0, 4), (204, 0, 5), (207, 0, 6), (210, 0, 7), (213, 0, 8), (216, 0, 9), (222, 4, 8), (225, 5, 8), (243, 5, 10), (330, 6, 0), (345, 6, 1), (399, 1, 0), (417, 1, 1)]),
  (8, [(9, 8, 1), (13, 8, 2), (16, 8, 3), (19, 8, 4), (22, 8, 5), (26, 8, 8), (30, 8, 11), (34, 8, 17), (37, 8, 18), (40, 8, 0), (47, 8, 6), (55, 8, 9), (62, 8, 10), (65, 8, 12), (72, 8, 13), (75, 8, 14), (78, 8, 15), (88, 8, 16), (224, 8, 7), (425, 8, 19)])]
def ev_flw1 (o : Nat) (q : Nat × Nat × Nat) : Cond := match vwCl[q.2.1]? with
  | some r => .fieldLink (ev_own.getD o "") q.1 (r.2.1 q.2.2).1 (r.2.1 q.2.2).2.1 (r.2.1 q.2.2).2.2.1
  | none => .tt
def ev_flw : List Cond := ev_flt.flatMap (fun p => p.2.map (ev_flw1 p.1))
set_option maxRecDepth 100000 in
theorem ev_flw_in : GoodIn lw_tbl ev_flw := goodIn_r _ [236, 241, 245, 248, 253, 258, 261, 266, 268, 273, 423, 424, 420, 418, 422, 359, 362, 365, 324, 246, 249, 242, 321, 271, 200, 311, 317, 177, 331, 257, 192, 333, 299, 195, 198, 184, 305, 308, 240, 265, 381, 383, 384, 385, 386, 379, 389, 387, 388, 361, 176, 180, 183, 187, 364, 318, 302, 188, 190, 193, 196, 199, 174, 178, 181, 185, 319, 323, 327, 328, 332, 297, 300, 303, 306, 309, 312, 314, 270, 238, 244, 264, 252, 256, 275, 445, 443, 269, 250, 254, 259, 262, 325, 316, 320, 237, 329, 452, 453, 454, 455, 456, 457, 458, 459, 460, 461, 380, 382, 363, 315, 360, 179, 182, 186, 175, 298, 301, 304, 307, 310, 313, 189, 191, 194, 197, 322, 239, 243, 247, 251, 255, 260, 263, 267, 272, 274, 201, 326, 330, 444, 446, 419, 421, 1652, 1653, 1654, 1655, 1656, 1659, 1662, 1668, 1669, 1651, 1657, 1660, 1661, 1663, 1664, 1665, 1666, 1667, 1658, 1670] rfl (by decide +kernel)
set_option maxRecDepth 100000 in
theorem ev_fl_ok : ev_flt.all (fun p => p.2.all (fun q => match vwCl[q.2.1]? with | some r => decide (q.2.2 < r.2.2) | none => false)) = true := by decide +kernel
/-- calls: class of the code, index, method -/
def ev_tgt : List (Nat × List (Nat × Nat)) := [(0, [(36, 3), (46, 4), (50, 7), (60, 11), (64, 12), (70, 15), (74, 16), (77, 371), (82, 8)]),
  (1, [(17, 93), (32, 22), (35, 95)]),
  (2, [(11, 86), (20, 93), (29, 87), (32, 94), (36, 98), (58, 10), (62, 33), (66, 92), (69, 11), (72, 12), (85, 30), (88, 35), (91, 13), (95, 113), (101, 34), (104, 36), (110, 37), (113, 42), (117, 7), (121, 45), (128, 46), (132, 43), (135, 48), (143, 49), (146, 110), (152, 50), (155, 51), (161, 99), (170, 53), (179, 55), (182, 102), (188, 56), (191, 104), (203, 3), (206, 100)]),
  (3, [(41, 29), (46, 73), (49, 64), (53, 75), (56, 69), (59, 74), (65, 68), (68, 66), (72, 67), (78, 65), (93, 70), (97, 72), (120, 77), (125, 78), (130, 79), (135, 80), (140, 81), (145, 82), (150, 83), (155, 84), (160, 85), (163, 76), (167, 88), (170, 89), (174, 90), (186, 71), (189, 96), (193, 37), (196, 109), (199, 38), (202, 39), (205, 50), (208, 51), (214, 115)]),
  (5, [(53, 370), (59, 2), (69, 1), (76, 6), (95, 3), (102, 112), (105, 98), (109, 116), (113, 117), (122, 114), (126, 14), (129, 119)]),
  (6, [(19, 121), (28, 125), (35, 122), (52, 123), (55, 97), (59, 124), (72, 5)]),
  (7, [(29, 28), (39, 62), (46, 21), (53, 120), (58, 200), (69, 63), (82, 23), (94, 192), (97, 198), (125, 100), (141, 101), (151, 105), (154, 106), (157, 195), (169, 102), (172, 103), (175, 99), (179, 54), (182, 193), (219, 194), (228, 30), (231, 31), (234, 32), (237, 97), (245, 108), (248, 61), (251, 5), (254, 4), (257, 104), (260, 37), (263, 197), (266, 38), (269, 8), (272, 9), (275, 34), (278, 35), (281, 36), (284, 40), (287, 41), (290, 43), (294, 44), (297, 47), (300, 19), (303, 118), (311, 56), (314, 57), (317, 58), (320, 20), (323, 107), (326, 126), (333, 127), (337, 128), (340, 129), (348, 199), (352, 24), (356, 109), (359, 39), (362, 50), (365, 51), (368, 52), (371, 111), (374, 113), (377, 17), (380, 18), (383, 59), (386, 60), (389, 115), (392, 91), (395, 96), (407, 25), (410, 196), (413, 26), (423, 27)]),
  (8, [(43, 205), (51, 208), (58, 212), (68, 202), (81, 216), (85, 217), (91, 220), (104, 219), (107, 222), (111, 218), (114, 224), (118, 223), (121, 240), (125, 204), (129, 228), (133, 247), (137, 251), (140, 252), (143, 254), (146, 263), (149, 266), (152, 267), (155, 271), (160, 221), (164, 225), (169, 226), (174, 227), (179, 229), (182, 236), (187, 230), (192, 231), (197, 232), (202, 233), (207, 234), (212, 235), (215, 209), (218, 237), (221, 210), (227, 241), (230, 243), (233, 242), (236, 246), (239, 248), (242, 245), (245, 203), (249, 244), (252, 250), (260, 253), (263, 255), (266, 256), (269, 257), (272, 258), (278, 260), (281, 259), (284, 262), (287, 264), (290, 265), (293, 268), (296, 269), (299, 270), (302, 239), (305, 274), (308, 275), (311, 249), (314, 206), (318, 280), (321, 279), (324, 284), (327, 285), (330, 286), (333, 282), (336, 290), (339, 283), (342, 292), (345, 277), (348, 295), (351, 297), (354, 288), (357, 298), (360, 207), (367, 287), (370, 278), (373, 289), (376, 272), (379, 310), (382, 261), (385, 315), (388, 317), (391, 319), (395, 321), (398, 323), (401, 326), (404, 328), (407, 276), (410, 331), (413, 333), (416, 273), (419, 336), (422, 339), (428, 341), (431, 343), (434, 342), (437, 346), (440, 350), (443, 358), (446, 360), (449, 367)]),
  (9, [(7, 132), (17, 136), (22, 137), (26, 138), (29, 139), (32, 140), (35, 141), (38, 142), (41, 143), (45, 144), (48, 145), (51, 146), (54, 147), (57, 148), (60, 149), (63, 150), (66, 151), (69, 152), (72, 153), (75, 154), (78, 155), (81, 156), (84, 157), (87, 158), (91, 159), (94, 160), (97, 161), (100, 162), (103, 163), (106, 164), (109, 165), (112, 166), (115, 167), (118, 168), (121, 169), (125, 170), (129, 171), (132, 172), (135, 173), (138, 174), (141, 175), (144, 176), (147, 177), (150, 178), (153, 179), (156, 180), (159, 181), (162, 182), (165, 183), (168, 184), (171, 185), (174, 186), (177, 187), (181, 188), (184, 190), (187, 191), (190, 130), (193, 201), (194, 131), (198, 211), (199, 372), (204, 238), (205, 133), (208, 213), (209, 134), (212, 214), (213, 135), (216, 215), (217, 373), (219, 281), (220, 374), (223, 291), (224, 375), (226, 293), (227, 376), (229, 294), (230, 377), (232, 296), (233, 378), (235, 299), (236, 379), (238, 300), (239, 380), (242, 301), (243, 381), (245, 302), (246, 382), (248, 303), (249, 383), (251, 304), (252, 384), (254, 305), (255, 385), (257, 306), (258, 386), (260, 307), (261, 387), (263, 308), (264, 388), (266, 309), (267, 389), (269, 311), (270, 390), (272, 312), (273, 391), (275, 313), (276, 392), (278, 314), (279, 393), (281, 316), (282, 394), (284, 318), (285, 395), (288, 320), (289, 396), (291, 322), (292, 397), (294, 324), (295, 398), (297, 325), (298, 399), (300, 327), (301, 400), (303, 329), (304, 401), (306, 330), (307, 402), (309, 332), (310, 403), (312, 334), (313, 404), (315, 335), (316, 405), (318, 337), (319, 406), (322, 338), (323, 407), (325, 340), (326, 408), (328, 344), (329, 409), (331, 345), (332, 410), (334, 347), (335, 411), (337, 348), (338, 412), (340, 349), (341, 413), (343, 351), (344, 414), (346, 352), (347, 415), (349, 353), (350, 416), (352, 354), (353, 417), (355, 356), (356, 418), (358, 355), (359, 419), (361, 357), (362, 420), (364, 359), (365, 421), (367, 361), (368, 422), (370, 362), (371, 423), (373, 363), (374, 424), (377, 364), (378, 425), (380, 365), (381, 189), (384, 366), (385, 426), (387, 368), (388, 427), (390, 369)])]
def ev_tgw1 (o : Nat) (q : Nat × Nat) : Cond := match ev_me q.2 with
  | some e => .methodLink (ev_own.getD o "") q.1 (ev_y e)
  | none => .tt
def ev_tgw (p : Nat × List (Nat × Nat)) : List Cond := p.2.map (ev_tgw1 p.1)
def ev_tgp_0 : List Nat := [742, 944, 1143, 806, 807, 1357, 1360, 1556, 1356]
set_option maxRecDepth 100000 in
theorem ev_tgw_in_0 : GoodIn lw_tbl (ev_tgw (ev_tgt.getD 0 (0, []))) := goodIn_r _ ev_tgp_0 (by rfl) (by decide +kernel)
def ev_tgp_1 : List Nat := [417, 896, 1469]
set_option maxRecDepth 100000 in
theorem ev_tgw_in_1 : GoodIn lw_tbl (ev_tgw (ev_tgt.getD 1 (0, []))) := goodIn_r _ ev_tgp_1 (by rfl) (by decide +kernel)
def ev_tgp_2 : List Nat := [170, 225, 594, 598, 773, 786, 782, 790, 798, 1188, 769, 794, 802, 815, 1200, 1201, 1213, 1214, 1218, 1241, 1245, 1249, 1261, 829, 837, 1509, 1510, 992, 993, 1317, 1321, 1344, 1573, 1578, 1079]
set_option maxRecDepth 100000 in
theorem ev_tgw_in_2 : GoodIn lw_tbl (ev_tgw (ev_tgt.getD 2 (0, []))) := goodIn_r _ ev_tgp_2 (by rfl) (by decide +kernel)
def ev_tgp_3 : List Nat := [590, 605, 613, 690, 609, 872, 617, 621, 625, 629, 634, 686, 695, 708, 717, 726, 747, 761, 821, 842, 847, 699, 703, 712, 721, 730, 734, 751, 755, 765, 778, 825, 833, 851]
set_option maxRecDepth 100000 in
theorem ev_tgw_in_3 : GoodIn lw_tbl (ev_tgw (ev_tgt.getD 3 (0, []))) := goodIn_r _ ev_tgp_3 (by rfl) (by decide +kernel)
def ev_tgp_4 : List Nat := [602, 1473, 738, 940, 759, 1522, 819, 855, 860, 864, 868, 1287]
set_option maxRecDepth 100000 in
theorem ev_tgw_in_4 : GoodIn lw_tbl (ev_tgw (ev_tgt.getD 4 (0, []))) := goodIn_r _ ev_tgp_4 (by rfl) (by decide +kernel)
def ev_tgp_5 : List Nat := [1395, 1392, 1399, 1414, 1418, 1419, 1434]
set_option maxRecDepth 100000 in
theorem ev_tgw_in_5 : GoodIn lw_tbl (ev_tgw (ev_tgt.getD 5 (0, []))) := goodIn_r _ ev_tgp_5 (by rfl) (by decide +kernel)
def ev_tgp_6 : List Nat := [164, 375, 411, 439, 487, 583, 892, 908, 928, 932, 936, 956, 960, 971, 976, 980, 984, 988, 1005, 1017, 1022, 1023, 1027, 1038, 1064, 1075, 1090, 1101, 1109, 1120, 1128, 1131, 1139, 1154, 1165, 1176, 1184, 1196, 1209, 1226, 1237, 1257, 1272, 1283, 1313, 1329, 1340, 1352, 1377, 1388, 1410, 1430, 1442, 1461, 1465, 1480, 1488, 1496, 1497, 1505, 1518, 1533, 1541, 1552, 1569, 1574, 1586, 1601, 1605, 1614, 1625, 1629, 1641]
set_option maxRecDepth 100000 in
theorem ev_tgw_in_6 : GoodIn lw_tbl (ev_tgw (ev_tgt.getD 6 (0, []))) := goodIn_r _ ev_tgp_6 (by rfl) (by decide +kernel)
def ev_tgp_7 : List Nat := [1739, 1747, 1716, 1736, 1758, 1762, 1771, 1777, 1785, 1754, 1798, 1781, 1807, 1825, 1821, 1828, 1849, 1876, 1885, 1894, 1932, 1944, 1958, 1767, 1794, 1803, 1812, 1817, 1840, 1845, 1881, 1928, 1949, 1954, 1789, 1743, 1750, 1974, 1861, 1857, 1832, 1836, 1994, 1869, 1873, 1853, 1865, 1889, 1906, 1902, 1898, 1914, 1922, 1910, 1918, 1940, 1936, 1970, 1962, 1966, 2030, 2022, 2038, 1990, 1982, 1986, 1998, 2046, 2054, 2131, 2006, 2010, 2018, 2026, 2034, 2058, 2074, 2066, 2070, 2086, 2103, 2115, 2127, 2138, 2146, 2162, 2170, 2178, 2186, 2194, 2202, 2214, 2222, 2237, 2233, 2245, 2261, 2257, 2273, 2284, 2281, 2288, 2300, 2316, 2348, 2356, 2384]
set_option maxRecDepth 100000 in
theorem ev_tgw_in_7 : GoodIn lw_tbl (ev_tgw (ev_tgt.getD 7 (0, []))) := goodIn_r _ ev_tgp_7 (by rfl) (by decide +kernel)
def ev_tgp_8 : List Nat := [512, 904, 951, 967, 1001, 1013, 1034, 1045, 1053, 1060, 1071, 1086, 1097, 1105, 1116, 1124, 1135, 1150, 1161, 1172, 1180, 1192, 1205, 1222, 1233, 1253, 1268, 1279, 1294, 1301, 1309, 1325, 1336, 1348, 1366, 1373, 1384, 1406, 1426, 1438, 1449, 1457, 1484, 1492, 1501, 1514, 1529, 1537, 1548, 1565, 1582, 1590, 1597, 1609, 1621, 1636, 156, 1647, 483, 1712, 507, 1732, 491, 1720, 495, 1724, 499, 1728, 900, 1978, 948, 2002, 964, 2014, 998, 2042, 1010, 2050, 1031, 2062, 1042, 2078, 1050, 2082, 1057, 2090, 1068, 2094, 1083, 2099, 1094, 2107, 1102, 2111, 1113, 2119, 1121, 2123, 1132, 2134, 1147, 2142, 1158, 2150, 1169, 2154, 1177, 2158, 1189, 2166, 1202, 2174, 1219, 2182, 1230, 2190, 1250, 2198, 1265, 2206, 1276, 2210, 1291, 2218, 1298, 2225, 1306, 2229, 1322, 2241, 1333, 2249, 1345, 2253, 1363, 2265, 1370, 2269, 1381, 2277, 1403, 2292, 1423, 2296, 1435, 2304, 1446, 2308, 1454, 2312, 1481, 2320, 1489, 2324, 1498, 2328, 1511, 2336, 1526, 2332, 1534, 2340, 1545, 2344, 1562, 2352, 1579, 2360, 1587, 2364, 1594, 2368, 1606, 2372, 503, 2376, 1618, 2380, 1633, 2387]
set_option maxRecDepth 100000 in
theorem ev_tgw_in_8 : GoodIn lw_tbl (ev_tgw (ev_tgt.getD 8 (0, []))) := goodIn_r _ ev_tgp_8 (by rfl) (by decide +kernel)
set_option maxRecDepth 100000 in
theorem ev_tgw_in : ∀ p ∈ ev_tgt, GoodIn lw_tbl (ev_tgw p) := by
  intro p hp
  obtain ⟨i, hi⟩ := List.getElem?_of_mem hp
  have h9 : ev_tgt.getD i (0, []) = p := by rw [List.getD_eq_getElem?_getD, hi]; rfl
  have hl : i < 9 := (List.getElem?_eq_some_iff.mp hi).1
  rw [← h9]
  match i, hl with
  | 0, _ => exact ev_tgw_in_0
  | 1, _ => exact ev_tgw_in_1
  | 2, _ => exact ev_tgw_in_2
  | 3, _ => exact ev_tgw_in_3
  | 4, _ => exact ev_tgw_in_4
  | 5, _ => exact ev_tgw_in_5
  | 6, _ => exact ev_tgw_in_6
  | 7, _ => exact ev_tgw_in_7
  | 8, _ => exact ev_tgw_in_8
/-- the one call of a nest mate: class of the code, index, method -/
def ev_nst : Nat × Nat × Nat := (5, 17, 0)
def ev_nsw : Cond := .methodLinkNest "FlagLaundry$State" 17 ⟨"FlagLaundry$Flag", "<init>", "()V"⟩ "FlagLaundry"
set_option maxRecDepth 100000 in
theorem ev_nsw_in : ev_nsw ∈ lw_tbl := List.mem_of_getElem? (i := 232) (by decide +kernel)
/-- calls of the JDK: class of the code, index, 100 max 101 min 102 abs 103 Object() 104 arraycopy 105 length 106 charAt -/
def ev_nat : List (Nat × List (Nat × Nat)) := [(0, [(3, 103), (54, 100), (67, 101)]),
  (1, [(3, 103)]),
  (2, [(3, 103), (46, 101), (125, 100), (212, 102)]),
  (3, [(3, 103), (19, 101), (82, 105), (87, 106)]),
  (4, [(3, 103)]),
  (5, [(3, 103), (63, 104), (116, 100)]),
  (6, [(3, 103)]),
  (7, [(1, 103), (306, 101)]),
  (8, [(1, 103), (94, 105), (100, 106), (255, 101), (275, 100), (364, 102)])]
def ev_natn (k : Nat) : MethodName := match k with
  | 100 => Lib.Math.max.name
  | 101 => Lib.Math.min.name
  | 102 => Lib.Math.abs.name
  | 103 => Lib.objectInit
  | 104 => arraycopyName
  | 105 => ⟨"java/lang/String", "length", "()I"⟩
  | _ => ⟨"java/lang/String", "charAt", "(I)C"⟩
def ev_natw : List Cond := ev_nat.flatMap (fun p => p.2.map (fun q => .methodLink (ev_own.getD p.1 "") q.1 (ev_natn q.2)))
set_option maxRecDepth 100000 in
theorem ev_natw_in : GoodIn lw_tbl ev_natw := goodIn_r _ [235, 811, 814, 414, 167, 777, 997, 1080, 378, 587, 638, 648, 173, 228, 1477, 859, 442, 159, 1305, 1650, 1775, 1776, 1893, 1926, 2098] rfl (by decide +kernel)
def ev_jdw : List Cond := [.code Lib.Math.max.name Lib.Math.max.code 2 (some .int), .static Lib.Math.max.name, .code Lib.Math.min.name Lib.Math.min.code 2 (some .int), .static Lib.Math.min.name, .code Lib.Math.abs.name Lib.Math.abs.code 1 (some .int), .static Lib.Math.abs.name, .code Lib.objectInit ⟨#[0xb1]⟩ 1 none, .instanceMethod Lib.objectInit, .initialized "java/lang/Math", .static arraycopyName, .native arraycopyName, .initialized "java/lang/System"]
set_option maxRecDepth 100000 in
theorem ev_jdw_in : GoodIn lw_tbl ev_jdw := goodIn_r _ [813, 812, 589, 588, 1082, 1081, 161, 160, 144, 1478, 1479, 152] rfl (by decide +kernel)
/-- classes named by an index: class of the code, index, class -/
def ev_clt : List (Nat × List (Nat × Nat)) := [(1, [(9, 5)]),
  (2, [(9, 4), (18, 5)]),
  (5, [(9, 0)]),
  (7, [(27, 2), (37, 3), (44, 1), (51, 6)]),
  (9, [(8, 7), (191, 8)])]
def ev_clw1 (o : Nat) (q : Nat × Nat) : Cond := match vwCl[q.2]? with
  | some r => .classLink (ev_own.getD o "") q.1 r.1
  | none => .tt
def ev_clw : List Cond := ev_clt.flatMap (fun p => p.2.map (ev_clw1 p.1))
set_option maxRecDepth 100000 in
theorem ev_clw_in : GoodIn lw_tbl ev_clw := goodIn_r _ [415, 168, 223, 229, 162, 373, 409, 437, 154, 1645] rfl (by decide +kernel)
def ev_insw : List Cond := vwCl.flatMap (fun r => [.instantiable r.1 r.2.2, .initialized r.1])
set_option maxRecDepth 100000 in
theorem ev_insw_in : GoodIn lw_tbl ev_insw := goodIn_r _ [231, 135, 410, 137, 163, 132, 374, 136, 169, 133, 224, 134, 438, 138, 155, 131, 1646, 139] rfl (by decide +kernel)
def ev_arrw : List Cond := [.arrayClass .byte, .arrayClass .int, .arrayClass .boolean, .arrayClass .long, .arrayClass .double]
set_option maxRecDepth 100000 in
theorem ev_arrw_in : GoodIn lw_tbl ev_arrw := goodIn_r _ [221, 222, 436, 2391, 2392] rfl (by decide +kernel)
set_option maxRecDepth 100000 in
theorem ev_ao_Flag : Cond.arrayOver (.object RX0) ∈ lw_tbl := List.mem_of_getElem? (i := 230) (by decide +kernel)
set_option maxRecDepth 100000 in
theorem ev_ao_State : Cond.arrayOver (.object RX5) ∈ lw_tbl := List.mem_of_getElem? (i := 416) (by decide +kernel)
/-- int constants: class of the code, index, value -/
def ev_cst : List (Nat × Nat × Int32) := [(11, 265, 1431655765), (11, 266, 858993459), (11, 267, 252645135)]
def ev_cstw : List Cond := ev_cst.map (fun q => .constant (ev_own.getD q.1 "") q.2.1 q.2.2)
set_option maxRecDepth 100000 in
theorem ev_cstw_in : GoodIn lw_tbl ev_cstw := goodIn_r _ [1559, 1560, 1561] rfl (by decide +kernel)
/-- throw sites: method, pc, (exception 0 state 1 index 2 argument, class index, text index, constructor index, wide) -/
def ev_thr : List (Nat × List (Nat × Nat × Nat × Nat × Nat × Nat)) := [(132, [(12, 1, 62, 64, 66, 0), (72, 2, 77, 79, 81, 0)]), (137, [(22, 1, 62, 145, 66, 0)]), (142, [(22, 1, 62, 241, 66, 0)]), (175, [(15, 1, 62, 343, 66, 1)]), (188, [(10, 0, 402, 404, 406, 1)]), (191, [(16, 0, 402, 421, 406, 1)]), (192, [(7, 0, 402, 426, 406, 1)]), (193, [(22, 1, 62, 428, 66, 1)]), (194, [(22, 1, 62, 430, 66, 1)]), (195, [(22, 1, 62, 432, 66, 1)]), (196, [(9, 1, 62, 434, 66, 1)]), (198, [(10, 2, 77, 436, 81, 1)]), (199, [(4, 2, 77, 438, 81, 1)])]
def ev_ex (k : Nat) : String := match k with
  | 0 => "java/lang/IllegalStateException"
  | 1 => "java/lang/IndexOutOfBoundsException"
  | _ => "java/lang/IllegalArgumentException"
/-- the classes that the law's handlers name: index, exception -/
def ev_hct : List (Nat × Nat) := [(13, 1), (15, 2), (20, 0)]
def ev_hcw : List Cond := ev_hct.map (fun q => .classLink "FlagLaundryLaw" q.1 (ev_ex q.2))
set_option maxRecDepth 100000 in
theorem ev_hcw_in : GoodIn lw_tbl ev_hcw := goodIn_r _ [510, 511, 903] rfl (by decide +kernel)
/-- what a throw needs of the tables: (class of the code, exception, class index, constructor index) -/
def ev_thk : List (Nat × Nat × Nat × Nat) := [(7, 1, 62, 66), (7, 2, 77, 81), (7, 0, 402, 406)]
set_option maxRecDepth 100000 in
theorem ev_thk_cl : GoodIn lw_tbl (ev_thk.map (fun q => Cond.classLink (ev_own.getD q.1 "") q.2.2.1 (ev_ex q.2.1))) := goodIn_r _ [516, 876, 912] rfl (by decide +kernel)
set_option maxRecDepth 100000 in
theorem ev_thk_in : GoodIn lw_tbl [Cond.initialized (ev_ex 0), Cond.initialized (ev_ex 1), Cond.initialized (ev_ex 2)] := goodIn_r _ [151, 143, 150] rfl (by decide +kernel)
set_option maxRecDepth 100000 in
theorem ev_thk_at : ev_thk.all (fun q => ((vx_atS (ev_own.getD q.1 "") q.2.2.2 (ev_ex q.2.1) ["java/lang/RuntimeException", "java/lang/Exception"]).filter goodWord).all (fun w => decide (w ∈ lw_tbl))) = true := by decide +kernel
def ev_ngw : List Cond := [.castable (ev_ex 0) (ev_ex 0), .castable (ev_ex 1) (ev_ex 1), .castable (ev_ex 2) (ev_ex 2), .declares ⟨"java/lang/RuntimeException", "<init>", "(Ljava/lang/String;)V"⟩, .declares ⟨"java/lang/Exception", "<init>", "(Ljava/lang/String;)V"⟩, .declares ⟨"java/lang/Throwable", "<init>", "(Ljava/lang/String;)V"⟩]
set_option maxRecDepth 100000 in
theorem ev_ngw_eq : ev_ngw = ([914, 518, 878, 520, 522, 524]).filterMap (fun i => lw_tbl[i]?) := by rfl
set_option maxRecDepth 100000 in
theorem ev_ngw_in : ∀ w ∈ ev_ngw, w ∈ lw_tbl := fun w hw => by
  rw [ev_ngw_eq] at hw
  obtain ⟨i, -, hi⟩ := List.mem_filterMap.mp hw
  exact List.mem_of_getElem? hi
set_option maxRecDepth 100000 in
theorem ev_thk_ng : ev_thk.all (fun q => ((vx_atS (ev_own.getD q.1 "") q.2.2.2 (ev_ex q.2.1) ["java/lang/RuntimeException", "java/lang/Exception"]).filter (fun w => !goodWord w)).all (fun w => decide (w ∈ ev_ngw))) = true := by decide +kernel
set_option maxRecDepth 100000 in
theorem ev_thk_ot : ev_thk.all (fun q => (Cond.classLink (ev_own.getD q.1 "") q.2.2.1 (ev_ex q.2.1) :: Cond.initialized (ev_ex q.2.1) :: vx_atS (ev_own.getD q.1 "") q.2.2.2 (ev_ex q.2.1) ["java/lang/RuntimeException", "java/lang/Exception"]).all vx_ot) = true := by decide +kernel
/-- String constants: class of the code, index, text -/
def ev_str : List (Nat × Nat × String) := [(7, 64, "not so many bytes in the buffer"),
  (3, 91, "line"),
  (3, 118, "colour"),
  (3, 123, "nation"),
  (3, 128, "tub"),
  (3, 133, "flag"),
  (3, 138, "put"),
  (3, 143, "wash"),
  (3, 148, "hang"),
  (3, 153, "wind"),
  (3, 158, "pass"),
  (7, 79, "the text has an error"),
  (7, 426, "no text was loaded"),
  (7, 436, "out of range"),
  (7, 145, "no such colour"),
  (7, 432, "no such nation"),
  (7, 428, "no such flag"),
  (7, 430, "no such tub"),
  (7, 241, "no such peg"),
  (7, 343, "no such byte"),
  (7, 438, "this can not be done now"),
  (7, 404, "nothing to undo"),
  (7, 434, "no such slot"),
  (7, 421, "nothing is saved there"),
  (8, 210, "line"),
  (8, 158, "colour"),
  (8, 167, "nation"),
  (8, 172, "tub"),
  (8, 177, "flag"),
  (8, 185, "put"),
  (8, 190, "wash"),
  (8, 195, "hang"),
  (8, 200, "wind"),
  (8, 205, "pass")]
set_option maxRecDepth 100000 in
theorem ev_str_in : ∀ q ∈ ev_str, Cond.stringRef (ev_own.getD q.1 "") q.2.1 q.2.2 ∈ lw_tbl := by
  have h : (ev_str.map (fun q => Cond.stringRef (ev_own.getD q.1 "") q.2.1 q.2.2)) = ([557, 633, 694, 707, 716, 725, 746, 760, 820, 841, 846, 885, 921, 931, 955, 975, 1009, 1021, 1049, 1453, 1464, 1613, 1628, 1640, 1766, 1793, 1802, 1811, 1816, 1844, 1880, 1927, 1948, 1953]).filterMap (fun i => lw_tbl[i]?) := by rfl
  intro q hq
  have h1 : Cond.stringRef (ev_own.getD q.1 "") q.2.1 q.2.2 ∈ ev_str.map (fun q => Cond.stringRef (ev_own.getD q.1 "") q.2.1 q.2.2) := List.mem_map.mpr ⟨q, hq, rfl⟩
  rw [h] at h1
  obtain ⟨i, -, hi⟩ := List.mem_filterMap.mp h1
  exact List.mem_of_getElem? hi
