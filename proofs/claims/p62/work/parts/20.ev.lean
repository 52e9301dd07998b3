/-! an evaluator of the bytecode over flat worlds -/
/-- a world: cells, cells counted, slots counted, whether cells may still be made, kinds, lengths, numbers, references, longs, doubles -/
abbrev ev_W : Type := Nat × Nat × Nat × Bool × (Nat → Nat) × (Nat → Nat) × (Nat → Nat → Int32) × (Nat → Nat → Option Nat) × (Nat → Nat → Int64) × (Nat → Nat → UInt64)
abbrev w_n (w : ev_W) : Nat := w.1
abbrev w_c (w : ev_W) : Nat := w.2.1
abbrev w_z (w : ev_W) : Nat := w.2.2.1
abbrev w_l (w : ev_W) : Bool := w.2.2.2.1
abbrev w_K (w : ev_W) : Nat → Nat := w.2.2.2.2.1
abbrev w_L (w : ev_W) : Nat → Nat := w.2.2.2.2.2.1
abbrev w_I (w : ev_W) : Nat → Nat → Int32 := w.2.2.2.2.2.2.1
abbrev w_R (w : ev_W) : Nat → Nat → Option Nat := w.2.2.2.2.2.2.2.1
abbrev w_J (w : ev_W) : Nat → Nat → Int64 := w.2.2.2.2.2.2.2.2.1
abbrev w_D (w : ev_W) : Nat → Nat → UInt64 := w.2.2.2.2.2.2.2.2.2
def ev_u1 {α : Type} (f : Nat → α) (a : Nat) (x : α) : Nat → α := fun b => if b = a then x else f b
def ev_u2 {α : Type} (f : Nat → Nat → α) (a i : Nat) (x : α) : Nat → Nat → α := fun b => if b = a then (fun j => if j = i then x else f b j) else f b
def w_sI (w : ev_W) (a i : Nat) (x : Int32) : ev_W := (w.1, w.2.1, w.2.2.1, w.2.2.2.1, w.2.2.2.2.1, w.2.2.2.2.2.1, ev_u2 w.2.2.2.2.2.2.1 a i x, w.2.2.2.2.2.2.2.1, w.2.2.2.2.2.2.2.2.1, w.2.2.2.2.2.2.2.2.2)
def w_sR (w : ev_W) (a i : Nat) (x : Option Nat) : ev_W := (w.1, w.2.1, w.2.2.1, w.2.2.2.1, w.2.2.2.2.1, w.2.2.2.2.2.1, w.2.2.2.2.2.2.1, ev_u2 w.2.2.2.2.2.2.2.1 a i x, w.2.2.2.2.2.2.2.2.1, w.2.2.2.2.2.2.2.2.2)
def w_sJ (w : ev_W) (a i : Nat) (x : Int64) : ev_W := (w.1, w.2.1, w.2.2.1, w.2.2.2.1, w.2.2.2.2.1, w.2.2.2.2.2.1, w.2.2.2.2.2.2.1, w.2.2.2.2.2.2.2.1, ev_u2 w.2.2.2.2.2.2.2.2.1 a i x, w.2.2.2.2.2.2.2.2.2)
def w_sD (w : ev_W) (a i : Nat) (x : UInt64) : ev_W := (w.1, w.2.1, w.2.2.1, w.2.2.2.1, w.2.2.2.2.1, w.2.2.2.2.2.1, w.2.2.2.2.2.2.1, w.2.2.2.2.2.2.2.1, w.2.2.2.2.2.2.2.2.1, ev_u2 w.2.2.2.2.2.2.2.2.2 a i x)
/-- a new cell of kind k, length len -/
def w_nw (w : ev_W) (k len : Nat) : ev_W := (w.1 + 1, w.2.1 + 1, w.2.2.1 + len, w.2.2.2.1, ev_u1 w.2.2.2.2.1 w.1 k, ev_u1 w.2.2.2.2.2.1 w.1 len, ev_u1 w.2.2.2.2.2.2.1 w.1 (fun _ => 0), ev_u1 w.2.2.2.2.2.2.2.1 w.1 (fun _ => none), ev_u1 w.2.2.2.2.2.2.2.2.1 w.1 (fun _ => 0), ev_u1 w.2.2.2.2.2.2.2.2.2 w.1 (fun _ => 0))
/-- an exception has been made -/
def w_th (w : ev_W) : ev_W := (w.1, w.2.1 + 1, w.2.2.1 + 6, false, w.2.2.2.2)
/-- copying n numbers -/
def w_cp (w : ev_W) (a : Nat) (f : Nat → Int32) : ev_W := (w.1, w.2.1, w.2.2.1, w.2.2.2.1, w.2.2.2.2.1, w.2.2.2.2.2.1, ev_u1 w.2.2.2.2.2.2.1 a f, w.2.2.2.2.2.2.2.1, w.2.2.2.2.2.2.2.2.1, w.2.2.2.2.2.2.2.2.2)
/-- the script's name; a text's name is ev_S + 1 + its place -/
def ev_S : Nat := 1000000
abbrev ev_L : Type := List (Option Value)
/-- an outcome (an answer, or an exception's number), and the world behind it -/
abbrev ev_R : Type := (Option Value ⊕ Nat) × ev_W
def ev_fty (ci k : Nat) : Nat := (ev_ft.getD ci []).getD k 9
def ev_jmp (pc : Nat) (off : Int) : Option Nat := match (pc : Int) + off with
  | .ofNat t => some t
  | .negSucc _ => none
def ev_t1 (c : ClassFile.Cond) (x : Int32) : Bool := match c with
  | .eq => decide (x = 0)
  | .ne => decide (¬ x = 0)
  | .lt => decide (x < 0)
  | .ge => decide (0 ≤ x)
  | .gt => decide (0 < x)
  | .le => decide (x ≤ 0)
def ev_t2 (c : ClassFile.Cond) (x y : Int32) : Bool := match c with
  | .eq => decide (x = y)
  | .ne => decide (¬ x = y)
  | .lt => decide (x < y)
  | .ge => decide (y ≤ x)
  | .gt => decide (y < x)
  | .le => decide (x ≤ y)
def ev_ok (i : Int32) (n : Nat) : Bool := decide (0 ≤ i) && decide (i.toNatClampNeg < n)
def ev_cat (st : List Value) : Nat := (st.map fun v => v.category).sum
/-- may a method of this type answer so -/
def ev_rok (r : Option FieldType) (v : Option Value) : Bool := match r, v with
  | none, none => true
  | some .int, some (.int _) => true
  | some .boolean, some (.int x) => decide (x = 0 ∨ x = 1)
  | some .char, some (.int x) => decide (x = 98 ∨ x = 116 ∨ x = 108 ∨ x = 103)
  | some (.object _), some (.ref _) => true
  | some (.object _), some .null => true
  | some .float, some (.float _) => true
  | some .double, some (.double _) => true
  | _, _ => false
/-- the first locals -/
def ev_in (n : Nat) (as : List Value) : ev_L := as.map some ++ List.replicate (n - as.length) none
def ev_sto (ls : ev_L) (i : Nat) (v : Value) : ev_L := ls.set i (some v)
/-- no long value ends at i -/
def ev_c1 (ls : ev_L) (i : Nat) : Bool := match i with
  | 0 => true
  | j + 1 => match ls[j]? with
    | some (some v) => v.category == 1
    | _ => true
def ev_akind (t : ArrayType) : Option Nat := match t with
  | .byte => some 9
  | .int => some 10
  | .boolean => some 11
  | .long => some 14
  | .double => some 15
  | _ => none
/-- the row of the table that takes the exception -/
def ev_han (pc E : Nat) : List (Nat × Nat × Nat × Nat) → Option Nat
  | [] => none
  | h :: r => match ev_look h.2.2.2 ev_hct with
    | some E2 => bif decide (h.1 ≤ pc) && decide (pc < h.2.1) && Nat.beq E E2 then some h.2.2.1 else ev_han pc E r
    | none => none
/-- what a handler answers: it stores the exception, pushes a number, returns -/
def ev_hret (m q : Nat) (ls : ev_L) : Option Int32 := match ev_cd m q with
  | some (.astore_n a, 1) => bif decide ((a : Nat) < ls.length) && ev_c1 ls a then (match ev_cd m (q + 1), ev_cd m (q + 2) with
    | some (.iconst k, 1), some (.ireturn, 1) => some (Int32.ofInt k)
    | _, _ => none) else none
  | some (.astore a, 2) => bif decide (a < ls.length) && ev_c1 ls a then (match ev_cd m (q + 2), ev_cd m (q + 3) with
    | some (.iconst k, 1), some (.ireturn, 1) => some (Int32.ofInt k)
    | _, _ => none) else none
  | _ => none
section EV
variable (go : Nat → Nat → ev_L → List Value → ev_W → Option ev_R) (cal : Nat → List Value → ev_W → Option ev_R) (m : Nat) (e : ev_ME) (pc : Nat) (ls : ev_L) (w : ev_W)
def ev_br (t : Bool) (off : Int) (r : List Value) : Option ev_R := match ev_jmp pc off with
  | some q => bif t then go m q ls r w else go m (pc + 3) ls r w
  | none => none
def ev_ldv (k : Nat) (len : Nat) (st : List Value) (v : Value) : Option ev_R := match k, v with
  | 0, .int x => go m (pc + len) ls (.int x :: st) w
  | 1, .ref a => go m (pc + len) ls (.ref a :: st) w
  | 1, .null => go m (pc + len) ls (.null :: st) w
  | 2, .float x => go m (pc + len) ls (.float x :: st) w
  | 3, .double x => go m (pc + len) ls (.double x :: st) w
  | _, _ => none
def ev_ld (i len : Nat) (k : Nat) (st : List Value) : Option ev_R := match ls[i]? with
  | some (some v) => ev_ldv go m pc ls w k len st v
  | _ => none
def ev_st1 (i len : Nat) (v : Value) (r : List Value) : Option ev_R := bif decide (i < ls.length) && ev_c1 ls i then go m (pc + len) (ev_sto ls i v) r w else none
def ev_st2 (i len : Nat) (v : Value) (r : List Value) : Option ev_R := bif decide (i + 1 < ls.length) && ev_c1 ls i then go m (pc + len) ((ev_sto ls i v).set (i + 1) none) r w else none
/-- behind a call -/
def ev_aft (rt : Option FieldType) (rest : List Value) (y : Option ev_R) : Option ev_R := match y with
  | some (.inl v, w1) => bif ev_rok rt v then go m (pc + 3) ls (v.toList ++ rest) w1 else none
  | some (.inr E, w1) => (match ev_hh e with
    | [] => some (.inr E, w1)
    | h :: r => (match ev_han pc E (h :: r) with
      | some q => (match ev_hret m q ls with
        | some k => bif ev_rok (ev_rt e) (some (.int k)) then some (.inl (some (.int k)), w1) else none
        | none => none)
      | none => none))
  | none => none
/-- the room of a callee fits the caller's -/
def ev_rmk (e2 : ev_ME) : Bool := decide (ev_fr e2 + 1 ≤ ev_fr e) && decide (8 + (ev_ml e2 + 11) + ev_lo e2 ≤ ev_lo e)
def ev_virt (j : Nat) (e2 : ev_ME) (st : List Value) : Option ev_R := match st.drop (ev_na e2) with
  | .ref a :: rest => bif decide (a < w_n w) && (Nat.beq (w_K w a) (ev_own1 e2) && (decide (ev_cat rest ≤ 8) && ev_rmk e e2)) then ev_aft go m e pc ls (ev_rt e2) rest (cal j (.ref a :: (st.take (ev_na e2)).reverse) w) else none
  | _ => none
def ev_stat (j : Nat) (e2 : ev_ME) (st : List Value) : Option ev_R := bif decide (ev_na e2 ≤ st.length) && (decide (ev_cat (st.drop (ev_na e2)) ≤ 8) && ev_rmk e e2) then ev_aft go m e pc ls (ev_rt e2) (st.drop (ev_na e2)) (cal j (st.take (ev_na e2)).reverse w) else none
def ev_init (j : Nat) (e2 : ev_ME) (st : List Value) : Option ev_R := match st.drop (ev_na e2) with
  | .ref a :: rest => bif decide (a < w_n w) && (Nat.beq (w_K w a) (ev_own1 e2) && (decide (ev_cat rest ≤ 8) && ev_rmk e e2)) then ev_aft go m e pc ls none rest (cal j (.ref a :: (st.take (ev_na e2)).reverse) w) else none
  | _ => none
/-- room for a method of the JDK without calls -/
def ev_rmn : Bool := decide (1 ≤ ev_fr e) && decide (21 ≤ ev_lo e)
def ev_natc (k : Nat) (st : List Value) : Option ev_R := match k, st with
  | 100, .int y :: .int x :: r => bif decide (ev_cat r ≤ 8) && ev_rmn e then go m (pc + 3) ls (.int (if x < y then y else x) :: r) w else none
  | 101, .int y :: .int x :: r => bif decide (ev_cat r ≤ 8) && ev_rmn e then go m (pc + 3) ls (.int (if y < x then y else x) :: r) w else none
  | 102, .int x :: r => bif decide (ev_cat r ≤ 8) && ev_rmn e then go m (pc + 3) ls (.int (if 0 ≤ x then x else 0 - x) :: r) w else none
  | _, _ => none
def ev_inv (kd : Nat) (ix : Nat) (st : List Value) : Option ev_R := match ev_look2 (ev_own1 e) ix ev_tgt with
  | some j => (match ev_me j with
    | some e2 => (match kd, ev_kd e2 with
      | 1, 1 => ev_virt go cal m e pc ls w j e2 st
      | 0, 0 => ev_stat go cal m e pc ls w j e2 st
      | 2, 2 => ev_init go cal m e pc ls w j e2 st
      | _, _ => none)
    | none => none)
  | none => (match ev_look2 (ev_own1 e) ix ev_nat with
    | some k => (match kd with
      | 0 => ev_natc go m e pc ls w k st
      | 2 => (match k, st with
        | 103, .ref a :: r => bif decide (ev_cat r ≤ 8) && ev_rmn e then go m (pc + 3) ls r w else none
        | _, _ => none)
      | _ => none)
    | none => bif Nat.beq kd 2 && (Nat.beq (ev_own1 e) ev_nst.1 && Nat.beq ix ev_nst.2.1) then (match ev_me ev_nst.2.2 with
      | some e2 => ev_init go cal m e pc ls w ev_nst.2.2 e2 st
      | none => none) else none)
def ev_getf (ix : Nat) (st : List Value) : Option ev_R := match st with
  | .ref a :: r => (match ev_look2 (ev_own1 e) ix ev_flt with
    | some q => bif decide (a < w_n w) && Nat.beq (w_K w a) q.1 then (match ev_fty q.1 q.2 with
      | 2 => go m (pc + 3) ls (va_rf (w_R w a q.2) :: r) w
      | 0 => go m (pc + 3) ls (.int (w_I w a q.2) :: r) w
      | 1 => go m (pc + 3) ls (.int (w_I w a q.2) :: r) w
      | _ => none) else none
    | none => none)
  | _ => none
/-- a final field is written in its own class's constructor alone -/
def ev_pfok (q : Nat × Nat) : Bool := match vwCl[q.1]? with
  | some r => bif (r.2.1 q.2).2.2.2 then (Nat.beq (ev_kd e) 2 || Nat.beq (ev_kd e) 3) && Nat.beq (ev_own1 e) q.1 else true
  | none => false
def ev_putf (ix : Nat) (st : List Value) : Option ev_R := match st with
  | v :: .ref a :: r => (match ev_look2 (ev_own1 e) ix ev_flt with
    | some q => bif decide (a < w_n w) && (Nat.beq (w_K w a) q.1 && ev_pfok e q) then (match ev_fty q.1 q.2, v with
      | 2, .ref b => go m (pc + 3) ls r (w_sR w a q.2 (some b))
      | 2, .null => go m (pc + 3) ls r (w_sR w a q.2 none)
      | 0, .int x => go m (pc + 3) ls r (w_sI w a q.2 x)
      | 1, .int x => bif decide (x = 0 ∨ x = 1) then go m (pc + 3) ls r (w_sI w a q.2 x) else none
      | _, _ => none) else none
    | none => none)
  | _ => none
def ev_ald (k1 k2 : Nat) (st : List Value) : Option ev_R := match st with
  | .int i :: .ref a :: r => bif decide (a < w_n w) && ((Nat.beq (w_K w a) k1 || Nat.beq (w_K w a) k2) && ev_ok i (w_L w a)) then go m (pc + 1) ls (.int (w_I w a i.toNatClampNeg) :: r) w else none
  | _ => none
def ev_ildS (st : List Value) : Option ev_R := match st with
  | .int i :: .ref a :: r => bif Nat.beq a ev_S then (bif Nat.beq m ev_LAW && ev_ok i (w_L w ev_S) then go m (pc + 1) ls (.int (w_I w ev_S i.toNatClampNeg) :: r) w else none) else ev_ald go m pc ls w 10 10 st
  | _ => none
def ev_alen (st : List Value) : Option ev_R := match st with
  | .ref a :: r => bif Nat.beq a ev_S then (bif Nat.beq m ev_LAW then go m (pc + 1) ls (.int (Int32.ofNat (w_L w ev_S)) :: r) w else none)
    else (bif decide (a < w_n w) && decide (9 ≤ w_K w a) && decide (w_K w a < 16) then go m (pc + 1) ls (.int (Int32.ofNat (w_L w a)) :: r) w else none)
  | _ => none
def ev_new1 (ix : Nat) (st : List Value) : Option ev_R := match ev_look2 (ev_own1 e) ix ev_clt with
  | some ci => (match vwCl[ci]? with
    | some q => bif w_l w && decide (w_n w < 1000) then go m (pc + 3) ls (.ref (w_n w) :: st) (w_nw w ci q.2.2) else none
    | none => none)
  | none => none
def ev_newa (t : ArrayType) (st : List Value) : Option ev_R := match st, ev_akind t with
  | .int i :: r, some k => bif w_l w && decide (w_n w < 1000) && ev_ok i 100000 then go m (pc + 2) ls (.ref (w_n w) :: r) (w_nw w k i.toNatClampNeg) else none
  | _, _ => none
def ev_newq (ix : Nat) (st : List Value) : Option ev_R := match st, ev_look2 (ev_own1 e) ix ev_clt with
  | .int i :: r, some 0 => bif w_l w && decide (w_n w < 1000) && ev_ok i 100000 then go m (pc + 3) ls (.ref (w_n w) :: r) (w_nw w 12 i.toNatClampNeg) else none
  | .int i :: r, some 5 => bif w_l w && decide (w_n w < 1000) && ev_ok i 100000 then go m (pc + 3) ls (.ref (w_n w) :: r) (w_nw w 13 i.toNatClampNeg) else none
  | _, _ => none
/-- the place of a text -/
def ev_strp (own ix : Nat) : List (Nat × Nat × String) → Nat → Option Nat
  | [], _ => none
  | q :: r, k => bif Nat.beq q.1 own && Nat.beq q.2.1 ix then some k else ev_strp own ix r (k + 1)
def ev_ins (st : List Value) (len : Nat) : Instr → Option ev_R
  | .iconst n => go m (pc + 1) ls (.int (Int32.ofInt n) :: st) w
  | .bipush n => go m (pc + 2) ls (.int (Int8.ofInt n).toInt32 :: st) w
  | .sipush n => go m (pc + 3) ls (.int (Int16.ofInt n).toInt32 :: st) w
  | .ldc ix => (match ev_strp (ev_own1 e) ix ev_str 0 with
    | some k => go m (pc + 2) ls (.ref (ev_S + 1 + k) :: st) w
    | none => none)
  | .iload_n k => ev_ld go m pc ls w k 1 0 st
  | .iload i => ev_ld go m pc ls w i 2 0 st
  | .aload_n k => ev_ld go m pc ls w k 1 1 st
  | .aload i => ev_ld go m pc ls w i 2 1 st
  | .fload i => ev_ld go m pc ls w i 2 2 st
  | .dload i => ev_ld go m pc ls w i 2 3 st
  | .istore_n k => (match st with | .int x :: r => ev_st1 go m pc ls w k 1 (.int x) r | _ => none)
  | .istore i => (match st with | .int x :: r => ev_st1 go m pc ls w i 2 (.int x) r | _ => none)
  | .astore_n k => (match st with | .ref x :: r => ev_st1 go m pc ls w k 1 (.ref x) r | _ => none)
  | .astore i => (match st with | .ref x :: r => ev_st1 go m pc ls w i 2 (.ref x) r | _ => none)
  | .fstore i => (match st with | .float x :: r => ev_st1 go m pc ls w i 2 (.float x) r | _ => none)
  | .dstore i => (match st with | .double x :: r => ev_st2 go m pc ls w i 2 (.double x) r | _ => none)
  | .iinc i n => (match ls[i]? with
    | some (some (.int x)) => bif ev_c1 ls i then go m (pc + 3) (ev_sto ls i (.int (x + Int32.ofInt n))) st w else none
    | _ => none)
  | .iadd => (match st with | .int y :: .int x :: r => go m (pc + 1) ls (.int (x + y) :: r) w | _ => none)
  | .isub => (match st with | .int y :: .int x :: r => go m (pc + 1) ls (.int (x - y) :: r) w | _ => none)
  | .imul => (match st with | .int y :: .int x :: r => go m (pc + 1) ls (.int (x * y) :: r) w | _ => none)
  | .iand => (match st with | .int y :: .int x :: r => go m (pc + 1) ls (.int (x &&& y) :: r) w | _ => none)
  | .ior => (match st with | .int y :: .int x :: r => go m (pc + 1) ls (.int (x ||| y) :: r) w | _ => none)
  | .ixor => (match st with | .int y :: .int x :: r => go m (pc + 1) ls (.int (x ^^^ y) :: r) w | _ => none)
  | .ishl => (match st with | .int y :: .int x :: r => go m (pc + 1) ls (.int (x <<< (y &&& 31)) :: r) w | _ => none)
  | .ishr => (match st with | .int y :: .int x :: r => go m (pc + 1) ls (.int (x >>> (y &&& 31)) :: r) w | _ => none)
  | .idiv => (match st with | .int y :: .int x :: r => bif decide (y = 0) then none else go m (pc + 1) ls (.int (x / y) :: r) w | _ => none)
  | .irem => (match st with | .int y :: .int x :: r => bif decide (y = 0) then none else go m (pc + 1) ls (.int (x - x / y * y) :: r) w | _ => none)
  | .i2l => (match st with | .int x :: r => go m (pc + 1) ls (.long x.toInt64 :: r) w | _ => none)
  | .i2b => (match st with | .int x :: r => go m (pc + 1) ls (.int x.toInt8.toInt32 :: r) w | _ => none)
  | .i2f => (match st with | .int x :: r => go m (pc + 1) ls (.float (FP.i2f x) :: r) w | _ => none)
  | .i2d => (match st with | .int x :: r => go m (pc + 1) ls (.double (FP.i2d x) :: r) w | _ => none)
  | .lcmp => (match st with | .long y :: .long x :: r => go m (pc + 1) ls (.int (lg_cmp x y) :: r) w | _ => none)
  | .fconst n => bif decide (n = 0) then go m (pc + 1) ls (.float FP.fconst0 :: st) w else none
  | .dconst n => bif decide (n = 0) then go m (pc + 1) ls (.double FP.dconst0 :: st) w else none
  | .dup => (match st with | v :: r => bif Nat.beq v.category 1 then go m (pc + 1) ls (v :: v :: r) w else none | _ => none)
  | .pop => (match st with | v :: r => bif Nat.beq v.category 1 then go m (pc + 1) ls r w else none | _ => none)
  | .dup2 => (match st with | v :: u :: r => bif Nat.beq v.category 1 && Nat.beq u.category 1 then go m (pc + 1) ls (v :: u :: v :: u :: r) w else none | _ => none)
  | .ifCond c off => (match st with | .int x :: r => ev_br go m pc ls w (ev_t1 c x) off r | _ => none)
  | .if_icmp c off => (match st with | .int y :: .int x :: r => ev_br go m pc ls w (ev_t2 c x y) off r | _ => none)
  | .goto off => (match ev_jmp pc off with | some q => go m q ls st w | none => none)
  | .tableswitch d lo hi offs => (match st with
    | .int x :: r => bif decide (x.toInt < lo) || decide (hi < x.toInt) then (match ev_jmp pc d with | some q => go m q ls r w | none => none)
      else (match offs[(x.toInt - lo).toNat]? with
        | some off => (match ev_jmp pc off with | some q => go m q ls r w | none => none)
        | none => none)
    | _ => none)
  | .getfield ix => ev_getf go m e pc ls w ix st
  | .putfield ix => ev_putf go m e pc ls w ix st
  | .iaload => ev_ildS go m pc ls w st
  | .baload => ev_ald go m pc ls w 9 11 st
  | .laload => (match st with
    | .int i :: .ref a :: r => bif decide (a < w_n w) && (Nat.beq (w_K w a) 14 && ev_ok i (w_L w a)) then go m (pc + 1) ls (.long (w_J w a i.toNatClampNeg) :: r) w else none
    | _ => none)
  | .daload => (match st with
    | .int i :: .ref a :: r => bif decide (a < w_n w) && (Nat.beq (w_K w a) 15 && ev_ok i (w_L w a)) then go m (pc + 1) ls (.double (w_D w a i.toNatClampNeg) :: r) w else none
    | _ => none)
  | .aaload => (match st with
    | .int i :: .ref a :: r => bif decide (a < w_n w) && ((Nat.beq (w_K w a) 12 || Nat.beq (w_K w a) 13) && ev_ok i (w_L w a)) then go m (pc + 1) ls (va_rf (w_R w a i.toNatClampNeg) :: r) w else none
    | _ => none)
  | .iastore => (match st with
    | .int x :: .int i :: .ref a :: r => bif decide (a < w_n w) && (Nat.beq (w_K w a) 10 && ev_ok i (w_L w a)) then go m (pc + 1) ls r (w_sI w a i.toNatClampNeg x) else none
    | _ => none)
  | .bastore => (match st with
    | .int x :: .int i :: .ref a :: r => bif decide (a < w_n w) && ev_ok i (w_L w a) then (match w_K w a with
      | 9 => go m (pc + 1) ls r (w_sI w a i.toNatClampNeg (vp_nar .byte x))
      | 11 => go m (pc + 1) ls r (w_sI w a i.toNatClampNeg (vp_nar .boolean x))
      | _ => none) else none
    | _ => none)
  | .lastore => (match st with
    | .long x :: .int i :: .ref a :: r => bif decide (a < w_n w) && (Nat.beq (w_K w a) 14 && ev_ok i (w_L w a)) then go m (pc + 1) ls r (w_sJ w a i.toNatClampNeg x) else none
    | _ => none)
  | .dastore => (match st with
    | .double x :: .int i :: .ref a :: r => bif decide (a < w_n w) && (Nat.beq (w_K w a) 15 && ev_ok i (w_L w a)) then go m (pc + 1) ls r (w_sD w a i.toNatClampNeg x) else none
    | _ => none)
  | .aastore => (match st with
    | .ref b :: .int i :: .ref a :: r => bif decide (a < w_n w) && (decide (b < w_n w) && ev_ok i (w_L w a)) then (match w_K w a, w_K w b with
      | 12, 0 => go m (pc + 1) ls r (w_sR w a i.toNatClampNeg (some b))
      | 13, 5 => go m (pc + 1) ls r (w_sR w a i.toNatClampNeg (some b))
      | _, _ => none) else none
    | _ => none)
  | .arraylength => ev_alen go m pc ls w st
  | .new ix => ev_new1 go m e pc ls w ix st
  | .newarray t => ev_newa go m pc ls w t st
  | .anewarray ix => ev_newq go m e pc ls w ix st
  | .invokevirtual ix => ev_inv go cal m e pc ls w 1 ix st
  | .invokestatic ix => ev_inv go cal m e pc ls w 0 ix st
  | .invokespecial ix => ev_inv go cal m e pc ls w 2 ix st
  | .ireturn => (match st with | [.int x] => bif ev_rok (ev_rt e) (some (.int x)) then some (.inl (some (.int x)), w) else none | _ => none)
  | .freturn => (match st with | [.float x] => bif ev_rok (ev_rt e) (some (.float x)) then some (.inl (some (.float x)), w) else none | _ => none)
  | .dreturn => (match st with | [.double x] => bif ev_rok (ev_rt e) (some (.double x)) then some (.inl (some (.double x)), w) else none | _ => none)
  | .areturn => (match st with
    | [.ref x] => bif ev_rok (ev_rt e) (some (.ref x)) then some (.inl (some (.ref x)), w) else none
    | _ => none)
  | .return_ => (match st with | [] => bif ev_rok (ev_rt e) none then some (.inl none, w) else none | _ => none)
  | _ => none
/-- the length that an instruction's row asks for -/
def ev_lok (n : Nat) : Instr → Bool
  | .bipush _ => Nat.beq n 2
  | .sipush _ => Nat.beq n 3
  | .ldc _ => Nat.beq n 2
  | .iload _ => Nat.beq n 2
  | .aload _ => Nat.beq n 2
  | .fload _ => Nat.beq n 2
  | .dload _ => Nat.beq n 2
  | .istore _ => Nat.beq n 2
  | .astore _ => Nat.beq n 2
  | .fstore _ => Nat.beq n 2
  | .dstore _ => Nat.beq n 2
  | .iinc _ _ => Nat.beq n 3
  | .ifCond _ _ => Nat.beq n 3
  | .if_icmp _ _ => Nat.beq n 3
  | .goto _ => Nat.beq n 3
  | .tableswitch _ _ _ _ => true
  | .getfield _ => Nat.beq n 3
  | .putfield _ => Nat.beq n 3
  | .new _ => Nat.beq n 3
  | .newarray _ => Nat.beq n 2
  | .anewarray _ => Nat.beq n 3
  | .invokevirtual _ => Nat.beq n 3
  | .invokestatic _ => Nat.beq n 3
  | .invokespecial _ => Nat.beq n 3
  | _ => Nat.beq n 1
def ev_body (st : List Value) : Option ev_R := match ev_look2 m pc ev_thr with
  | some q => (match st with | [] => some (.inr q.1, w_th w) | _ => none)
  | none => (match ev_mel m with
    | some e => (match ev_cd m pc with
      | some q => bif ev_lok q.2 q.1 then ev_ins go cal m e pc ls w st q.2 q.1 else none
      | none => none)
    | none => none)
end EV
/-- the evaluator: F steps, method m, place pc, locals, stack, world -/
def ev (F : Nat) : Nat → Nat → ev_L → List Value → ev_W → Option ev_R := Nat.rec (fun _ _ _ _ _ => none) (fun _ g m pc ls st w => ev_body g (fun j as w1 => match ev_me j with
  | some e2 => bif as.all (fun v => Nat.beq v.category 1) && decide (as.length ≤ ev_ml e2) then g j 0 (ev_in (ev_ml e2) as) [] w1 else none
  | none => none) m pc ls w st) F
/-- a call, evaluated in F steps -/
def ev_call (F : Nat) (j : Nat) (as : List Value) (w : ev_W) : Option ev_R := match ev_me j with
  | some e2 => bif as.all (fun v => Nat.beq v.category 1) && decide (as.length ≤ ev_ml e2) then ev F j 0 (ev_in (ev_ml e2) as) [] w else none
  | none => none
theorem ev_0 (m pc : Nat) (ls : ev_L) (st : List Value) (w : ev_W) : ev 0 m pc ls st w = none := rfl
theorem ev_s (F m pc : Nat) (ls : ev_L) (st : List Value) (w : ev_W) : ev (F + 1) m pc ls st w = ev_body (ev F) (ev_call F) m pc ls w st := rfl
