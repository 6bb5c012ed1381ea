-- ===== PART A: goes FIRST, ahead of the names: the tables' words, and 'selects' of the private methods out of them =====
/-- a private method of a class that the tables say can be made, by its rows of tables_1 -/
def lw_okq (q : MethodName × Nat) : Prop := (q.1.cls ≠ "java/lang/invoke/MethodHandle" ∧ q.1.cls ≠ "java/lang/invoke/VarHandle") ∧ Cond.instantiable q.1.cls q.2 ∈ tables_1 ∧ Cond.privateMethod q.1 ∈ tables_1 ∧ Cond.instanceMethod q.1 ∈ tables_1
theorem lw_p0 : lw_okq (⟨"CutsOrFast", "isLane", "(I)Z"⟩, 13) := ⟨⟨by decide +kernel, by decide +kernel⟩, List.mem_of_getElem? (i := 10) (by decide +kernel), List.mem_of_getElem? (i := 188) (by decide +kernel), List.mem_of_getElem? (i := 189) (by decide +kernel)⟩
theorem lw_p1 : lw_okq (⟨"CutsOrFast", "hasNet", "()Z"⟩, 13) := ⟨⟨by decide +kernel, by decide +kernel⟩, List.mem_of_getElem? (i := 10) (by decide +kernel), List.mem_of_getElem? (i := 217) (by decide +kernel), List.mem_of_getElem? (i := 218) (by decide +kernel)⟩
theorem lw_p2 : lw_okq (⟨"CutsOrFast", "canBeTaken", "(I)Z"⟩, 13) := ⟨⟨by decide +kernel, by decide +kernel⟩, List.mem_of_getElem? (i := 10) (by decide +kernel), List.mem_of_getElem? (i := 260) (by decide +kernel), List.mem_of_getElem? (i := 261) (by decide +kernel)⟩
theorem lw_p3 : lw_okq (⟨"CutsOrFast$Search", "openSet", "(II)I"⟩, 5) := ⟨⟨by decide +kernel, by decide +kernel⟩, List.mem_of_getElem? (i := 91) (by decide +kernel), List.mem_of_getElem? (i := 294) (by decide +kernel), List.mem_of_getElem? (i := 295) (by decide +kernel)⟩
theorem lw_p4 : lw_okq (⟨"CutsOrFast$Search", "ownerOf", "(IIII)I"⟩, 5) := ⟨⟨by decide +kernel, by decide +kernel⟩, List.mem_of_getElem? (i := 91) (by decide +kernel), List.mem_of_getElem? (i := 305) (by decide +kernel), List.mem_of_getElem? (i := 306) (by decide +kernel)⟩
theorem lw_p5 : lw_okq (⟨"CutsOrFast$Search", "standOf", "(II)I"⟩, 5) := ⟨⟨by decide +kernel, by decide +kernel⟩, List.mem_of_getElem? (i := 91) (by decide +kernel), List.mem_of_getElem? (i := 310) (by decide +kernel), List.mem_of_getElem? (i := 311) (by decide +kernel)⟩
theorem lw_p6 : lw_okq (⟨"CutsOrFast$Search", "ownersMove", "(IIII)I"⟩, 5) := ⟨⟨by decide +kernel, by decide +kernel⟩, List.mem_of_getElem? (i := 91) (by decide +kernel), List.mem_of_getElem? (i := 317) (by decide +kernel), List.mem_of_getElem? (i := 318) (by decide +kernel)⟩
theorem lw_p7 : lw_okq (⟨"CutsOrFast$Net", "spread", "(II)I"⟩, 8) := ⟨⟨by decide +kernel, by decide +kernel⟩, List.mem_of_getElem? (i := 35) (by decide +kernel), List.mem_of_getElem? (i := 440) (by decide +kernel), List.mem_of_getElem? (i := 441) (by decide +kernel)⟩
theorem lw_p8 : lw_okq (⟨"CutsOrFast$Net", "spreadOnce", "(II)I"⟩, 8) := ⟨⟨by decide +kernel, by decide +kernel⟩, List.mem_of_getElem? (i := 35) (by decide +kernel), List.mem_of_getElem? (i := 444) (by decide +kernel), List.mem_of_getElem? (i := 445) (by decide +kernel)⟩
def lw_privs_1 : List (MethodName × Nat) := [(⟨"CutsOrFast", "isLane", "(I)Z"⟩, 13), (⟨"CutsOrFast", "hasNet", "()Z"⟩, 13), (⟨"CutsOrFast", "canBeTaken", "(I)Z"⟩, 13), (⟨"CutsOrFast$Search", "openSet", "(II)I"⟩, 5), (⟨"CutsOrFast$Search", "ownerOf", "(IIII)I"⟩, 5), (⟨"CutsOrFast$Search", "standOf", "(II)I"⟩, 5), (⟨"CutsOrFast$Search", "ownersMove", "(IIII)I"⟩, 5), (⟨"CutsOrFast$Net", "spread", "(II)I"⟩, 8), (⟨"CutsOrFast$Net", "spreadOnce", "(II)I"⟩, 8)]
theorem lw_r1 : ∀ q ∈ lw_privs_1, lw_okq q := List.forall_mem_cons.mpr ⟨lw_p0, List.forall_mem_cons.mpr ⟨lw_p1, List.forall_mem_cons.mpr ⟨lw_p2, List.forall_mem_cons.mpr ⟨lw_p3, List.forall_mem_cons.mpr ⟨lw_p4, List.forall_mem_cons.mpr ⟨lw_p5, List.forall_mem_cons.mpr ⟨lw_p6, List.forall_mem_cons.mpr ⟨lw_p7, List.forall_mem_cons.mpr ⟨lw_p8, fun _ h => absurd h List.not_mem_nil⟩⟩⟩⟩⟩⟩⟩⟩⟩
def lw_privs : List (MethodName × Nat) := lw_privs_1
def lw_tbl : List Cond := k2_sels lw_privs ++ tables_1
theorem lw_privs_ok : ∀ q ∈ lw_privs, lw_okq q := lw_r1

/-! names: classes, fields, types -/
def RX3 : String := "CutsOrFast$Draws"
def TX3 : u_T := fun k => match k with
  | _ => ("CutsOrFast$Draws", "seed", "J", false)
def tyX3 : Nat → FieldType := fun k => match k with
  | _ => .long
theorem nmX3 : ∀ a, a < 1 → ∀ b, b < 1 → a ≠ b → (TX3 a).2.1 ≠ (TX3 b).2.1 := by decide +kernel
theorem tyX3_ok : ∀ k, k < 1 → parseFieldDescriptor (TX3 k).2.2.1 = some (tyX3 k) := by decide +kernel
def RX5 : String := "CutsOrFast$Net"
def TX5 : u_T := fun k => match k with
  | 0 => ("CutsOrFast$Net", "first", "[I", true)
  | 1 => ("CutsOrFast$Net", "second", "[I", true)
  | 2 => ("CutsOrFast$Net", "cost", "[I", true)
  | 3 => ("CutsOrFast$Net", "pair", "[I", true)
  | 4 => ("CutsOrFast$Net", "reached", "[I", true)
  | 5 => ("CutsOrFast$Net", "used", "I", false)
  | 6 => ("CutsOrFast$Net", "oneEnd", "I", false)
  | _ => ("CutsOrFast$Net", "otherEnd", "I", false)
def tyX5 : Nat → FieldType := fun k => match k with
  | 0 => .array .int
  | 1 => .array .int
  | 2 => .array .int
  | 3 => .array .int
  | 4 => .array .int
  | 5 => .int
  | 6 => .int
  | _ => .int
theorem nmX5 : ∀ a, a < 8 → ∀ b, b < 8 → a ≠ b → (TX5 a).2.1 ≠ (TX5 b).2.1 := by decide +kernel
theorem tyX5_ok : ∀ k, k < 8 → parseFieldDescriptor (TX5 k).2.2.1 = some (tyX5 k) := by decide +kernel
def RX6 : String := "CutsOrFast$Page"
def TX6 : u_T := fun k => match k with
  | 0 => ("CutsOrFast$Page", "codes", "[I", true)
  | 1 => ("CutsOrFast$Page", "used", "I", false)
  | _ => ("CutsOrFast$Page", "lastStep", "I", false)
def tyX6 : Nat → FieldType := fun k => match k with
  | 0 => .array .int
  | 1 => .int
  | _ => .int
theorem nmX6 : ∀ a, a < 3 → ∀ b, b < 3 → a ≠ b → (TX6 a).2.1 ≠ (TX6 b).2.1 := by decide +kernel
theorem tyX6_ok : ∀ k, k < 3 → parseFieldDescriptor (TX6 k).2.2.1 = some (tyX6 k) := by decide +kernel
def RX8 : String := "CutsOrFast$Search"
def TX8 : u_T := fun k => match k with
  | 0 => ("CutsOrFast$Search", "net", "LCutsOrFast$Net;", true)
  | 1 => ("CutsOrFast$Search", "threes", "[I", true)
  | 2 => ("CutsOrFast$Search", "owners", "[J", true)
  | 3 => ("CutsOrFast$Search", "worths", "[J", true)
  | _ => ("CutsOrFast$Search", "turnsKept", "I", false)
def tyX8 : Nat → FieldType := fun k => match k with
  | 0 => .object "CutsOrFast$Net"
  | 1 => .array .int
  | 2 => .array .long
  | 3 => .array .long
  | _ => .int
theorem nmX8 : ∀ a, a < 5 → ∀ b, b < 5 → a ≠ b → (TX8 a).2.1 ≠ (TX8 b).2.1 := by decide +kernel
theorem tyX8_ok : ∀ k, k < 5 → parseFieldDescriptor (TX8 k).2.2.1 = some (tyX8 k) := by decide +kernel
def RX9 : String := "CutsOrFast$Sets"
def TX9 : u_T := fun k => match k with
  | 0 => ("CutsOrFast$Sets", "net", "LCutsOrFast$Net;", true)
  | _ => ("CutsOrFast$Sets", "search", "LCutsOrFast$Search;", true)
def tyX9 : Nat → FieldType := fun k => match k with
  | 0 => .object "CutsOrFast$Net"
  | _ => .object "CutsOrFast$Search"
theorem nmX9 : ∀ a, a < 2 → ∀ b, b < 2 → a ≠ b → (TX9 a).2.1 ≠ (TX9 b).2.1 := by decide +kernel
theorem tyX9_ok : ∀ k, k < 2 → parseFieldDescriptor (TX9 k).2.2.1 = some (tyX9 k) := by decide +kernel
def RX10 : String := "CutsOrFast$Stand"
def TX10 : u_T := fun k => match k with
  | 0 => ("CutsOrFast$Stand", "net", "LCutsOrFast$Net;", true)
  | 1 => ("CutsOrFast$Stand", "moves", "[I", true)
  | 2 => ("CutsOrFast$Stand", "made", "I", false)
  | 3 => ("CutsOrFast$Stand", "fast", "I", false)
  | 4 => ("CutsOrFast$Stand", "cut", "I", false)
  | _ => ("CutsOrFast$Stand", "mover", "I", false)
def tyX10 : Nat → FieldType := fun k => match k with
  | 0 => .object "CutsOrFast$Net"
  | 1 => .array .int
  | 2 => .int
  | 3 => .int
  | 4 => .int
  | _ => .int
theorem nmX10 : ∀ a, a < 6 → ∀ b, b < 6 → a ≠ b → (TX10 a).2.1 ≠ (TX10 b).2.1 := by decide +kernel
theorem tyX10_ok : ∀ k, k < 6 → parseFieldDescriptor (TX10 k).2.2.1 = some (tyX10 k) := by decide +kernel
def RX11 : String := "CutsOrFast"
def TX11 : u_T := fun k => match k with
  | 0 => ("CutsOrFast", "page", "LCutsOrFast$Page;", true)
  | 1 => ("CutsOrFast", "lanes", "LCutsOrFast$Net;", true)
  | 2 => ("CutsOrFast", "now", "LCutsOrFast$Stand;", true)
  | 3 => ("CutsOrFast", "kept", "LCutsOrFast$Stand;", true)
  | 4 => ("CutsOrFast", "tried", "LCutsOrFast$Stand;", true)
  | 5 => ("CutsOrFast", "search", "LCutsOrFast$Search;", true)
  | 6 => ("CutsOrFast", "sets", "LCutsOrFast$Sets;", true)
  | 7 => ("CutsOrFast", "draws", "LCutsOrFast$Draws;", true)
  | 8 => ("CutsOrFast", "players", "[LCutsOrFast$Player;", true)
  | 9 => ("CutsOrFast", "playersMade", "I", false)
  | 10 => ("CutsOrFast", "netsRead", "I", false)
  | 11 => ("CutsOrFast", "mendsDone", "I", false)
  | _ => ("CutsOrFast", "imageKept", "Z", false)
def tyX11 : Nat → FieldType := fun k => match k with
  | 0 => .object "CutsOrFast$Page"
  | 1 => .object "CutsOrFast$Net"
  | 2 => .object "CutsOrFast$Stand"
  | 3 => .object "CutsOrFast$Stand"
  | 4 => .object "CutsOrFast$Stand"
  | 5 => .object "CutsOrFast$Search"
  | 6 => .object "CutsOrFast$Sets"
  | 7 => .object "CutsOrFast$Draws"
  | 8 => .array (.object "CutsOrFast$Player")
  | 9 => .int
  | 10 => .int
  | 11 => .int
  | _ => .boolean
theorem nmX11 : ∀ a, a < 13 → ∀ b, b < 13 → a ≠ b → (TX11 a).2.1 ≠ (TX11 b).2.1 := by decide +kernel
theorem tyX11_ok : ∀ k, k < 13 → parseFieldDescriptor (TX11 k).2.2.1 = some (tyX11 k) := by decide +kernel
abbrev clsL : List vw_C := [(RX5, TX5, 8), (RX5, TX5, 8), (RX5, TX5, 8), (RX3, TX3, 1), (RX5, TX5, 8), (RX5, TX5, 8), (RX6, TX6, 3), (RX5, TX5, 8), (RX8, TX8, 5), (RX9, TX9, 2), (RX10, TX10, 6), (RX11, TX11, 13), (RX5, TX5, 8)]
def nF : Nat → Nat := fun c => [8, 8, 8, 1, 8, 8, 3, 8, 5, 2, 6, 13, 8].getD c 0
def TT : Nat → u_T := fun c => match c with
  | 0 => TX5
  | 1 => TX5
  | 2 => TX5
  | 3 => TX3
  | 4 => TX5
  | 5 => TX5
  | 6 => TX6
  | 7 => TX5
  | 8 => TX8
  | 9 => TX9
  | 10 => TX10
  | 11 => TX11
  | _ => TX5
def tyT : Nat → Nat → FieldType := fun c => match c with
  | 0 => tyX5
  | 1 => tyX5
  | 2 => tyX5
  | 3 => tyX3
  | 4 => tyX5
  | 5 => tyX5
  | 6 => tyX6
  | 7 => tyX5
  | 8 => tyX8
  | 9 => tyX9
  | 10 => tyX10
  | 11 => tyX11
  | _ => tyX5
def rcl : Nat → String := fun n => ["CutsOrFast$Net", "CutsOrFast$Net", "CutsOrFast$Net", "CutsOrFast$Draws", "CutsOrFast$Net", "CutsOrFast$Net", "CutsOrFast$Page", "CutsOrFast$Net", "CutsOrFast$Search", "CutsOrFast$Sets", "CutsOrFast$Stand", "CutsOrFast", "CutsOrFast$Net", "CutsOrFastLaw", "java/lang/Integer", "java/lang/Math"].getD n ""
abbrev MI : Type := MethodName × ByteArray × Nat × Option FieldType × Nat × Nat × Bool
def mT0 : List MI := [(⟨"CutsOrFast$Net", "size", "()I"⟩, prog_7_method_7_code, 1, (some .int), 5, 0, false),
  (⟨"CutsOrFast$Net", "size", "()I"⟩, prog_7_method_7_code, 1, (some .int), 5, 0, false),
  (⟨"CutsOrFast$Net", "size", "()I"⟩, prog_7_method_7_code, 1, (some .int), 5, 0, false),
  (⟨"CutsOrFast$Net", "size", "()I"⟩, prog_7_method_7_code, 1, (some .int), 5, 0, false),
  (⟨"CutsOrFast$Net", "size", "()I"⟩, prog_7_method_7_code, 1, (some .int), 5, 0, false),
  (⟨"CutsOrFast$Net", "size", "()I"⟩, prog_7_method_7_code, 1, (some .int), 5, 0, false),
  (⟨"CutsOrFast$Net", "size", "()I"⟩, prog_7_method_7_code, 1, (some .int), 5, 0, false),
  (⟨"CutsOrFast$Net", "size", "()I"⟩, prog_7_method_7_code, 1, (some .int), 5, 0, false),
  (⟨"CutsOrFast$Net", "size", "()I"⟩, prog_7_method_7_code, 1, (some .int), 5, 0, false),
  (⟨"CutsOrFast$Draws", "<init>", "()V"⟩, prog_5_method_1_code, 1, none, 3, 0, false),
  (⟨"CutsOrFast$Net", "size", "()I"⟩, prog_7_method_7_code, 1, (some .int), 5, 0, false),
  (⟨"CutsOrFast$Net", "size", "()I"⟩, prog_7_method_7_code, 1, (some .int), 5, 0, false),
  (⟨"CutsOrFast$Net", "size", "()I"⟩, prog_7_method_7_code, 1, (some .int), 5, 0, false),
  (⟨"CutsOrFast$Net", "size", "()I"⟩, prog_7_method_7_code, 1, (some .int), 5, 0, false),
  (⟨"CutsOrFast$Net", "size", "()I"⟩, prog_7_method_7_code, 1, (some .int), 5, 0, false),
  (⟨"CutsOrFast$Net", "size", "()I"⟩, prog_7_method_7_code, 1, (some .int), 5, 0, false),
  (⟨"CutsOrFast$Net", "size", "()I"⟩, prog_7_method_7_code, 1, (some .int), 5, 0, false),
  (⟨"CutsOrFast$Net", "size", "()I"⟩, prog_7_method_7_code, 1, (some .int), 5, 0, false),
  (⟨"CutsOrFast$Net", "size", "()I"⟩, prog_7_method_7_code, 1, (some .int), 5, 0, false),
  (⟨"CutsOrFast$Net", "size", "()I"⟩, prog_7_method_7_code, 1, (some .int), 5, 0, false),
  (⟨"CutsOrFast$Net", "<init>", "()V"⟩, prog_7_method_1_code, 1, none, 5, 0, false),
  (⟨"CutsOrFast$Net", "start", "(II)V"⟩, prog_7_method_2_code, 3, none, 5, 2, false),
  (⟨"CutsOrFast$Net", "add", "(III)V"⟩, prog_7_method_3_code, 6, none, 5, 3, false),
  (⟨"CutsOrFast$Net", "size", "()I"⟩, prog_7_method_7_code, 1, (some .int), 5, 0, false),
  (⟨"CutsOrFast$Net", "spread", "(II)I"⟩, prog_7_method_5_code, 6, (some .int), 5, 2, false),
  (⟨"CutsOrFast$Net", "spreadOnce", "(II)I"⟩, prog_7_method_6_code, 6, (some .int), 5, 2, false),
  (⟨"CutsOrFast$Net", "size", "()I"⟩, prog_7_method_7_code, 1, (some .int), 5, 0, false),
  (⟨"CutsOrFast$Net", "all", "()I"⟩, prog_7_method_8_code, 1, (some .int), 5, 0, false),
  (⟨"CutsOrFast$Net", "size", "()I"⟩, prog_7_method_7_code, 1, (some .int), 5, 0, false),
  (⟨"CutsOrFast$Net", "size", "()I"⟩, prog_7_method_7_code, 1, (some .int), 5, 0, false),
  (⟨"CutsOrFast$Net", "firstPlace", "(I)I"⟩, prog_7_method_11_code, 2, (some .int), 5, 1, false),
  (⟨"CutsOrFast$Net", "secondPlace", "(I)I"⟩, prog_7_method_12_code, 2, (some .int), 5, 1, false),
  (⟨"CutsOrFast$Net", "costOf", "(I)I"⟩, prog_7_method_13_code, 2, (some .int), 5, 1, false),
  (⟨"CutsOrFast$Net", "size", "()I"⟩, prog_7_method_7_code, 1, (some .int), 5, 0, false),
  (⟨"CutsOrFast$Net", "joins", "(I)Z"⟩, prog_7_method_15_code, 2, (some .boolean), 5, 1, false),
  (⟨"CutsOrFast$Net", "size", "()I"⟩, prog_7_method_7_code, 1, (some .int), 5, 0, false),
  (⟨"CutsOrFast$Net", "size", "()I"⟩, prog_7_method_7_code, 1, (some .int), 5, 0, false),
  (⟨"CutsOrFast$Net", "outcome", "(II)I"⟩, prog_7_method_18_code, 3, (some .int), 5, 2, false),
  (⟨"CutsOrFast$Page", "<init>", "()V"⟩, prog_8_method_1_code, 1, none, 6, 0, false),
  (⟨"CutsOrFast$Page", "size", "()I"⟩, prog_8_method_2_code, 1, (some .int), 6, 0, false),
  (⟨"CutsOrFast$Page", "clear", "()V"⟩, prog_8_method_3_code, 1, none, 6, 0, false),
  (⟨"CutsOrFast$Page", "codeAt", "(I)I"⟩, prog_8_method_4_code, 2, (some .int), 6, 1, false),
  (⟨"CutsOrFast$Page", "append", "(J)I"⟩, prog_8_method_5_code, 7, (some .int), 6, 1, false),
  (⟨"CutsOrFast$Page", "byteOf", "(JI)I"⟩, prog_8_method_6_code, 3, (some .int), 6, 2, true),
  (⟨"CutsOrFast$Page", "isNet", "()Z"⟩, prog_8_method_7_code, 1, (some .boolean), 6, 0, false),
  (⟨"CutsOrFast$Page", "soundLetters", "()I"⟩, prog_8_method_8_code, 5, (some .int), 6, 0, false),
  (⟨"CutsOrFast$Page", "step", "(IIII)I"⟩, prog_8_method_9_code, 4, (some .int), 6, 4, true),
  (⟨"CutsOrFast$Page", "stepBehindPair", "(III)I"⟩, prog_8_method_10_code, 3, (some .int), 6, 3, true),
  (⟨"CutsOrFast$Page", "isPlace", "(I)Z"⟩, prog_8_method_11_code, 1, (some .boolean), 6, 1, true),
  (⟨"CutsOrFast$Page", "isCost", "(I)Z"⟩, prog_8_method_12_code, 1, (some .boolean), 6, 1, true)]
def mT1 : List MI := [(⟨"CutsOrFast$Page", "readInto", "(LCutsOrFast$Net;LCutsOrFast$Stand;)V"⟩, prog_8_method_13_code, 10, none, 6, 2, false),
  (⟨"CutsOrFast$Net", "size", "()I"⟩, prog_7_method_7_code, 1, (some .int), 5, 0, false),
  (⟨"CutsOrFast$Net", "size", "()I"⟩, prog_7_method_7_code, 1, (some .int), 5, 0, false),
  (⟨"CutsOrFast$Net", "size", "()I"⟩, prog_7_method_7_code, 1, (some .int), 5, 0, false),
  (⟨"CutsOrFast$Search", "<init>", "(LCutsOrFast$Net;)V"⟩, prog_10_method_1_code, 6, none, 8, 1, false),
  (⟨"CutsOrFast$Search", "forget", "()V"⟩, prog_10_method_2_code, 1, none, 8, 0, false),
  (⟨"CutsOrFast$Search", "empty", "([J)V"⟩, prog_10_method_3_code, 2, none, 8, 1, true),
  (⟨"CutsOrFast$Search", "ownerOf", "(IIII)I"⟩, prog_10_method_8_code, 11, (some .int), 8, 4, false),
  (⟨"CutsOrFast$Search", "owner", "(III)I"⟩, prog_10_method_6_code, 4, (some .int), 8, 3, false),
  (⟨"CutsOrFast$Search", "leastGood", "(III)I"⟩, prog_10_method_7_code, 4, (some .int), 8, 3, false),
  (⟨"CutsOrFast$Net", "size", "()I"⟩, prog_7_method_7_code, 1, (some .int), 5, 0, false),
  (⟨"CutsOrFast$Net", "size", "()I"⟩, prog_7_method_7_code, 1, (some .int), 5, 0, false),
  (⟨"CutsOrFast$Search", "ownersMove", "(IIII)I"⟩, prog_10_method_9_code, 9, (some .int), 8, 4, false),
  (⟨"CutsOrFast$Net", "size", "()I"⟩, prog_7_method_7_code, 1, (some .int), 5, 0, false),
  (⟨"CutsOrFast$Net", "size", "()I"⟩, prog_7_method_7_code, 1, (some .int), 5, 0, false),
  (⟨"CutsOrFast$Sets", "<init>", "(LCutsOrFast$Net;LCutsOrFast$Search;)V"⟩, prog_11_method_1_code, 3, none, 9, 2, false),
  (⟨"CutsOrFast$Net", "size", "()I"⟩, prog_7_method_7_code, 1, (some .int), 5, 0, false),
  (⟨"CutsOrFast$Net", "size", "()I"⟩, prog_7_method_7_code, 1, (some .int), 5, 0, false),
  (⟨"CutsOrFast$Net", "size", "()I"⟩, prog_7_method_7_code, 1, (some .int), 5, 0, false),
  (⟨"CutsOrFast$Net", "size", "()I"⟩, prog_7_method_7_code, 1, (some .int), 5, 0, false),
  (⟨"CutsOrFast$Net", "size", "()I"⟩, prog_7_method_7_code, 1, (some .int), 5, 0, false),
  (⟨"CutsOrFast$Stand", "<init>", "(LCutsOrFast$Net;)V"⟩, prog_12_method_1_code, 2, none, 10, 1, false),
  (⟨"CutsOrFast$Stand", "start", "(II)V"⟩, prog_12_method_2_code, 3, none, 10, 2, false),
  (⟨"CutsOrFast$Stand", "copyFrom", "(LCutsOrFast$Stand;)V"⟩, prog_12_method_3_code, 3, none, 10, 1, false),
  (⟨"CutsOrFast$Stand", "play", "(I)V"⟩, prog_12_method_4_code, 2, none, 10, 1, false),
  (⟨"CutsOrFast$Stand", "undo", "()V"⟩, prog_12_method_5_code, 2, none, 10, 0, false),
  (⟨"CutsOrFast$Stand", "undoAll", "()V"⟩, prog_12_method_6_code, 2, none, 10, 0, false),
  (⟨"CutsOrFast$Stand", "outcome", "()I"⟩, prog_12_method_7_code, 1, (some .int), 10, 0, false),
  (⟨"CutsOrFast$Stand", "stateOf", "(I)I"⟩, prog_12_method_8_code, 3, (some .int), 10, 1, false),
  (⟨"CutsOrFast$Net", "size", "()I"⟩, prog_7_method_7_code, 1, (some .int), 5, 0, false),
  (⟨"CutsOrFast$Stand", "movesMade", "()I"⟩, prog_12_method_10_code, 1, (some .int), 10, 0, false),
  (⟨"CutsOrFast$Stand", "moveAt", "(I)I"⟩, prog_12_method_11_code, 2, (some .int), 10, 1, false),
  (⟨"CutsOrFast$Stand", "side", "()I"⟩, prog_12_method_12_code, 1, (some .int), 10, 0, false),
  (⟨"CutsOrFast$Stand", "setSide", "(I)V"⟩, prog_12_method_13_code, 2, none, 10, 1, false),
  (⟨"CutsOrFast$Stand", "fastSet", "()I"⟩, prog_12_method_14_code, 1, (some .int), 10, 0, false),
  (⟨"CutsOrFast$Stand", "cutSet", "()I"⟩, prog_12_method_15_code, 1, (some .int), 10, 0, false),
  (⟨"CutsOrFast$Stand", "openSet", "()I"⟩, prog_12_method_16_code, 1, (some .int), 10, 0, false),
  (⟨"CutsOrFast$Net", "size", "()I"⟩, prog_7_method_7_code, 1, (some .int), 5, 0, false),
  (⟨"CutsOrFast", "<init>", "()V"⟩, prog_1_method_1_code, 1, none, 11, 0, false),
  (⟨"CutsOrFast", "letters", "(J)I"⟩, prog_1_method_2_code, 3, (some .int), 11, 1, false),
  (⟨"CutsOrFast$Net", "size", "()I"⟩, prog_7_method_7_code, 1, (some .int), 5, 0, false),
  (⟨"CutsOrFast", "fault", "()I"⟩, prog_1_method_4_code, 1, (some .int), 11, 0, false),
  (⟨"CutsOrFast", "net", "()I"⟩, prog_1_method_5_code, 1, (some .int), 11, 0, false),
  (⟨"CutsOrFast", "lane", "(II)I"⟩, prog_1_method_6_code, 3, (some .int), 11, 2, false),
  (⟨"CutsOrFast", "status", "()I"⟩, prog_1_method_7_code, 1, (some .int), 11, 0, false),
  (⟨"CutsOrFast", "begin", "(I)I"⟩, prog_1_method_8_code, 3, (some .int), 11, 1, false),
  (⟨"CutsOrFast", "take", "(I)I"⟩, prog_1_method_9_code, 2, (some .int), 11, 1, false),
  (⟨"CutsOrFast", "back", "()I"⟩, prog_1_method_10_code, 1, (some .int), 11, 0, false),
  (⟨"CutsOrFast", "whose", "(I)I"⟩, prog_1_method_11_code, 2, (some .int), 11, 1, false),
  (⟨"CutsOrFast", "by", "(I)I"⟩, prog_1_method_12_code, 2, (some .int), 11, 1, false)]
def mT2 : List MI := [(⟨"CutsOrFast", "answer", "(I)I"⟩, prog_1_method_13_code, 2, (some .int), 11, 1, false),
  (⟨"CutsOrFast", "lost", "()I"⟩, prog_1_method_14_code, 4, (some .int), 11, 0, false),
  (⟨"CutsOrFast$Net", "size", "()I"⟩, prog_7_method_7_code, 1, (some .int), 5, 0, false),
  (⟨"CutsOrFast$Net", "size", "()I"⟩, prog_7_method_7_code, 1, (some .int), 5, 0, false),
  (⟨"CutsOrFast$Net", "size", "()I"⟩, prog_7_method_7_code, 1, (some .int), 5, 0, false),
  (⟨"CutsOrFast$Net", "size", "()I"⟩, prog_7_method_7_code, 1, (some .int), 5, 0, false),
  (⟨"CutsOrFast$Net", "size", "()I"⟩, prog_7_method_7_code, 1, (some .int), 5, 0, false),
  (⟨"CutsOrFast$Net", "size", "()I"⟩, prog_7_method_7_code, 1, (some .int), 5, 0, false),
  (⟨"CutsOrFast$Net", "size", "()I"⟩, prog_7_method_7_code, 1, (some .int), 5, 0, false),
  (⟨"CutsOrFast$Net", "size", "()I"⟩, prog_7_method_7_code, 1, (some .int), 5, 0, false),
  (⟨"CutsOrFast$Net", "size", "()I"⟩, prog_7_method_7_code, 1, (some .int), 5, 0, false),
  (⟨"CutsOrFast$Net", "size", "()I"⟩, prog_7_method_7_code, 1, (some .int), 5, 0, false),
  (⟨"CutsOrFast$Net", "size", "()I"⟩, prog_7_method_7_code, 1, (some .int), 5, 0, false),
  (⟨"CutsOrFast", "count", "(I)I"⟩, prog_1_method_26_code, 2, (some .int), 11, 1, false),
  (⟨"CutsOrFast$Net", "size", "()I"⟩, prog_7_method_7_code, 1, (some .int), 5, 0, false),
  (⟨"CutsOrFast", "hasNet", "()Z"⟩, prog_1_method_28_code, 1, (some .boolean), 11, 0, false),
  (⟨"CutsOrFast", "isLane", "(I)Z"⟩, prog_1_method_29_code, 2, (some .boolean), 11, 1, false),
  (⟨"CutsOrFast", "isSide", "(I)Z"⟩, prog_1_method_30_code, 1, (some .boolean), 11, 1, true),
  (⟨"CutsOrFast$Net", "size", "()I"⟩, prog_7_method_7_code, 1, (some .int), 5, 0, false),
  (⟨"CutsOrFast", "canBeTaken", "(I)Z"⟩, prog_1_method_32_code, 2, (some .boolean), 11, 1, false),
  (⟨"CutsOrFast$Net", "size", "()I"⟩, prog_7_method_7_code, 1, (some .int), 5, 0, false),
  (⟨"CutsOrFast$Net", "size", "()I"⟩, prog_7_method_7_code, 1, (some .int), 5, 0, false),
  (⟨"CutsOrFast$Net", "size", "()I"⟩, prog_7_method_7_code, 1, (some .int), 5, 0, false),
  (⟨"CutsOrFast$Net", "size", "()I"⟩, prog_7_method_7_code, 1, (some .int), 5, 0, false),
  (⟨"CutsOrFast$Net", "size", "()I"⟩, prog_7_method_7_code, 1, (some .int), 5, 0, false),
  (⟨"CutsOrFast$Net", "size", "()I"⟩, prog_7_method_7_code, 1, (some .int), 5, 0, false),
  (⟨"CutsOrFast", "at", "([II)I"⟩, prog_1_method_39_code, 2, (some .int), 11, 2, true),
  (⟨"CutsOrFast", "put", "([III)V"⟩, prog_1_method_41_code, 3, none, 11, 3, true),
  (⟨"CutsOrFastLaw", "cell", "([II)I"⟩, method_2_code, 2, (some .int), 13, 2, true),
  (⟨"CutsOrFastLaw", "put", "(LCutsOrFast;I)Z"⟩, method_3_code, 2, (some .boolean), 13, 2, true),
  (⟨"CutsOrFastLaw", "net", "(LCutsOrFast;[III[I[I[I)I"⟩, method_4_code, 13, (some .int), 13, 7, true),
  (⟨"CutsOrFastLaw", "reach", "(I[I[IIZI)I"⟩, method_5_code, 11, (some .int), 13, 6, true),
  (⟨"CutsOrFastLaw", "status", "(I[I[I)I"⟩, method_6_code, 3, (some .int), 13, 3, true),
  (⟨"CutsOrFastLaw", "has", "(I[I[II)Z"⟩, method_7_code, 12, (some .boolean), 13, 4, true),
  (⟨"CutsOrFastLaw", "joinHas", "(I[I[II)Z"⟩, method_8_code, 4, (some .boolean), 13, 4, true),
  (⟨"CutsOrFast$Net", "size", "()I"⟩, prog_7_method_7_code, 1, (some .int), 5, 0, false),
  (⟨"CutsOrFast$Net", "size", "()I"⟩, prog_7_method_7_code, 1, (some .int), 5, 0, false),
  (⟨"CutsOrFast$Net", "size", "()I"⟩, prog_7_method_7_code, 1, (some .int), 5, 0, false),
  (⟨"CutsOrFast$Net", "size", "()I"⟩, prog_7_method_7_code, 1, (some .int), 5, 0, false),
  (⟨"CutsOrFast$Net", "size", "()I"⟩, prog_7_method_7_code, 1, (some .int), 5, 0, false),
  (⟨"CutsOrFast$Net", "size", "()I"⟩, prog_7_method_7_code, 1, (some .int), 5, 0, false),
  (⟨"CutsOrFast$Net", "size", "()I"⟩, prog_7_method_7_code, 1, (some .int), 5, 0, false),
  (⟨"CutsOrFast$Net", "size", "()I"⟩, prog_7_method_7_code, 1, (some .int), 5, 0, false),
  (⟨"CutsOrFast$Net", "size", "()I"⟩, prog_7_method_7_code, 1, (some .int), 5, 0, false),
  (⟨"CutsOrFast$Net", "size", "()I"⟩, prog_7_method_7_code, 1, (some .int), 5, 0, false),
  (⟨"CutsOrFast$Net", "size", "()I"⟩, prog_7_method_7_code, 1, (some .int), 5, 0, false),
  (⟨"CutsOrFast$Net", "size", "()I"⟩, prog_7_method_7_code, 1, (some .int), 5, 0, false),
  (⟨"CutsOrFast$Net", "size", "()I"⟩, prog_7_method_7_code, 1, (some .int), 5, 0, false),
  (⟨"CutsOrFast$Net", "size", "()I"⟩, prog_7_method_7_code, 1, (some .int), 5, 0, false),
  (⟨"CutsOrFast$Net", "size", "()I"⟩, prog_7_method_7_code, 1, (some .int), 5, 0, false)]
def mT3 : List MI := [(⟨"CutsOrFast$Net", "size", "()I"⟩, prog_7_method_7_code, 1, (some .int), 5, 0, false),
  (⟨"CutsOrFast$Net", "size", "()I"⟩, prog_7_method_7_code, 1, (some .int), 5, 0, false),
  (⟨"CutsOrFast$Net", "size", "()I"⟩, prog_7_method_7_code, 1, (some .int), 5, 0, false),
  (⟨"CutsOrFast$Net", "size", "()I"⟩, prog_7_method_7_code, 1, (some .int), 5, 0, false),
  (⟨"CutsOrFast$Net", "size", "()I"⟩, prog_7_method_7_code, 1, (some .int), 5, 0, false),
  (⟨"CutsOrFast$Net", "size", "()I"⟩, prog_7_method_7_code, 1, (some .int), 5, 0, false),
  (⟨"CutsOrFast$Net", "size", "()I"⟩, prog_7_method_7_code, 1, (some .int), 5, 0, false),
  (⟨"CutsOrFast$Net", "size", "()I"⟩, prog_7_method_7_code, 1, (some .int), 5, 0, false),
  (⟨"CutsOrFast$Net", "size", "()I"⟩, prog_7_method_7_code, 1, (some .int), 5, 0, false),
  (⟨"CutsOrFast$Net", "size", "()I"⟩, prog_7_method_7_code, 1, (some .int), 5, 0, false),
  (⟨"CutsOrFast$Net", "size", "()I"⟩, prog_7_method_7_code, 1, (some .int), 5, 0, false),
  (⟨"CutsOrFast$Net", "size", "()I"⟩, prog_7_method_7_code, 1, (some .int), 5, 0, false),
  (⟨"CutsOrFast$Net", "size", "()I"⟩, prog_7_method_7_code, 1, (some .int), 5, 0, false),
  (⟨"CutsOrFast$Net", "size", "()I"⟩, prog_7_method_7_code, 1, (some .int), 5, 0, false),
  (⟨"CutsOrFast$Net", "size", "()I"⟩, prog_7_method_7_code, 1, (some .int), 5, 0, false),
  (⟨"CutsOrFast$Net", "size", "()I"⟩, prog_7_method_7_code, 1, (some .int), 5, 0, false),
  (⟨"CutsOrFast$Net", "size", "()I"⟩, prog_7_method_7_code, 1, (some .int), 5, 0, false),
  (⟨"CutsOrFast$Net", "size", "()I"⟩, prog_7_method_7_code, 1, (some .int), 5, 0, false),
  (⟨"CutsOrFast$Net", "size", "()I"⟩, prog_7_method_7_code, 1, (some .int), 5, 0, false),
  (⟨"CutsOrFast$Net", "size", "()I"⟩, prog_7_method_7_code, 1, (some .int), 5, 0, false),
  (⟨"CutsOrFast$Net", "size", "()I"⟩, prog_7_method_7_code, 1, (some .int), 5, 0, false),
  (⟨"CutsOrFast$Net", "size", "()I"⟩, prog_7_method_7_code, 1, (some .int), 5, 0, false),
  (⟨"CutsOrFast$Net", "size", "()I"⟩, prog_7_method_7_code, 1, (some .int), 5, 0, false),
  (⟨"CutsOrFast$Net", "size", "()I"⟩, prog_7_method_7_code, 1, (some .int), 5, 0, false),
  (⟨"CutsOrFast$Net", "size", "()I"⟩, prog_7_method_7_code, 1, (some .int), 5, 0, false),
  (⟨"CutsOrFast$Net", "size", "()I"⟩, prog_7_method_7_code, 1, (some .int), 5, 0, false),
  (⟨"CutsOrFast$Net", "size", "()I"⟩, prog_7_method_7_code, 1, (some .int), 5, 0, false),
  (⟨"CutsOrFast$Net", "size", "()I"⟩, prog_7_method_7_code, 1, (some .int), 5, 0, false),
  (⟨"CutsOrFast$Net", "size", "()I"⟩, prog_7_method_7_code, 1, (some .int), 5, 0, false),
  (⟨"CutsOrFast$Net", "size", "()I"⟩, prog_7_method_7_code, 1, (some .int), 5, 0, false),
  (⟨"CutsOrFast$Net", "size", "()I"⟩, prog_7_method_7_code, 1, (some .int), 5, 0, false),
  (⟨"CutsOrFast$Net", "size", "()I"⟩, prog_7_method_7_code, 1, (some .int), 5, 0, false),
  (⟨"CutsOrFast$Net", "size", "()I"⟩, prog_7_method_7_code, 1, (some .int), 5, 0, false),
  (⟨"CutsOrFast$Net", "size", "()I"⟩, prog_7_method_7_code, 1, (some .int), 5, 0, false),
  (⟨"CutsOrFast$Net", "size", "()I"⟩, prog_7_method_7_code, 1, (some .int), 5, 0, false),
  (⟨"CutsOrFast$Net", "size", "()I"⟩, prog_7_method_7_code, 1, (some .int), 5, 0, false),
  (⟨"CutsOrFast$Net", "size", "()I"⟩, prog_7_method_7_code, 1, (some .int), 5, 0, false),
  (⟨"CutsOrFast$Net", "size", "()I"⟩, prog_7_method_7_code, 1, (some .int), 5, 0, false),
  (⟨"CutsOrFast$Net", "size", "()I"⟩, prog_7_method_7_code, 1, (some .int), 5, 0, false),
  (⟨"CutsOrFast$Net", "size", "()I"⟩, prog_7_method_7_code, 1, (some .int), 5, 0, false),
  (⟨"CutsOrFast$Net", "size", "()I"⟩, prog_7_method_7_code, 1, (some .int), 5, 0, false),
  (⟨"CutsOrFast$Net", "size", "()I"⟩, prog_7_method_7_code, 1, (some .int), 5, 0, false),
  (⟨"CutsOrFast$Net", "size", "()I"⟩, prog_7_method_7_code, 1, (some .int), 5, 0, false),
  (⟨"CutsOrFast$Net", "size", "()I"⟩, prog_7_method_7_code, 1, (some .int), 5, 0, false),
  (⟨"CutsOrFast$Net", "size", "()I"⟩, prog_7_method_7_code, 1, (some .int), 5, 0, false),
  (⟨"CutsOrFast$Net", "size", "()I"⟩, prog_7_method_7_code, 1, (some .int), 5, 0, false),
  (⟨"CutsOrFast$Net", "size", "()I"⟩, prog_7_method_7_code, 1, (some .int), 5, 0, false),
  (⟨"CutsOrFast$Net", "size", "()I"⟩, prog_7_method_7_code, 1, (some .int), 5, 0, false),
  (⟨"CutsOrFast$Net", "size", "()I"⟩, prog_7_method_7_code, 1, (some .int), 5, 0, false),
  (⟨"java/lang/Integer", "bitCount", "(I)I"⟩, prog_15_method_49_code, 1, (some .int), 14, 1, true)]
def mT4 : List MI := [(⟨"CutsOrFast$Search", "openSet", "(II)I"⟩, prog_10_method_4_code, 3, (some .int), 8, 2, false),
  (⟨"CutsOrFast$Search", "standOf", "(II)I"⟩, prog_10_method_5_code, 3, (some .int), 8, 2, false),
  (⟨"CutsOrFast", "at", "([JI)J"⟩, prog_1_method_40_code, 2, (some .long), 11, 2, true),
  (⟨"CutsOrFast", "put", "([JIJ)V"⟩, prog_1_method_42_code, 4, none, 11, 3, true),
  (⟨"CutsOrFastLaw", "law", "([I)Z"⟩, code, 17, (some .boolean), 13, 1, true)]
def mTab : List MI := mT0 ++ mT1 ++ mT2 ++ mT3 ++ mT4
def mI (k : Nat) : MI := mTab.getD k (⟨"", "", ""⟩, ⟨#[]⟩, 0, none, 0, 0, false)
def mName (k : Nat) : MethodName := (mI k).1
def mCode (k : Nat) : ByteArray := (mI k).2.1
def mMax (k : Nat) : Nat := (mI k).2.2.1
def mRet (k : Nat) : Option FieldType := (mI k).2.2.2.1
def mOwn (k : Nat) : Nat := (mI k).2.2.2.2.1
def mArg (k : Nat) : Nat := (mI k).2.2.2.2.2.1
def cPos : List Nat := [203, 203, 203, 203, 203, 203, 203, 203, 203, 145, 203, 203, 203, 203, 203, 203, 203, 203, 203, 203, 47, 441, 447, 203, 451, 455, 203, 244, 203, 203, 207, 212, 220, 203, 240, 203, 203, 236, 30, 376, 463, 411, 394, 397, 432, 407, 415, 421, 418, 424, 437, 203, 203, 203, 103, 467, 470, 316, 301, 340, 203, 203, 328, 203, 203, 132, 203, 203, 203, 203, 203, 78, 459, 353, 275, 284, 357, 232, 216, 203, 255, 362, 259, 263, 293, 297, 370, 203, 22, 390, 203, 403, 428, 195, 224, 248, 267, 280, 289, 336, 345, 349, 203, 203, 203, 203, 203, 203, 203, 203, 203, 203, 203, 366, 203, 228, 199, 251, 203, 271, 203, 203, 203, 203, 203, 203, 107, 110, 379, 386, 383, 476, 473, 482, 479, 203, 203, 203, 203, 203, 203, 203, 203, 203, 203, 203, 203, 203, 203, 203, 203, 203, 203, 203, 203, 203, 203, 203, 203, 203, 203, 203, 203, 203, 203, 203, 203, 203, 203, 203, 203, 203, 203, 203, 203, 203, 203, 203, 203, 203, 203, 203, 203, 203, 203, 203, 203, 203, 203, 203, 203, 203, 203, 203, 203, 203, 203, 203, 203, 309, 305, 321, 324, 332]
def iPos : List Nat := [12, 12, 12, 16, 12, 12, 11, 12, 14, 15, 13, 10, 12, 9, 17, 0]
def tblX : List Jvm.Cond := lw_tbl
def tAt (i : Nat) (w : Jvm.Cond) : Bool := decide (tblX[i]? = some w) && goodWord w
def tblG : List Jvm.Cond := tblX.filter goodWord
def wCode (k : Nat) : Jvm.Cond := .code (mName k) (mCode k) (mMax k) (mRet k)
theorem tAt_in {i : Nat} {w : Jvm.Cond} (h : tAt i w = true) : w ∈ tblG := by
  unfold tAt at h
  rw [Bool.and_eq_true] at h
  exact List.mem_filter.mpr ⟨List.mem_of_getElem? (of_decide_eq_true h.1), h.2⟩
def mChk (k : Nat) : Bool := tAt (iPos.getD (mOwn k) 0) (.initialized (mName k).cls) && decide (rcl (mOwn k) = (mName k).cls) && decide ((mName k).cls ≠ "java/lang/invoke/MethodHandle") && decide ((mName k).cls ≠ "java/lang/invoke/VarHandle") && decide ((parseMethodDescriptor (mName k).desc).map (fun d => d.parameters.length) = some (mArg k)) && plainName (mName k).cls
theorem mChk_0 : ∀ k, k < 50 → mChk (k + 0) = true := by decide +kernel
theorem mChk_50 : ∀ k, k < 50 → mChk (k + 50) = true := by decide +kernel
theorem mChk_100 : ∀ k, k < 50 → mChk (k + 100) = true := by decide +kernel
theorem mChk_150 : ∀ k, k < 50 → mChk (k + 150) = true := by decide +kernel
theorem mChk_200 : ∀ k, k < 4 → mChk (k + 200) = true := by decide +kernel
theorem mChk_all : ∀ k, k < 204 → mChk k = true := by
  intro k hk
  rcases Nat.lt_or_ge k 50 with h0 | h0
  · have := mChk_0 (k - 0) (by omega)
    rwa [Nat.sub_add_cancel (by omega)] at this
  rcases Nat.lt_or_ge k 100 with h1 | h1
  · have := mChk_50 (k - 50) (by omega)
    rwa [Nat.sub_add_cancel (by omega)] at this
  rcases Nat.lt_or_ge k 150 with h2 | h2
  · have := mChk_100 (k - 100) (by omega)
    rwa [Nat.sub_add_cancel (by omega)] at this
  rcases Nat.lt_or_ge k 200 with h3 | h3
  · have := mChk_150 (k - 150) (by omega)
    rwa [Nat.sub_add_cancel (by omega)] at this
  have := mChk_200 (k - 200) (by omega)
  rwa [Nat.sub_add_cancel (by omega)] at this
theorem cw_0 : wCode 0 ∈ tables_1 := List.mem_append_left _ (List.mem_of_getElem? (i := 194) rfl)
theorem ca_0 : ∀ a, a < 1 → wCode a ∈ tables_1 := lt_s (lt_0 (p := fun a => wCode a ∈ tables_1)) cw_0
theorem cw_1 : wCode 1 ∈ tables_1 := List.mem_append_left _ (List.mem_of_getElem? (i := 194) rfl)
theorem ca_1 : ∀ a, a < 2 → wCode a ∈ tables_1 := lt_s ca_0 cw_1
theorem cw_2 : wCode 2 ∈ tables_1 := List.mem_append_left _ (List.mem_of_getElem? (i := 194) rfl)
theorem ca_2 : ∀ a, a < 3 → wCode a ∈ tables_1 := lt_s ca_1 cw_2
theorem cw_3 : wCode 3 ∈ tables_1 := List.mem_append_left _ (List.mem_of_getElem? (i := 194) rfl)
theorem ca_3 : ∀ a, a < 4 → wCode a ∈ tables_1 := lt_s ca_2 cw_3
theorem cw_4 : wCode 4 ∈ tables_1 := List.mem_append_left _ (List.mem_of_getElem? (i := 194) rfl)
theorem ca_4 : ∀ a, a < 5 → wCode a ∈ tables_1 := lt_s ca_3 cw_4
theorem cw_5 : wCode 5 ∈ tables_1 := List.mem_append_left _ (List.mem_of_getElem? (i := 194) rfl)
theorem ca_5 : ∀ a, a < 6 → wCode a ∈ tables_1 := lt_s ca_4 cw_5
theorem cw_6 : wCode 6 ∈ tables_1 := List.mem_append_left _ (List.mem_of_getElem? (i := 194) rfl)
theorem ca_6 : ∀ a, a < 7 → wCode a ∈ tables_1 := lt_s ca_5 cw_6
theorem cw_7 : wCode 7 ∈ tables_1 := List.mem_append_left _ (List.mem_of_getElem? (i := 194) rfl)
theorem ca_7 : ∀ a, a < 8 → wCode a ∈ tables_1 := lt_s ca_6 cw_7
theorem cw_8 : wCode 8 ∈ tables_1 := List.mem_append_left _ (List.mem_of_getElem? (i := 194) rfl)
theorem ca_8 : ∀ a, a < 9 → wCode a ∈ tables_1 := lt_s ca_7 cw_8
theorem cw_9 : wCode 9 ∈ tables_1 := List.mem_append_left _ (List.mem_of_getElem? (i := 136) rfl)
theorem ca_9 : ∀ a, a < 10 → wCode a ∈ tables_1 := lt_s ca_8 cw_9
theorem cw_10 : wCode 10 ∈ tables_1 := List.mem_append_left _ (List.mem_of_getElem? (i := 194) rfl)
theorem ca_10 : ∀ a, a < 11 → wCode a ∈ tables_1 := lt_s ca_9 cw_10
theorem cw_11 : wCode 11 ∈ tables_1 := List.mem_append_left _ (List.mem_of_getElem? (i := 194) rfl)
theorem ca_11 : ∀ a, a < 12 → wCode a ∈ tables_1 := lt_s ca_10 cw_11
theorem cw_12 : wCode 12 ∈ tables_1 := List.mem_append_left _ (List.mem_of_getElem? (i := 194) rfl)
theorem ca_12 : ∀ a, a < 13 → wCode a ∈ tables_1 := lt_s ca_11 cw_12
theorem cw_13 : wCode 13 ∈ tables_1 := List.mem_append_left _ (List.mem_of_getElem? (i := 194) rfl)
theorem ca_13 : ∀ a, a < 14 → wCode a ∈ tables_1 := lt_s ca_12 cw_13
theorem cw_14 : wCode 14 ∈ tables_1 := List.mem_append_left _ (List.mem_of_getElem? (i := 194) rfl)
theorem ca_14 : ∀ a, a < 15 → wCode a ∈ tables_1 := lt_s ca_13 cw_14
theorem cw_15 : wCode 15 ∈ tables_1 := List.mem_append_left _ (List.mem_of_getElem? (i := 194) rfl)
theorem ca_15 : ∀ a, a < 16 → wCode a ∈ tables_1 := lt_s ca_14 cw_15
theorem cw_16 : wCode 16 ∈ tables_1 := List.mem_append_left _ (List.mem_of_getElem? (i := 194) rfl)
theorem ca_16 : ∀ a, a < 17 → wCode a ∈ tables_1 := lt_s ca_15 cw_16
theorem cw_17 : wCode 17 ∈ tables_1 := List.mem_append_left _ (List.mem_of_getElem? (i := 194) rfl)
theorem ca_17 : ∀ a, a < 18 → wCode a ∈ tables_1 := lt_s ca_16 cw_17
theorem cw_18 : wCode 18 ∈ tables_1 := List.mem_append_left _ (List.mem_of_getElem? (i := 194) rfl)
theorem ca_18 : ∀ a, a < 19 → wCode a ∈ tables_1 := lt_s ca_17 cw_18
theorem cw_19 : wCode 19 ∈ tables_1 := List.mem_append_left _ (List.mem_of_getElem? (i := 194) rfl)
theorem ca_19 : ∀ a, a < 20 → wCode a ∈ tables_1 := lt_s ca_18 cw_19
theorem cw_20 : wCode 20 ∈ tables_1 := List.mem_append_left _ (List.mem_of_getElem? (i := 38) rfl)
theorem ca_20 : ∀ a, a < 21 → wCode a ∈ tables_1 := lt_s ca_19 cw_20
theorem cw_21 : wCode 21 ∈ tables_1 := List.mem_append_right _ ((List.mem_of_getElem? (i := 192) rfl))
theorem ca_21 : ∀ a, a < 22 → wCode a ∈ tables_1 := lt_s ca_20 cw_21
theorem cw_22 : wCode 22 ∈ tables_1 := List.mem_append_right _ ((List.mem_of_getElem? (i := 198) rfl))
theorem ca_22 : ∀ a, a < 23 → wCode a ∈ tables_1 := lt_s ca_21 cw_22
theorem cw_23 : wCode 23 ∈ tables_1 := List.mem_append_left _ (List.mem_of_getElem? (i := 194) rfl)
theorem ca_23 : ∀ a, a < 24 → wCode a ∈ tables_1 := lt_s ca_22 cw_23
theorem cw_24 : wCode 24 ∈ tables_1 := List.mem_append_right _ ((List.mem_of_getElem? (i := 202) rfl))
theorem ca_24 : ∀ a, a < 25 → wCode a ∈ tables_1 := lt_s ca_23 cw_24
theorem cw_25 : wCode 25 ∈ tables_1 := List.mem_append_right _ ((List.mem_of_getElem? (i := 206) rfl))
theorem ca_25 : ∀ a, a < 26 → wCode a ∈ tables_1 := lt_s ca_24 cw_25
theorem cw_26 : wCode 26 ∈ tables_1 := List.mem_append_left _ (List.mem_of_getElem? (i := 194) rfl)
theorem ca_26 : ∀ a, a < 27 → wCode a ∈ tables_1 := lt_s ca_25 cw_26
theorem cw_27 : wCode 27 ∈ tables_1 := List.mem_append_left _ (List.mem_of_getElem? (i := 235) rfl)
theorem ca_27 : ∀ a, a < 28 → wCode a ∈ tables_1 := lt_s ca_26 cw_27
theorem cw_28 : wCode 28 ∈ tables_1 := List.mem_append_left _ (List.mem_of_getElem? (i := 194) rfl)
theorem ca_28 : ∀ a, a < 29 → wCode a ∈ tables_1 := lt_s ca_27 cw_28
theorem cw_29 : wCode 29 ∈ tables_1 := List.mem_append_left _ (List.mem_of_getElem? (i := 194) rfl)
theorem ca_29 : ∀ a, a < 30 → wCode a ∈ tables_1 := lt_s ca_28 cw_29
theorem cw_30 : wCode 30 ∈ tables_1 := List.mem_append_left _ (List.mem_of_getElem? (i := 198) rfl)
theorem ca_30 : ∀ a, a < 31 → wCode a ∈ tables_1 := lt_s ca_29 cw_30
theorem cw_31 : wCode 31 ∈ tables_1 := List.mem_append_left _ (List.mem_of_getElem? (i := 203) rfl)
theorem ca_31 : ∀ a, a < 32 → wCode a ∈ tables_1 := lt_s ca_30 cw_31
theorem cw_32 : wCode 32 ∈ tables_1 := List.mem_append_left _ (List.mem_of_getElem? (i := 211) rfl)
theorem ca_32 : ∀ a, a < 33 → wCode a ∈ tables_1 := lt_s ca_31 cw_32
theorem cw_33 : wCode 33 ∈ tables_1 := List.mem_append_left _ (List.mem_of_getElem? (i := 194) rfl)
theorem ca_33 : ∀ a, a < 34 → wCode a ∈ tables_1 := lt_s ca_32 cw_33
theorem cw_34 : wCode 34 ∈ tables_1 := List.mem_append_left _ (List.mem_of_getElem? (i := 231) rfl)
theorem ca_34 : ∀ a, a < 35 → wCode a ∈ tables_1 := lt_s ca_33 cw_34
theorem cw_35 : wCode 35 ∈ tables_1 := List.mem_append_left _ (List.mem_of_getElem? (i := 194) rfl)
theorem ca_35 : ∀ a, a < 36 → wCode a ∈ tables_1 := lt_s ca_34 cw_35
theorem cw_36 : wCode 36 ∈ tables_1 := List.mem_append_left _ (List.mem_of_getElem? (i := 194) rfl)
theorem ca_36 : ∀ a, a < 37 → wCode a ∈ tables_1 := lt_s ca_35 cw_36
theorem cw_37 : wCode 37 ∈ tables_1 := List.mem_append_left _ (List.mem_of_getElem? (i := 227) rfl)
theorem ca_37 : ∀ a, a < 38 → wCode a ∈ tables_1 := lt_s ca_36 cw_37
theorem cw_38 : wCode 38 ∈ tables_1 := List.mem_append_left _ (List.mem_of_getElem? (i := 21) rfl)
theorem ca_38 : ∀ a, a < 39 → wCode a ∈ tables_1 := lt_s ca_37 cw_38
theorem cw_39 : wCode 39 ∈ tables_1 := List.mem_append_right _ ((List.mem_of_getElem? (i := 127) rfl))
theorem ca_39 : ∀ a, a < 40 → wCode a ∈ tables_1 := lt_s ca_38 cw_39
theorem cw_40 : wCode 40 ∈ tables_1 := List.mem_append_right _ ((List.mem_of_getElem? (i := 214) rfl))
theorem ca_40 : ∀ a, a < 41 → wCode a ∈ tables_1 := lt_s ca_39 cw_40
theorem cw_41 : wCode 41 ∈ tables_1 := List.mem_append_right _ ((List.mem_of_getElem? (i := 162) rfl))
theorem ca_41 : ∀ a, a < 42 → wCode a ∈ tables_1 := lt_s ca_40 cw_41
theorem cw_42 : wCode 42 ∈ tables_1 := List.mem_append_right _ ((List.mem_of_getElem? (i := 145) rfl))
theorem ca_42 : ∀ a, a < 43 → wCode a ∈ tables_1 := lt_s ca_41 cw_42
theorem cw_43 : wCode 43 ∈ tables_1 := List.mem_append_right _ ((List.mem_of_getElem? (i := 148) rfl))
theorem ca_43 : ∀ a, a < 44 → wCode a ∈ tables_1 := lt_s ca_42 cw_43
theorem cw_44 : wCode 44 ∈ tables_1 := List.mem_append_right _ ((List.mem_of_getElem? (i := 183) rfl))
theorem ca_44 : ∀ a, a < 45 → wCode a ∈ tables_1 := lt_s ca_43 cw_44
theorem cw_45 : wCode 45 ∈ tables_1 := List.mem_append_right _ ((List.mem_of_getElem? (i := 158) rfl))
theorem ca_45 : ∀ a, a < 46 → wCode a ∈ tables_1 := lt_s ca_44 cw_45
theorem cw_46 : wCode 46 ∈ tables_1 := List.mem_append_right _ ((List.mem_of_getElem? (i := 166) rfl))
theorem ca_46 : ∀ a, a < 47 → wCode a ∈ tables_1 := lt_s ca_45 cw_46
theorem cw_47 : wCode 47 ∈ tables_1 := List.mem_append_right _ ((List.mem_of_getElem? (i := 172) rfl))
theorem ca_47 : ∀ a, a < 48 → wCode a ∈ tables_1 := lt_s ca_46 cw_47
theorem cw_48 : wCode 48 ∈ tables_1 := List.mem_append_right _ ((List.mem_of_getElem? (i := 169) rfl))
theorem ca_48 : ∀ a, a < 49 → wCode a ∈ tables_1 := lt_s ca_47 cw_48
theorem cw_49 : wCode 49 ∈ tables_1 := List.mem_append_right _ ((List.mem_of_getElem? (i := 175) rfl))
theorem ca_49 : ∀ a, a < 50 → wCode a ∈ tables_1 := lt_s ca_48 cw_49
theorem cw_50 : wCode 50 ∈ tables_1 := List.mem_append_right _ ((List.mem_of_getElem? (i := 188) rfl))
theorem ca_50 : ∀ a, a < 51 → wCode a ∈ tables_1 := lt_s ca_49 cw_50
theorem cw_51 : wCode 51 ∈ tables_1 := List.mem_append_left _ (List.mem_of_getElem? (i := 194) rfl)
theorem ca_51 : ∀ a, a < 52 → wCode a ∈ tables_1 := lt_s ca_50 cw_51
theorem cw_52 : wCode 52 ∈ tables_1 := List.mem_append_left _ (List.mem_of_getElem? (i := 194) rfl)
theorem ca_52 : ∀ a, a < 53 → wCode a ∈ tables_1 := lt_s ca_51 cw_52
theorem cw_53 : wCode 53 ∈ tables_1 := List.mem_append_left _ (List.mem_of_getElem? (i := 194) rfl)
theorem ca_53 : ∀ a, a < 54 → wCode a ∈ tables_1 := lt_s ca_52 cw_53
theorem cw_54 : wCode 54 ∈ tables_1 := List.mem_append_left _ (List.mem_of_getElem? (i := 94) rfl)
theorem ca_54 : ∀ a, a < 55 → wCode a ∈ tables_1 := lt_s ca_53 cw_54
theorem cw_55 : wCode 55 ∈ tables_1 := List.mem_append_right _ ((List.mem_of_getElem? (i := 218) rfl))
theorem ca_55 : ∀ a, a < 56 → wCode a ∈ tables_1 := lt_s ca_54 cw_55
theorem cw_56 : wCode 56 ∈ tables_1 := List.mem_append_right _ ((List.mem_of_getElem? (i := 221) rfl))
theorem ca_56 : ∀ a, a < 57 → wCode a ∈ tables_1 := lt_s ca_55 cw_56
theorem cw_57 : wCode 57 ∈ tables_1 := List.mem_append_right _ ((List.mem_of_getElem? (i := 67) rfl))
theorem ca_57 : ∀ a, a < 58 → wCode a ∈ tables_1 := lt_s ca_56 cw_57
theorem cw_58 : wCode 58 ∈ tables_1 := List.mem_append_right _ ((List.mem_of_getElem? (i := 52) rfl))
theorem ca_58 : ∀ a, a < 59 → wCode a ∈ tables_1 := lt_s ca_57 cw_58
theorem cw_59 : wCode 59 ∈ tables_1 := List.mem_append_right _ ((List.mem_of_getElem? (i := 91) rfl))
theorem ca_59 : ∀ a, a < 60 → wCode a ∈ tables_1 := lt_s ca_58 cw_59
theorem cw_60 : wCode 60 ∈ tables_1 := List.mem_append_left _ (List.mem_of_getElem? (i := 194) rfl)
theorem ca_60 : ∀ a, a < 61 → wCode a ∈ tables_1 := lt_s ca_59 cw_60
theorem cw_61 : wCode 61 ∈ tables_1 := List.mem_append_left _ (List.mem_of_getElem? (i := 194) rfl)
theorem ca_61 : ∀ a, a < 62 → wCode a ∈ tables_1 := lt_s ca_60 cw_61
theorem cw_62 : wCode 62 ∈ tables_1 := List.mem_append_right _ ((List.mem_of_getElem? (i := 79) rfl))
theorem ca_62 : ∀ a, a < 63 → wCode a ∈ tables_1 := lt_s ca_61 cw_62
theorem cw_63 : wCode 63 ∈ tables_1 := List.mem_append_left _ (List.mem_of_getElem? (i := 194) rfl)
theorem ca_63 : ∀ a, a < 64 → wCode a ∈ tables_1 := lt_s ca_62 cw_63
theorem cw_64 : wCode 64 ∈ tables_1 := List.mem_append_left _ (List.mem_of_getElem? (i := 194) rfl)
theorem ca_64 : ∀ a, a < 65 → wCode a ∈ tables_1 := lt_s ca_63 cw_64
theorem cw_65 : wCode 65 ∈ tables_1 := List.mem_append_left _ (List.mem_of_getElem? (i := 123) rfl)
theorem ca_65 : ∀ a, a < 66 → wCode a ∈ tables_1 := lt_s ca_64 cw_65
theorem cw_66 : wCode 66 ∈ tables_1 := List.mem_append_left _ (List.mem_of_getElem? (i := 194) rfl)
theorem ca_66 : ∀ a, a < 67 → wCode a ∈ tables_1 := lt_s ca_65 cw_66
theorem cw_67 : wCode 67 ∈ tables_1 := List.mem_append_left _ (List.mem_of_getElem? (i := 194) rfl)
theorem ca_67 : ∀ a, a < 68 → wCode a ∈ tables_1 := lt_s ca_66 cw_67
theorem cw_68 : wCode 68 ∈ tables_1 := List.mem_append_left _ (List.mem_of_getElem? (i := 194) rfl)
theorem ca_68 : ∀ a, a < 69 → wCode a ∈ tables_1 := lt_s ca_67 cw_68
theorem cw_69 : wCode 69 ∈ tables_1 := List.mem_append_left _ (List.mem_of_getElem? (i := 194) rfl)
theorem ca_69 : ∀ a, a < 70 → wCode a ∈ tables_1 := lt_s ca_68 cw_69
theorem cw_70 : wCode 70 ∈ tables_1 := List.mem_append_left _ (List.mem_of_getElem? (i := 194) rfl)
theorem ca_70 : ∀ a, a < 71 → wCode a ∈ tables_1 := lt_s ca_69 cw_70
theorem cw_71 : wCode 71 ∈ tables_1 := List.mem_append_left _ (List.mem_of_getElem? (i := 69) rfl)
theorem ca_71 : ∀ a, a < 72 → wCode a ∈ tables_1 := lt_s ca_70 cw_71
theorem cw_72 : wCode 72 ∈ tables_1 := List.mem_append_right _ ((List.mem_of_getElem? (i := 210) rfl))
theorem ca_72 : ∀ a, a < 73 → wCode a ∈ tables_1 := lt_s ca_71 cw_72
theorem cw_73 : wCode 73 ∈ tables_1 := List.mem_append_right _ ((List.mem_of_getElem? (i := 104) rfl))
theorem ca_73 : ∀ a, a < 74 → wCode a ∈ tables_1 := lt_s ca_72 cw_73
theorem cw_74 : wCode 74 ∈ tables_1 := List.mem_append_right _ ((List.mem_of_getElem? (i := 26) rfl))
theorem ca_74 : ∀ a, a < 75 → wCode a ∈ tables_1 := lt_s ca_73 cw_74
theorem cw_75 : wCode 75 ∈ tables_1 := List.mem_append_right _ ((List.mem_of_getElem? (i := 35) rfl))
theorem ca_75 : ∀ a, a < 76 → wCode a ∈ tables_1 := lt_s ca_74 cw_75
theorem cw_76 : wCode 76 ∈ tables_1 := List.mem_append_right _ ((List.mem_of_getElem? (i := 108) rfl))
theorem ca_76 : ∀ a, a < 77 → wCode a ∈ tables_1 := lt_s ca_75 cw_76
theorem cw_77 : wCode 77 ∈ tables_1 := List.mem_append_left _ (List.mem_of_getElem? (i := 223) rfl)
theorem ca_77 : ∀ a, a < 78 → wCode a ∈ tables_1 := lt_s ca_76 cw_77
theorem cw_78 : wCode 78 ∈ tables_1 := List.mem_append_left _ (List.mem_of_getElem? (i := 207) rfl)
theorem ca_78 : ∀ a, a < 79 → wCode a ∈ tables_1 := lt_s ca_77 cw_78
theorem cw_79 : wCode 79 ∈ tables_1 := List.mem_append_left _ (List.mem_of_getElem? (i := 194) rfl)
theorem ca_79 : ∀ a, a < 80 → wCode a ∈ tables_1 := lt_s ca_78 cw_79
theorem cw_80 : wCode 80 ∈ tables_1 := List.mem_append_right _ ((List.mem_of_getElem? (i := 6) rfl))
theorem ca_80 : ∀ a, a < 81 → wCode a ∈ tables_1 := lt_s ca_79 cw_80
theorem cw_81 : wCode 81 ∈ tables_1 := List.mem_append_right _ ((List.mem_of_getElem? (i := 113) rfl))
theorem ca_81 : ∀ a, a < 82 → wCode a ∈ tables_1 := lt_s ca_80 cw_81
theorem cw_82 : wCode 82 ∈ tables_1 := List.mem_append_right _ ((List.mem_of_getElem? (i := 10) rfl))
theorem ca_82 : ∀ a, a < 83 → wCode a ∈ tables_1 := lt_s ca_81 cw_82
theorem cw_83 : wCode 83 ∈ tables_1 := List.mem_append_right _ ((List.mem_of_getElem? (i := 14) rfl))
theorem ca_83 : ∀ a, a < 84 → wCode a ∈ tables_1 := lt_s ca_82 cw_83
theorem cw_84 : wCode 84 ∈ tables_1 := List.mem_append_right _ ((List.mem_of_getElem? (i := 44) rfl))
theorem ca_84 : ∀ a, a < 85 → wCode a ∈ tables_1 := lt_s ca_83 cw_84
theorem cw_85 : wCode 85 ∈ tables_1 := List.mem_append_right _ ((List.mem_of_getElem? (i := 48) rfl))
theorem ca_85 : ∀ a, a < 86 → wCode a ∈ tables_1 := lt_s ca_84 cw_85
theorem cw_86 : wCode 86 ∈ tables_1 := List.mem_append_right _ ((List.mem_of_getElem? (i := 121) rfl))
theorem ca_86 : ∀ a, a < 87 → wCode a ∈ tables_1 := lt_s ca_85 cw_86
theorem cw_87 : wCode 87 ∈ tables_1 := List.mem_append_left _ (List.mem_of_getElem? (i := 194) rfl)
theorem ca_87 : ∀ a, a < 88 → wCode a ∈ tables_1 := lt_s ca_86 cw_87
theorem cw_88 : wCode 88 ∈ tables_1 := List.mem_append_left _ (List.mem_of_getElem? (i := 13) rfl)
theorem ca_88 : ∀ a, a < 89 → wCode a ∈ tables_1 := lt_s ca_87 cw_88
theorem cw_89 : wCode 89 ∈ tables_1 := List.mem_append_right _ ((List.mem_of_getElem? (i := 141) rfl))
theorem ca_89 : ∀ a, a < 90 → wCode a ∈ tables_1 := lt_s ca_88 cw_89
theorem cw_90 : wCode 90 ∈ tables_1 := List.mem_append_left _ (List.mem_of_getElem? (i := 194) rfl)
theorem ca_90 : ∀ a, a < 91 → wCode a ∈ tables_1 := lt_s ca_89 cw_90
theorem cw_91 : wCode 91 ∈ tables_1 := List.mem_append_right _ ((List.mem_of_getElem? (i := 154) rfl))
theorem ca_91 : ∀ a, a < 92 → wCode a ∈ tables_1 := lt_s ca_90 cw_91
theorem cw_92 : wCode 92 ∈ tables_1 := List.mem_append_right _ ((List.mem_of_getElem? (i := 179) rfl))
theorem ca_92 : ∀ a, a < 93 → wCode a ∈ tables_1 := lt_s ca_91 cw_92
theorem cw_93 : wCode 93 ∈ tables_1 := List.mem_append_left _ (List.mem_of_getElem? (i := 186) rfl)
theorem ca_93 : ∀ a, a < 94 → wCode a ∈ tables_1 := lt_s ca_92 cw_93
theorem cw_94 : wCode 94 ∈ tables_1 := List.mem_append_left _ (List.mem_of_getElem? (i := 215) rfl)
theorem ca_94 : ∀ a, a < 95 → wCode a ∈ tables_1 := lt_s ca_93 cw_94
theorem cw_95 : wCode 95 ∈ tables_1 := List.mem_append_left _ (List.mem_of_getElem? (i := 239) rfl)
theorem ca_95 : ∀ a, a < 96 → wCode a ∈ tables_1 := lt_s ca_94 cw_95
theorem cw_96 : wCode 96 ∈ tables_1 := List.mem_append_right _ ((List.mem_of_getElem? (i := 18) rfl))
theorem ca_96 : ∀ a, a < 97 → wCode a ∈ tables_1 := lt_s ca_95 cw_96
theorem cw_97 : wCode 97 ∈ tables_1 := List.mem_append_right _ ((List.mem_of_getElem? (i := 31) rfl))
theorem ca_97 : ∀ a, a < 98 → wCode a ∈ tables_1 := lt_s ca_96 cw_97
theorem cw_98 : wCode 98 ∈ tables_1 := List.mem_append_right _ ((List.mem_of_getElem? (i := 40) rfl))
theorem ca_98 : ∀ a, a < 99 → wCode a ∈ tables_1 := lt_s ca_97 cw_98
theorem cw_99 : wCode 99 ∈ tables_1 := List.mem_append_right _ ((List.mem_of_getElem? (i := 87) rfl))
theorem ca_99 : ∀ a, a < 100 → wCode a ∈ tables_1 := lt_s ca_98 cw_99
theorem cw_100 : wCode 100 ∈ tables_1 := List.mem_append_right _ ((List.mem_of_getElem? (i := 96) rfl))
theorem ca_100 : ∀ a, a < 101 → wCode a ∈ tables_1 := lt_s ca_99 cw_100
theorem cw_101 : wCode 101 ∈ tables_1 := List.mem_append_right _ ((List.mem_of_getElem? (i := 100) rfl))
theorem ca_101 : ∀ a, a < 102 → wCode a ∈ tables_1 := lt_s ca_100 cw_101
theorem cw_102 : wCode 102 ∈ tables_1 := List.mem_append_left _ (List.mem_of_getElem? (i := 194) rfl)
theorem ca_102 : ∀ a, a < 103 → wCode a ∈ tables_1 := lt_s ca_101 cw_102
theorem cw_103 : wCode 103 ∈ tables_1 := List.mem_append_left _ (List.mem_of_getElem? (i := 194) rfl)
theorem ca_103 : ∀ a, a < 104 → wCode a ∈ tables_1 := lt_s ca_102 cw_103
theorem cw_104 : wCode 104 ∈ tables_1 := List.mem_append_left _ (List.mem_of_getElem? (i := 194) rfl)
theorem ca_104 : ∀ a, a < 105 → wCode a ∈ tables_1 := lt_s ca_103 cw_104
theorem cw_105 : wCode 105 ∈ tables_1 := List.mem_append_left _ (List.mem_of_getElem? (i := 194) rfl)
theorem ca_105 : ∀ a, a < 106 → wCode a ∈ tables_1 := lt_s ca_104 cw_105
theorem cw_106 : wCode 106 ∈ tables_1 := List.mem_append_left _ (List.mem_of_getElem? (i := 194) rfl)
theorem ca_106 : ∀ a, a < 107 → wCode a ∈ tables_1 := lt_s ca_105 cw_106
theorem cw_107 : wCode 107 ∈ tables_1 := List.mem_append_left _ (List.mem_of_getElem? (i := 194) rfl)
theorem ca_107 : ∀ a, a < 108 → wCode a ∈ tables_1 := lt_s ca_106 cw_107
theorem cw_108 : wCode 108 ∈ tables_1 := List.mem_append_left _ (List.mem_of_getElem? (i := 194) rfl)
theorem ca_108 : ∀ a, a < 109 → wCode a ∈ tables_1 := lt_s ca_107 cw_108
theorem cw_109 : wCode 109 ∈ tables_1 := List.mem_append_left _ (List.mem_of_getElem? (i := 194) rfl)
theorem ca_109 : ∀ a, a < 110 → wCode a ∈ tables_1 := lt_s ca_108 cw_109
theorem cw_110 : wCode 110 ∈ tables_1 := List.mem_append_left _ (List.mem_of_getElem? (i := 194) rfl)
theorem ca_110 : ∀ a, a < 111 → wCode a ∈ tables_1 := lt_s ca_109 cw_110
theorem cw_111 : wCode 111 ∈ tables_1 := List.mem_append_left _ (List.mem_of_getElem? (i := 194) rfl)
theorem ca_111 : ∀ a, a < 112 → wCode a ∈ tables_1 := lt_s ca_110 cw_111
theorem cw_112 : wCode 112 ∈ tables_1 := List.mem_append_left _ (List.mem_of_getElem? (i := 194) rfl)
theorem ca_112 : ∀ a, a < 113 → wCode a ∈ tables_1 := lt_s ca_111 cw_112
theorem cw_113 : wCode 113 ∈ tables_1 := List.mem_append_right _ ((List.mem_of_getElem? (i := 117) rfl))
theorem ca_113 : ∀ a, a < 114 → wCode a ∈ tables_1 := lt_s ca_112 cw_113
theorem cw_114 : wCode 114 ∈ tables_1 := List.mem_append_left _ (List.mem_of_getElem? (i := 194) rfl)
theorem ca_114 : ∀ a, a < 115 → wCode a ∈ tables_1 := lt_s ca_113 cw_114
theorem cw_115 : wCode 115 ∈ tables_1 := List.mem_append_left _ (List.mem_of_getElem? (i := 219) rfl)
theorem ca_115 : ∀ a, a < 116 → wCode a ∈ tables_1 := lt_s ca_114 cw_115
theorem cw_116 : wCode 116 ∈ tables_1 := List.mem_append_left _ (List.mem_of_getElem? (i := 190) rfl)
theorem ca_116 : ∀ a, a < 117 → wCode a ∈ tables_1 := lt_s ca_115 cw_116
theorem cw_117 : wCode 117 ∈ tables_1 := List.mem_append_right _ ((List.mem_of_getElem? (i := 2) rfl))
theorem ca_117 : ∀ a, a < 118 → wCode a ∈ tables_1 := lt_s ca_116 cw_117
theorem cw_118 : wCode 118 ∈ tables_1 := List.mem_append_left _ (List.mem_of_getElem? (i := 194) rfl)
theorem ca_118 : ∀ a, a < 119 → wCode a ∈ tables_1 := lt_s ca_117 cw_118
theorem cw_119 : wCode 119 ∈ tables_1 := List.mem_append_right _ ((List.mem_of_getElem? (i := 22) rfl))
theorem ca_119 : ∀ a, a < 120 → wCode a ∈ tables_1 := lt_s ca_118 cw_119
theorem cw_120 : wCode 120 ∈ tables_1 := List.mem_append_left _ (List.mem_of_getElem? (i := 194) rfl)
theorem ca_120 : ∀ a, a < 121 → wCode a ∈ tables_1 := lt_s ca_119 cw_120
theorem cw_121 : wCode 121 ∈ tables_1 := List.mem_append_left _ (List.mem_of_getElem? (i := 194) rfl)
theorem ca_121 : ∀ a, a < 122 → wCode a ∈ tables_1 := lt_s ca_120 cw_121
theorem cw_122 : wCode 122 ∈ tables_1 := List.mem_append_left _ (List.mem_of_getElem? (i := 194) rfl)
theorem ca_122 : ∀ a, a < 123 → wCode a ∈ tables_1 := lt_s ca_121 cw_122
theorem cw_123 : wCode 123 ∈ tables_1 := List.mem_append_left _ (List.mem_of_getElem? (i := 194) rfl)
theorem ca_123 : ∀ a, a < 124 → wCode a ∈ tables_1 := lt_s ca_122 cw_123
theorem cw_124 : wCode 124 ∈ tables_1 := List.mem_append_left _ (List.mem_of_getElem? (i := 194) rfl)
theorem ca_124 : ∀ a, a < 125 → wCode a ∈ tables_1 := lt_s ca_123 cw_124
theorem cw_125 : wCode 125 ∈ tables_1 := List.mem_append_left _ (List.mem_of_getElem? (i := 194) rfl)
theorem ca_125 : ∀ a, a < 126 → wCode a ∈ tables_1 := lt_s ca_124 cw_125
theorem cw_126 : wCode 126 ∈ tables_1 := List.mem_append_left _ (List.mem_of_getElem? (i := 98) rfl)
theorem ca_126 : ∀ a, a < 127 → wCode a ∈ tables_1 := lt_s ca_125 cw_126
theorem cw_127 : wCode 127 ∈ tables_1 := List.mem_append_left _ (List.mem_of_getElem? (i := 101) rfl)
theorem ca_127 : ∀ a, a < 128 → wCode a ∈ tables_1 := lt_s ca_126 cw_127
theorem cw_128 : wCode 128 ∈ tables_1 := List.mem_append_right _ ((List.mem_of_getElem? (i := 130) rfl))
theorem ca_128 : ∀ a, a < 129 → wCode a ∈ tables_1 := lt_s ca_127 cw_128
theorem cw_129 : wCode 129 ∈ tables_1 := List.mem_append_right _ ((List.mem_of_getElem? (i := 137) rfl))
theorem ca_129 : ∀ a, a < 130 → wCode a ∈ tables_1 := lt_s ca_128 cw_129
theorem cw_130 : wCode 130 ∈ tables_1 := List.mem_append_right _ ((List.mem_of_getElem? (i := 134) rfl))
theorem ca_130 : ∀ a, a < 131 → wCode a ∈ tables_1 := lt_s ca_129 cw_130
theorem cw_131 : wCode 131 ∈ tables_1 := List.mem_append_right _ ((List.mem_of_getElem? (i := 227) rfl))
theorem ca_131 : ∀ a, a < 132 → wCode a ∈ tables_1 := lt_s ca_130 cw_131
theorem cw_132 : wCode 132 ∈ tables_1 := List.mem_append_right _ ((List.mem_of_getElem? (i := 224) rfl))
theorem ca_132 : ∀ a, a < 133 → wCode a ∈ tables_1 := lt_s ca_131 cw_132
theorem cw_133 : wCode 133 ∈ tables_1 := List.mem_append_right _ ((List.mem_of_getElem? (i := 233) rfl))
theorem ca_133 : ∀ a, a < 134 → wCode a ∈ tables_1 := lt_s ca_132 cw_133
theorem cw_134 : wCode 134 ∈ tables_1 := List.mem_append_right _ ((List.mem_of_getElem? (i := 230) rfl))
theorem ca_134 : ∀ a, a < 135 → wCode a ∈ tables_1 := lt_s ca_133 cw_134
theorem cw_135 : wCode 135 ∈ tables_1 := List.mem_append_left _ (List.mem_of_getElem? (i := 194) rfl)
theorem ca_135 : ∀ a, a < 136 → wCode a ∈ tables_1 := lt_s ca_134 cw_135
theorem cw_136 : wCode 136 ∈ tables_1 := List.mem_append_left _ (List.mem_of_getElem? (i := 194) rfl)
theorem ca_136 : ∀ a, a < 137 → wCode a ∈ tables_1 := lt_s ca_135 cw_136
theorem cw_137 : wCode 137 ∈ tables_1 := List.mem_append_left _ (List.mem_of_getElem? (i := 194) rfl)
theorem ca_137 : ∀ a, a < 138 → wCode a ∈ tables_1 := lt_s ca_136 cw_137
theorem cw_138 : wCode 138 ∈ tables_1 := List.mem_append_left _ (List.mem_of_getElem? (i := 194) rfl)
theorem ca_138 : ∀ a, a < 139 → wCode a ∈ tables_1 := lt_s ca_137 cw_138
theorem cw_139 : wCode 139 ∈ tables_1 := List.mem_append_left _ (List.mem_of_getElem? (i := 194) rfl)
theorem ca_139 : ∀ a, a < 140 → wCode a ∈ tables_1 := lt_s ca_138 cw_139
theorem cw_140 : wCode 140 ∈ tables_1 := List.mem_append_left _ (List.mem_of_getElem? (i := 194) rfl)
theorem ca_140 : ∀ a, a < 141 → wCode a ∈ tables_1 := lt_s ca_139 cw_140
theorem cw_141 : wCode 141 ∈ tables_1 := List.mem_append_left _ (List.mem_of_getElem? (i := 194) rfl)
theorem ca_141 : ∀ a, a < 142 → wCode a ∈ tables_1 := lt_s ca_140 cw_141
theorem cw_142 : wCode 142 ∈ tables_1 := List.mem_append_left _ (List.mem_of_getElem? (i := 194) rfl)
theorem ca_142 : ∀ a, a < 143 → wCode a ∈ tables_1 := lt_s ca_141 cw_142
theorem cw_143 : wCode 143 ∈ tables_1 := List.mem_append_left _ (List.mem_of_getElem? (i := 194) rfl)
theorem ca_143 : ∀ a, a < 144 → wCode a ∈ tables_1 := lt_s ca_142 cw_143
theorem cw_144 : wCode 144 ∈ tables_1 := List.mem_append_left _ (List.mem_of_getElem? (i := 194) rfl)
theorem ca_144 : ∀ a, a < 145 → wCode a ∈ tables_1 := lt_s ca_143 cw_144
theorem cw_145 : wCode 145 ∈ tables_1 := List.mem_append_left _ (List.mem_of_getElem? (i := 194) rfl)
theorem ca_145 : ∀ a, a < 146 → wCode a ∈ tables_1 := lt_s ca_144 cw_145
theorem cw_146 : wCode 146 ∈ tables_1 := List.mem_append_left _ (List.mem_of_getElem? (i := 194) rfl)
theorem ca_146 : ∀ a, a < 147 → wCode a ∈ tables_1 := lt_s ca_145 cw_146
theorem cw_147 : wCode 147 ∈ tables_1 := List.mem_append_left _ (List.mem_of_getElem? (i := 194) rfl)
theorem ca_147 : ∀ a, a < 148 → wCode a ∈ tables_1 := lt_s ca_146 cw_147
theorem cw_148 : wCode 148 ∈ tables_1 := List.mem_append_left _ (List.mem_of_getElem? (i := 194) rfl)
theorem ca_148 : ∀ a, a < 149 → wCode a ∈ tables_1 := lt_s ca_147 cw_148
theorem cw_149 : wCode 149 ∈ tables_1 := List.mem_append_left _ (List.mem_of_getElem? (i := 194) rfl)
theorem ca_149 : ∀ a, a < 150 → wCode a ∈ tables_1 := lt_s ca_148 cw_149
theorem cw_150 : wCode 150 ∈ tables_1 := List.mem_append_left _ (List.mem_of_getElem? (i := 194) rfl)
theorem ca_150 : ∀ a, a < 151 → wCode a ∈ tables_1 := lt_s ca_149 cw_150
theorem cw_151 : wCode 151 ∈ tables_1 := List.mem_append_left _ (List.mem_of_getElem? (i := 194) rfl)
theorem ca_151 : ∀ a, a < 152 → wCode a ∈ tables_1 := lt_s ca_150 cw_151
theorem cw_152 : wCode 152 ∈ tables_1 := List.mem_append_left _ (List.mem_of_getElem? (i := 194) rfl)
theorem ca_152 : ∀ a, a < 153 → wCode a ∈ tables_1 := lt_s ca_151 cw_152
theorem cw_153 : wCode 153 ∈ tables_1 := List.mem_append_left _ (List.mem_of_getElem? (i := 194) rfl)
theorem ca_153 : ∀ a, a < 154 → wCode a ∈ tables_1 := lt_s ca_152 cw_153
theorem cw_154 : wCode 154 ∈ tables_1 := List.mem_append_left _ (List.mem_of_getElem? (i := 194) rfl)
theorem ca_154 : ∀ a, a < 155 → wCode a ∈ tables_1 := lt_s ca_153 cw_154
theorem cw_155 : wCode 155 ∈ tables_1 := List.mem_append_left _ (List.mem_of_getElem? (i := 194) rfl)
theorem ca_155 : ∀ a, a < 156 → wCode a ∈ tables_1 := lt_s ca_154 cw_155
theorem cw_156 : wCode 156 ∈ tables_1 := List.mem_append_left _ (List.mem_of_getElem? (i := 194) rfl)
theorem ca_156 : ∀ a, a < 157 → wCode a ∈ tables_1 := lt_s ca_155 cw_156
theorem cw_157 : wCode 157 ∈ tables_1 := List.mem_append_left _ (List.mem_of_getElem? (i := 194) rfl)
theorem ca_157 : ∀ a, a < 158 → wCode a ∈ tables_1 := lt_s ca_156 cw_157
theorem cw_158 : wCode 158 ∈ tables_1 := List.mem_append_left _ (List.mem_of_getElem? (i := 194) rfl)
theorem ca_158 : ∀ a, a < 159 → wCode a ∈ tables_1 := lt_s ca_157 cw_158
theorem cw_159 : wCode 159 ∈ tables_1 := List.mem_append_left _ (List.mem_of_getElem? (i := 194) rfl)
theorem ca_159 : ∀ a, a < 160 → wCode a ∈ tables_1 := lt_s ca_158 cw_159
theorem cw_160 : wCode 160 ∈ tables_1 := List.mem_append_left _ (List.mem_of_getElem? (i := 194) rfl)
theorem ca_160 : ∀ a, a < 161 → wCode a ∈ tables_1 := lt_s ca_159 cw_160
theorem cw_161 : wCode 161 ∈ tables_1 := List.mem_append_left _ (List.mem_of_getElem? (i := 194) rfl)
theorem ca_161 : ∀ a, a < 162 → wCode a ∈ tables_1 := lt_s ca_160 cw_161
theorem cw_162 : wCode 162 ∈ tables_1 := List.mem_append_left _ (List.mem_of_getElem? (i := 194) rfl)
theorem ca_162 : ∀ a, a < 163 → wCode a ∈ tables_1 := lt_s ca_161 cw_162
theorem cw_163 : wCode 163 ∈ tables_1 := List.mem_append_left _ (List.mem_of_getElem? (i := 194) rfl)
theorem ca_163 : ∀ a, a < 164 → wCode a ∈ tables_1 := lt_s ca_162 cw_163
theorem cw_164 : wCode 164 ∈ tables_1 := List.mem_append_left _ (List.mem_of_getElem? (i := 194) rfl)
theorem ca_164 : ∀ a, a < 165 → wCode a ∈ tables_1 := lt_s ca_163 cw_164
theorem cw_165 : wCode 165 ∈ tables_1 := List.mem_append_left _ (List.mem_of_getElem? (i := 194) rfl)
theorem ca_165 : ∀ a, a < 166 → wCode a ∈ tables_1 := lt_s ca_164 cw_165
theorem cw_166 : wCode 166 ∈ tables_1 := List.mem_append_left _ (List.mem_of_getElem? (i := 194) rfl)
theorem ca_166 : ∀ a, a < 167 → wCode a ∈ tables_1 := lt_s ca_165 cw_166
theorem cw_167 : wCode 167 ∈ tables_1 := List.mem_append_left _ (List.mem_of_getElem? (i := 194) rfl)
theorem ca_167 : ∀ a, a < 168 → wCode a ∈ tables_1 := lt_s ca_166 cw_167
theorem cw_168 : wCode 168 ∈ tables_1 := List.mem_append_left _ (List.mem_of_getElem? (i := 194) rfl)
theorem ca_168 : ∀ a, a < 169 → wCode a ∈ tables_1 := lt_s ca_167 cw_168
theorem cw_169 : wCode 169 ∈ tables_1 := List.mem_append_left _ (List.mem_of_getElem? (i := 194) rfl)
theorem ca_169 : ∀ a, a < 170 → wCode a ∈ tables_1 := lt_s ca_168 cw_169
theorem cw_170 : wCode 170 ∈ tables_1 := List.mem_append_left _ (List.mem_of_getElem? (i := 194) rfl)
theorem ca_170 : ∀ a, a < 171 → wCode a ∈ tables_1 := lt_s ca_169 cw_170
theorem cw_171 : wCode 171 ∈ tables_1 := List.mem_append_left _ (List.mem_of_getElem? (i := 194) rfl)
theorem ca_171 : ∀ a, a < 172 → wCode a ∈ tables_1 := lt_s ca_170 cw_171
theorem cw_172 : wCode 172 ∈ tables_1 := List.mem_append_left _ (List.mem_of_getElem? (i := 194) rfl)
theorem ca_172 : ∀ a, a < 173 → wCode a ∈ tables_1 := lt_s ca_171 cw_172
theorem cw_173 : wCode 173 ∈ tables_1 := List.mem_append_left _ (List.mem_of_getElem? (i := 194) rfl)
theorem ca_173 : ∀ a, a < 174 → wCode a ∈ tables_1 := lt_s ca_172 cw_173
theorem cw_174 : wCode 174 ∈ tables_1 := List.mem_append_left _ (List.mem_of_getElem? (i := 194) rfl)
theorem ca_174 : ∀ a, a < 175 → wCode a ∈ tables_1 := lt_s ca_173 cw_174
theorem cw_175 : wCode 175 ∈ tables_1 := List.mem_append_left _ (List.mem_of_getElem? (i := 194) rfl)
theorem ca_175 : ∀ a, a < 176 → wCode a ∈ tables_1 := lt_s ca_174 cw_175
theorem cw_176 : wCode 176 ∈ tables_1 := List.mem_append_left _ (List.mem_of_getElem? (i := 194) rfl)
theorem ca_176 : ∀ a, a < 177 → wCode a ∈ tables_1 := lt_s ca_175 cw_176
theorem cw_177 : wCode 177 ∈ tables_1 := List.mem_append_left _ (List.mem_of_getElem? (i := 194) rfl)
theorem ca_177 : ∀ a, a < 178 → wCode a ∈ tables_1 := lt_s ca_176 cw_177
theorem cw_178 : wCode 178 ∈ tables_1 := List.mem_append_left _ (List.mem_of_getElem? (i := 194) rfl)
theorem ca_178 : ∀ a, a < 179 → wCode a ∈ tables_1 := lt_s ca_177 cw_178
theorem cw_179 : wCode 179 ∈ tables_1 := List.mem_append_left _ (List.mem_of_getElem? (i := 194) rfl)
theorem ca_179 : ∀ a, a < 180 → wCode a ∈ tables_1 := lt_s ca_178 cw_179
theorem cw_180 : wCode 180 ∈ tables_1 := List.mem_append_left _ (List.mem_of_getElem? (i := 194) rfl)
theorem ca_180 : ∀ a, a < 181 → wCode a ∈ tables_1 := lt_s ca_179 cw_180
theorem cw_181 : wCode 181 ∈ tables_1 := List.mem_append_left _ (List.mem_of_getElem? (i := 194) rfl)
theorem ca_181 : ∀ a, a < 182 → wCode a ∈ tables_1 := lt_s ca_180 cw_181
theorem cw_182 : wCode 182 ∈ tables_1 := List.mem_append_left _ (List.mem_of_getElem? (i := 194) rfl)
theorem ca_182 : ∀ a, a < 183 → wCode a ∈ tables_1 := lt_s ca_181 cw_182
theorem cw_183 : wCode 183 ∈ tables_1 := List.mem_append_left _ (List.mem_of_getElem? (i := 194) rfl)
theorem ca_183 : ∀ a, a < 184 → wCode a ∈ tables_1 := lt_s ca_182 cw_183
theorem cw_184 : wCode 184 ∈ tables_1 := List.mem_append_left _ (List.mem_of_getElem? (i := 194) rfl)
theorem ca_184 : ∀ a, a < 185 → wCode a ∈ tables_1 := lt_s ca_183 cw_184
theorem cw_185 : wCode 185 ∈ tables_1 := List.mem_append_left _ (List.mem_of_getElem? (i := 194) rfl)
theorem ca_185 : ∀ a, a < 186 → wCode a ∈ tables_1 := lt_s ca_184 cw_185
theorem cw_186 : wCode 186 ∈ tables_1 := List.mem_append_left _ (List.mem_of_getElem? (i := 194) rfl)
theorem ca_186 : ∀ a, a < 187 → wCode a ∈ tables_1 := lt_s ca_185 cw_186
theorem cw_187 : wCode 187 ∈ tables_1 := List.mem_append_left _ (List.mem_of_getElem? (i := 194) rfl)
theorem ca_187 : ∀ a, a < 188 → wCode a ∈ tables_1 := lt_s ca_186 cw_187
theorem cw_188 : wCode 188 ∈ tables_1 := List.mem_append_left _ (List.mem_of_getElem? (i := 194) rfl)
theorem ca_188 : ∀ a, a < 189 → wCode a ∈ tables_1 := lt_s ca_187 cw_188
theorem cw_189 : wCode 189 ∈ tables_1 := List.mem_append_left _ (List.mem_of_getElem? (i := 194) rfl)
theorem ca_189 : ∀ a, a < 190 → wCode a ∈ tables_1 := lt_s ca_188 cw_189
theorem cw_190 : wCode 190 ∈ tables_1 := List.mem_append_left _ (List.mem_of_getElem? (i := 194) rfl)
theorem ca_190 : ∀ a, a < 191 → wCode a ∈ tables_1 := lt_s ca_189 cw_190
theorem cw_191 : wCode 191 ∈ tables_1 := List.mem_append_left _ (List.mem_of_getElem? (i := 194) rfl)
theorem ca_191 : ∀ a, a < 192 → wCode a ∈ tables_1 := lt_s ca_190 cw_191
theorem cw_192 : wCode 192 ∈ tables_1 := List.mem_append_left _ (List.mem_of_getElem? (i := 194) rfl)
theorem ca_192 : ∀ a, a < 193 → wCode a ∈ tables_1 := lt_s ca_191 cw_192
theorem cw_193 : wCode 193 ∈ tables_1 := List.mem_append_left _ (List.mem_of_getElem? (i := 194) rfl)
theorem ca_193 : ∀ a, a < 194 → wCode a ∈ tables_1 := lt_s ca_192 cw_193
theorem cw_194 : wCode 194 ∈ tables_1 := List.mem_append_left _ (List.mem_of_getElem? (i := 194) rfl)
theorem ca_194 : ∀ a, a < 195 → wCode a ∈ tables_1 := lt_s ca_193 cw_194
theorem cw_195 : wCode 195 ∈ tables_1 := List.mem_append_left _ (List.mem_of_getElem? (i := 194) rfl)
theorem ca_195 : ∀ a, a < 196 → wCode a ∈ tables_1 := lt_s ca_194 cw_195
theorem cw_196 : wCode 196 ∈ tables_1 := List.mem_append_left _ (List.mem_of_getElem? (i := 194) rfl)
theorem ca_196 : ∀ a, a < 197 → wCode a ∈ tables_1 := lt_s ca_195 cw_196
theorem cw_197 : wCode 197 ∈ tables_1 := List.mem_append_left _ (List.mem_of_getElem? (i := 194) rfl)
theorem ca_197 : ∀ a, a < 198 → wCode a ∈ tables_1 := lt_s ca_196 cw_197
theorem cw_198 : wCode 198 ∈ tables_1 := List.mem_append_left _ (List.mem_of_getElem? (i := 194) rfl)
theorem ca_198 : ∀ a, a < 199 → wCode a ∈ tables_1 := lt_s ca_197 cw_198
theorem cw_199 : wCode 199 ∈ tables_1 := List.mem_append_right _ ((List.mem_of_getElem? (i := 60) rfl))
theorem ca_199 : ∀ a, a < 200 → wCode a ∈ tables_1 := lt_s ca_198 cw_199
theorem cw_200 : wCode 200 ∈ tables_1 := List.mem_append_right _ ((List.mem_of_getElem? (i := 56) rfl))
theorem ca_200 : ∀ a, a < 201 → wCode a ∈ tables_1 := lt_s ca_199 cw_200
theorem cw_201 : wCode 201 ∈ tables_1 := List.mem_append_right _ ((List.mem_of_getElem? (i := 72) rfl))
theorem ca_201 : ∀ a, a < 202 → wCode a ∈ tables_1 := lt_s ca_200 cw_201
theorem cw_202 : wCode 202 ∈ tables_1 := List.mem_append_right _ ((List.mem_of_getElem? (i := 75) rfl))
theorem ca_202 : ∀ a, a < 203 → wCode a ∈ tables_1 := lt_s ca_201 cw_202
theorem cw_203 : wCode 203 ∈ tables_1 := List.mem_append_right _ ((List.mem_of_getElem? (i := 83) rfl))
theorem ca_203 : ∀ a, a < 204 → wCode a ∈ tables_1 := lt_s ca_202 cw_203
theorem wCode_in {k : Nat} (hk : k < 204) : wCode k ∈ tblG := List.mem_filter.mpr ⟨List.mem_append_right _ (ca_203 k hk), rfl⟩
theorem lay_3 : (List.range 1).all (fun k => tAt (([147] : List Nat).getD k 0) (u_lay RX3 TX3 k)) = true := by decide +kernel
theorem inX_3 : ∀ w ∈ u_ws RX3 TX3 1, w ∈ tblG := by
  intro w hw
  obtain ⟨k, hk, rfl⟩ := List.mem_map.mp hw
  exact tAt_in (List.all_eq_true.mp lay_3 k hk)
theorem lay_5 : (List.range 8).all (fun k => tAt (([57, 59, 61, 63, 65, 67, 69, 71] : List Nat).getD k 0) (u_lay RX5 TX5 k)) = true := by decide +kernel
theorem inX_5 : ∀ w ∈ u_ws RX5 TX5 8, w ∈ tblG := by
  intro w hw
  obtain ⟨k, hk, rfl⟩ := List.mem_map.mp hw
  exact tAt_in (List.all_eq_true.mp lay_5 k hk)
theorem lay_6 : (List.range 3).all (fun k => tAt (([35, 37, 39] : List Nat).getD k 0) (u_lay RX6 TX6 k)) = true := by decide +kernel
theorem inX_6 : ∀ w ∈ u_ws RX6 TX6 3, w ∈ tblG := by
  intro w hw
  obtain ⟨k, hk, rfl⟩ := List.mem_map.mp hw
  exact tAt_in (List.all_eq_true.mp lay_6 k hk)
theorem lay_8 : (List.range 5).all (fun k => tAt (([116, 118, 120, 122, 124] : List Nat).getD k 0) (u_lay RX8 TX8 k)) = true := by decide +kernel
theorem inX_8 : ∀ w ∈ u_ws RX8 TX8 5, w ∈ tblG := by
  intro w hw
  obtain ⟨k, hk, rfl⟩ := List.mem_map.mp hw
  exact tAt_in (List.all_eq_true.mp lay_8 k hk)
theorem lay_9 : (List.range 2).all (fun k => tAt (([136, 138] : List Nat).getD k 0) (u_lay RX9 TX9 k)) = true := by decide +kernel
theorem inX_9 : ∀ w ∈ u_ws RX9 TX9 2, w ∈ tblG := by
  intro w hw
  obtain ⟨k, hk, rfl⟩ := List.mem_map.mp hw
  exact tAt_in (List.all_eq_true.mp lay_9 k hk)
theorem lay_10 : (List.range 6).all (fun k => tAt (([86, 88, 90, 92, 94, 96] : List Nat).getD k 0) (u_lay RX10 TX10 k)) = true := by decide +kernel
theorem inX_10 : ∀ w ∈ u_ws RX10 TX10 6, w ∈ tblG := by
  intro w hw
  obtain ⟨k, hk, rfl⟩ := List.mem_map.mp hw
  exact tAt_in (List.all_eq_true.mp lay_10 k hk)
theorem lay_11 : (List.range 13).all (fun k => tAt (([165, 167, 169, 171, 173, 175, 177, 179, 181, 183, 185, 187, 189] : List Nat).getD k 0) (u_lay RX11 TX11 k)) = true := by decide +kernel
theorem inX_11 : ∀ w ∈ u_ws RX11 TX11 13, w ∈ tblG := by
  intro w hw
  obtain ⟨k, hk, rfl⟩ := List.mem_map.mp hw
  exact tAt_in (List.all_eq_true.mp lay_11 k hk)
abbrev FLE : Type := Nat × Nat × Nat × Nat × Nat
/-- (position, own class, pool index, declaring class, slot) -/
def flT : List FLE := [(49, 5, 9, 5, 0), (50, 5, 15, 5, 1), (51, 5, 18, 5, 2), (52, 5, 21, 5, 3), (53, 5, 24, 5, 4), (55, 5, 27, 5, 6), (56, 5, 31, 5, 7), (54, 5, 34, 5, 5), (32, 6, 9, 6, 0), (33, 6, 15, 6, 1), (34, 6, 37, 6, 2), (112, 8, 11, 8, 1), (113, 8, 15, 8, 2), (114, 8, 19, 8, 3), (115, 8, 22, 8, 4), (111, 8, 26, 8, 0), (134, 9, 9, 9, 0), (135, 9, 15, 9, 1), (81, 10, 9, 10, 1), (80, 10, 15, 10, 0), (83, 10, 19, 10, 3), (84, 10, 23, 10, 4), (85, 10, 26, 10, 5), (82, 10, 29, 10, 2), (152, 11, 10, 11, 0), (153, 11, 19, 11, 1), (154, 11, 28, 11, 2), (155, 11, 32, 11, 3), (156, 11, 35, 11, 4), (157, 11, 41, 11, 5), (158, 11, 50, 11, 6), (159, 11, 57, 11, 7), (160, 11, 63, 11, 8), (164, 11, 92, 11, 12), (162, 11, 96, 11, 10), (163, 11, 181, 11, 11), (161, 11, 209, 11, 9)]
def flChk (e : FLE) : Bool := tAt e.1 (.fieldLink (rcl e.2.1) e.2.2.1 (TT e.2.2.2.1 e.2.2.2.2).1 (TT e.2.2.2.1 e.2.2.2.2).2.1 (TT e.2.2.2.1 e.2.2.2.2).2.2.1) && decide (e.2.2.2.2 < nF e.2.2.2.1) && decide (e.2.2.2.1 < 13)
theorem flT_ok : flT.all flChk = true := by decide +kernel
/-- virtual, plain: (methodLink, instanceMethod, selects, own, index, receiver class, method) -/
def vT : List (Nat × Nat × Nat × Nat × Nat × Nat × Nat) := [(448, 450, 7, 5, 45, 5, 24), (452, 454, 8, 5, 49, 5, 25), (237, 238, 239, 5, 52, 5, 34), (241, 242, 243, 5, 56, 5, 27), (433, 405, 406, 6, 33, 6, 45), (408, 409, 410, 6, 40, 6, 41), (438, 439, 440, 6, 59, 5, 21), (443, 201, 202, 6, 65, 5, 26), (444, 445, 446, 6, 68, 5, 22), (456, 457, 458, 6, 72, 10, 72), (306, 242, 243, 8, 42, 5, 27), (302, 304, 3, 8, 48, 8, 200), (313, 315, 4, 8, 58, 8, 57), (341, 234, 235, 8, 62, 5, 37), (325, 327, 6, 8, 65, 8, 62), (317, 238, 239, 8, 68, 5, 34), (318, 320, 5, 8, 72, 8, 201), (329, 201, 202, 8, 81, 5, 26), (358, 282, 283, 10, 40, 10, 75), (233, 234, 235, 10, 43, 5, 37), (371, 242, 243, 10, 49, 5, 27), (391, 392, 393, 11, 67, 6, 42), (373, 374, 375, 11, 71, 6, 39), (460, 461, 462, 11, 75, 6, 40), (404, 405, 406, 11, 78, 6, 45), (429, 430, 431, 11, 81, 6, 44), (434, 435, 436, 11, 85, 6, 50), (464, 465, 466, 11, 89, 8, 55), (200, 201, 202, 11, 100, 5, 26), (196, 198, 0, 11, 101, 11, 116), (204, 205, 206, 11, 105, 5, 30), (209, 210, 211, 11, 109, 5, 31), (213, 214, 215, 11, 112, 10, 78), (217, 218, 219, 11, 115, 5, 32), (225, 227, 1, 11, 118, 11, 115), (229, 230, 231, 11, 121, 10, 77), (252, 253, 254, 11, 127, 10, 80), (256, 257, 258, 11, 130, 10, 82), (260, 261, 262, 11, 133, 10, 83), (268, 270, 2, 11, 137, 11, 119), (272, 273, 274, 11, 140, 10, 74), (281, 282, 283, 11, 143, 10, 75), (290, 291, 292, 11, 146, 10, 84), (294, 295, 296, 11, 149, 10, 85), (298, 299, 300, 11, 152, 8, 58), (337, 338, 339, 11, 156, 8, 59), (350, 351, 352, 11, 159, 10, 73), (354, 355, 356, 11, 163, 10, 76), (359, 360, 361, 11, 166, 10, 81), (367, 368, 369, 11, 197, 10, 86), (387, 388, 389, 13, 8, 11, 89), (400, 401, 402, 13, 24, 11, 91), (363, 364, 365, 13, 28, 11, 113), (425, 426, 427, 13, 32, 11, 92), (245, 246, 247, 13, 51, 11, 95), (221, 222, 223, 13, 54, 11, 94), (346, 347, 348, 13, 56, 11, 101), (192, 193, 194, 13, 59, 11, 93), (286, 287, 288, 13, 66, 11, 98), (333, 334, 335, 13, 69, 11, 99), (342, 343, 344, 13, 72, 11, 100), (277, 278, 279, 13, 75, 11, 97), (264, 265, 266, 13, 78, 11, 96)]
def vChk (e : Nat × Nat × Nat × Nat × Nat × Nat × Nat) : Bool := tAt e.1 (.methodLink (rcl e.2.2.2.1) e.2.2.2.2.1 (mName e.2.2.2.2.2.2)) && tAt e.2.1 (.instanceMethod (mName e.2.2.2.2.2.2)) && tAt e.2.2.1 (.selects (rcl e.2.2.2.2.2.1) (mName e.2.2.2.2.2.2) (mName e.2.2.2.2.2.2)) && decide (e.2.2.2.2.2.2 < 204) && decide (e.2.2.2.2.2.1 < 13)
theorem vT_ok : vT.all vChk = true := by decide +kernel
/-- virtual, another method than the named one: (methodLink, sameMethod, instanceMethod of the owner, selects, instanceMethod, own, index, receiver class, method, the method named) -/
def uT : List (List Nat) := []
def uChk (e : List Nat) : Bool := tAt (e.getD 0 0) (.methodLink (rcl (e.getD 5 0)) (e.getD 6 0) (mName (e.getD 9 0))) && tAt (e.getD 1 0) (.sameMethod (mName (e.getD 9 0)).cls (mName (e.getD 9 0)).cls (mName (e.getD 9 0)).name (mName (e.getD 9 0)).desc) && tAt (e.getD 2 0) (.instanceMethod (mName (e.getD 9 0))) && tAt (e.getD 3 0) (.selects (rcl (e.getD 7 0)) (mName (e.getD 9 0)) (mName (e.getD 8 0))) && tAt (e.getD 4 0) (.instanceMethod (mName (e.getD 8 0))) && decide (e.getD 8 0 < 204) && decide (e.getD 9 0 < 204) && decide (e.getD 7 0 < 13) && decide (mArg (e.getD 8 0) = mArg (e.getD 9 0))
theorem uT_ok : uT.all uChk = true := by decide +kernel
/-- static: (methodLink, static, own, index, method) -/
def sT : List FLE := [(395, 396, 6, 23, 43), (413, 414, 6, 44, 46), (416, 417, 6, 48, 48), (419, 420, 6, 52, 47), (422, 423, 6, 56, 49), (468, 469, 8, 38, 56), (307, 308, 8, 52, 199), (249, 250, 11, 124, 117), (372, 308, 11, 176, 199), (377, 378, 13, 14, 128), (384, 385, 13, 20, 129), (474, 475, 13, 35, 131), (471, 472, 13, 39, 132), (480, 481, 13, 43, 133), (381, 382, 13, 48, 130), (477, 478, 13, 63, 134)]
def sChk (e : FLE) : Bool := tAt e.1 (.methodLink (rcl e.2.2.1) e.2.2.2.1 (mName e.2.2.2.2)) && tAt e.2.1 (.static (mName e.2.2.2.2)) && decide (e.2.2.2.2 < 204)
theorem sT_ok : sT.all sChk = true := by decide +kernel
/-- static of a nest mate: (the nest word in lw_tbl, static, own, index, method) -/
def snT : List FLE := [(442, 109, 5, 37, 127), (208, 106, 5, 41, 126), (412, 106, 6, 19, 126), (399, 109, 6, 27, 127), (105, 106, 8, 30, 126), (108, 109, 8, 34, 127), (322, 323, 8, 75, 202), (330, 331, 8, 78, 203), (285, 106, 10, 32, 126), (276, 109, 10, 36, 127)]
def snChk (e : FLE) : Bool := decide (tblX[e.1]? = some (.methodLinkNest (rcl e.2.2.1) e.2.2.2.1 (mName e.2.2.2.2) "CutsOrFast")) && tAt e.2.1 (.static (mName e.2.2.2.2)) && decide (e.2.2.2.2 < 204)
theorem snT_ok : snT.all snChk = true := by decide +kernel
/-- constructors: (methodLink, instanceMethod, own, index, method) -/
def cT : List FLE := [(76, 77, 11, 25, 71), (101, 102, 11, 40, 54), (130, 131, 11, 47, 65), (20, 21, 13, 47, 88)]
def cChk (e : FLE) : Bool := tAt e.1 (.methodLink (rcl e.2.2.1) e.2.2.2.1 (mName e.2.2.2.2)) && tAt e.2.1 (.instanceMethod (mName e.2.2.2.2)) && decide (e.2.2.2.2 < 204) && decide ((mName e.2.2.2.2).name = "<init>") && decide (mRet e.2.2.2.2 = none)
theorem cT_ok : cT.all cChk = true := by decide +kernel
def cnT : List FLE := [(28, 29, 11, 9, 38), (45, 46, 11, 18, 20), (143, 144, 11, 56, 9)]
def cnChk (e : FLE) : Bool := decide (tblX[e.1]? = some (.methodLinkNest (rcl e.2.2.1) e.2.2.2.1 (mName e.2.2.2.2) "CutsOrFast")) && tAt e.2.1 (.instanceMethod (mName e.2.2.2.2)) && decide (e.2.2.2.2 < 204) && decide ((mName e.2.2.2.2).name = "<init>") && decide (mRet e.2.2.2.2 = none)
theorem cnT_ok : cnT.all cnChk = true := by decide +kernel
/-- Object.<init>: (methodLink, own, index) -/
def oT : List (Nat × Nat × Nat) := [(146, 3, 1), (48, 5, 3), (31, 6, 3), (104, 8, 5), (133, 9, 3), (79, 10, 3), (23, 11, 1)]
def oChk (e : Nat × Nat × Nat) : Bool := tAt e.1 (.methodLink (rcl e.2.1) e.2.2 objectInit)
theorem oT_ok : oT.all oChk = true := by decide +kernel
theorem oInst_ok : tAt 24 (.instanceMethod objectInit) = true := by decide +kernel
theorem oCode_ok : tAt 25 (.code objectInit ⟨#[0xb1]⟩ 1 none) = true := by decide +kernel
/-- new: (classLink, instantiable, own, index, class) -/
def nT : List FLE := [(26, 27, 11, 7, 6), (43, 44, 11, 16, 5), (74, 75, 11, 23, 10), (99, 100, 11, 38, 8), (128, 129, 11, 45, 9), (141, 142, 11, 54, 3), (18, 19, 13, 9, 11)]
def nChk (e : FLE) : Bool := tAt e.1 (.classLink (rcl e.2.2.1) e.2.2.2.1 (rcl e.2.2.2.2)) && tAt e.2.1 (.instantiable (rcl e.2.2.2.2) (nF e.2.2.2.2)) && tAt (iPos.getD e.2.2.2.2 0) (.initialized (rcl e.2.2.2.2)) && decide (e.2.2.2.2 < 13)
theorem nT_ok : nT.all nChk = true := by decide +kernel
/-- Math.max, Math.min of ints: (position, own, index) -/
def mxT : List (Nat × Nat × Nat) := []
def mnT : List (Nat × Nat × Nat) := []
theorem anw_ok : tAt 150 (.classLink (rcl 11) 61 "CutsOrFast$Player") = true := by decide +kernel
/-- instanceof: (classLink, own, index, the class asked for) -/
def inT : List (Nat × Nat × Nat × Nat) := []
def inChk (e : Nat × Nat × Nat × Nat) : Bool := tAt e.1 (.classLink (rcl e.2.1) e.2.2.1 (rcl e.2.2.2)) && decide (e.2.2.2 < 13)
theorem inT_ok : inT.all inChk = true := by decide +kernel
/-- constants: (position, own, index, value) -/
def ldT : List (Nat × Nat × Nat × Int32) := [(380, 13, 7, 2147483647), (310, 14, 265, 1431655765), (311, 14, 266, 858993459), (312, 14, 267, 252645135)]
def ldChk (e : Nat × Nat × Nat × Int32) : Bool := tAt e.1 (.constant (rcl e.2.1) e.2.2.1 e.2.2.2)
theorem ldT_ok : ldT.all ldChk = true := by decide +kernel
def ldT2 : List (Nat × Nat × Nat × Int64) := [(398, 6, 31, 255)]
def ldChk2 (e : Nat × Nat × Nat × Int64) : Bool := tAt e.1 (.constantLong (rcl e.2.1) e.2.2.1 e.2.2.2)
theorem ldT2_ok : ldT2.all ldChk2 = true := by decide +kernel
theorem arr_int : tAt 42 (.arrayClass .int) = true := by decide +kernel
theorem arr_long : tAt 127 (.arrayClass .long) = true := by decide +kernel
theorem arrO_ok : lw_tbl[151]? = some (.arrayOver (.object "CutsOrFast$Player")) := by decide +kernel
def castY : List (Nat × Nat) := []
