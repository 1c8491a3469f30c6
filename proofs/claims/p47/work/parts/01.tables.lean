-- ===== PART A: goes FIRST, ahead of the names: the tables' words, and 'selects' of the private methods out of them =====
/-- a private method of a class that the tables say can be made, by its rows of tables_1 -/
def lw_okq (q : MethodName × Nat) : Prop := (q.1.cls ≠ "java/lang/invoke/MethodHandle" ∧ q.1.cls ≠ "java/lang/invoke/VarHandle") ∧ Cond.instantiable q.1.cls q.2 ∈ tables_1 ∧ Cond.privateMethod q.1 ∈ tables_1 ∧ Cond.instanceMethod q.1 ∈ tables_1
theorem lw_p0 : lw_okq (⟨"TransitSeals$Net", "measureWays", "()V"⟩, 9) := ⟨⟨by decide +kernel, by decide +kernel⟩, List.mem_of_getElem? (i := 289) (by decide +kernel), List.mem_of_getElem? (i := 297) (by decide +kernel), List.mem_of_getElem? (i := 298) (by decide +kernel)⟩
theorem lw_p1 : lw_okq (⟨"TransitSeals$Net", "writeDown", "()V"⟩, 9) := ⟨⟨by decide +kernel, by decide +kernel⟩, List.mem_of_getElem? (i := 289) (by decide +kernel), List.mem_of_getElem? (i := 326) (by decide +kernel), List.mem_of_getElem? (i := 327) (by decide +kernel)⟩
theorem lw_p2 : lw_okq (⟨"TransitSeals$Net", "writeRoad", "(IIZ)V"⟩, 9) := ⟨⟨by decide +kernel, by decide +kernel⟩, List.mem_of_getElem? (i := 289) (by decide +kernel), List.mem_of_getElem? (i := 348) (by decide +kernel), List.mem_of_getElem? (i := 349) (by decide +kernel)⟩
theorem lw_p3 : lw_okq (⟨"TransitSeals$Net", "clear", "()V"⟩, 9) := ⟨⟨by decide +kernel, by decide +kernel⟩, List.mem_of_getElem? (i := 289) (by decide +kernel), List.mem_of_getElem? (i := 428) (by decide +kernel), List.mem_of_getElem? (i := 429) (by decide +kernel)⟩
theorem lw_p4 : lw_okq (⟨"TransitSeals$Net", "readCountries", "(LTransitSeals$Reader;)V"⟩, 9) := ⟨⟨by decide +kernel, by decide +kernel⟩, List.mem_of_getElem? (i := 289) (by decide +kernel), List.mem_of_getElem? (i := 435) (by decide +kernel), List.mem_of_getElem? (i := 436) (by decide +kernel)⟩
theorem lw_p5 : lw_okq (⟨"TransitSeals$Net", "readRoads", "(LTransitSeals$Reader;)V"⟩, 9) := ⟨⟨by decide +kernel, by decide +kernel⟩, List.mem_of_getElem? (i := 289) (by decide +kernel), List.mem_of_getElem? (i := 476) (by decide +kernel), List.mem_of_getElem? (i := 477) (by decide +kernel)⟩
theorem lw_p6 : lw_okq (⟨"TransitSeals$Net", "readRoad", "(LTransitSeals$Reader;)V"⟩, 9) := ⟨⟨by decide +kernel, by decide +kernel⟩, List.mem_of_getElem? (i := 289) (by decide +kernel), List.mem_of_getElem? (i := 493) (by decide +kernel), List.mem_of_getElem? (i := 494) (by decide +kernel)⟩
theorem lw_p7 : lw_okq (⟨"TransitSeals$Net", "join", "(III)V"⟩, 9) := ⟨⟨by decide +kernel, by decide +kernel⟩, List.mem_of_getElem? (i := 289) (by decide +kernel), List.mem_of_getElem? (i := 498) (by decide +kernel), List.mem_of_getElem? (i := 499) (by decide +kernel)⟩
theorem lw_p8 : lw_okq (⟨"TransitSeals$Net", "readDuties", "(LTransitSeals$Reader;)V"⟩, 9) := ⟨⟨by decide +kernel, by decide +kernel⟩, List.mem_of_getElem? (i := 289) (by decide +kernel), List.mem_of_getElem? (i := 507) (by decide +kernel), List.mem_of_getElem? (i := 508) (by decide +kernel)⟩
theorem lw_p9 : lw_okq (⟨"TransitSeals$History", "latestBefore", "()LTransitSeals$Ledger;"⟩, 5) := ⟨⟨by decide +kernel, by decide +kernel⟩, List.mem_of_getElem? (i := 263) (by decide +kernel), List.mem_of_getElem? (i := 554) (by decide +kernel), List.mem_of_getElem? (i := 555) (by decide +kernel)⟩
theorem lw_p10 : lw_okq (⟨"TransitSeals", "tell", "(II)V"⟩, 9) := ⟨⟨by decide +kernel, by decide +kernel⟩, List.mem_of_getElem? (i := 30) (by decide +kernel), List.mem_of_getElem? (i := 601) (by decide +kernel), List.mem_of_getElem? (i := 602) (by decide +kernel)⟩
theorem lw_p11 : lw_okq (⟨"TransitSeals", "tell", "(I)V"⟩, 9) := ⟨⟨by decide +kernel, by decide +kernel⟩, List.mem_of_getElem? (i := 30) (by decide +kernel), List.mem_of_getElem? (i := 605) (by decide +kernel), List.mem_of_getElem? (i := 606) (by decide +kernel)⟩
theorem lw_p12 : lw_okq (⟨"TransitSeals$Ledger", "movementAt", "(I)LTransitSeals$Movement;"⟩, 7) := ⟨⟨by decide +kernel, by decide +kernel⟩, List.mem_of_getElem? (i := 142) (by decide +kernel), List.mem_of_getElem? (i := 665) (by decide +kernel), List.mem_of_getElem? (i := 666) (by decide +kernel)⟩
theorem lw_p13 : lw_okq (⟨"TransitSeals$Ledger", "firstToChange", "(I)LTransitSeals$Movement;"⟩, 7) := ⟨⟨by decide +kernel, by decide +kernel⟩, List.mem_of_getElem? (i := 142) (by decide +kernel), List.mem_of_getElem? (i := 762) (by decide +kernel), List.mem_of_getElem? (i := 763) (by decide +kernel)⟩
theorem lw_p14 : lw_okq (⟨"TransitSeals$Ledger", "change", "(LTransitSeals$Movement;)V"⟩, 7) := ⟨⟨by decide +kernel, by decide +kernel⟩, List.mem_of_getElem? (i := 142) (by decide +kernel), List.mem_of_getElem? (i := 771) (by decide +kernel), List.mem_of_getElem? (i := 772) (by decide +kernel)⟩
theorem lw_p15 : lw_okq (⟨"TransitSeals", "hoursToGo", "(LTransitSeals$Movement;)I"⟩, 9) := ⟨⟨by decide +kernel, by decide +kernel⟩, List.mem_of_getElem? (i := 30) (by decide +kernel), List.mem_of_getElem? (i := 794) (by decide +kernel), List.mem_of_getElem? (i := 795) (by decide +kernel)⟩
def lw_privs_1 : List (MethodName × Nat) := [(⟨"TransitSeals$Net", "measureWays", "()V"⟩, 9), (⟨"TransitSeals$Net", "writeDown", "()V"⟩, 9), (⟨"TransitSeals$Net", "writeRoad", "(IIZ)V"⟩, 9), (⟨"TransitSeals$Net", "clear", "()V"⟩, 9), (⟨"TransitSeals$Net", "readCountries", "(LTransitSeals$Reader;)V"⟩, 9), (⟨"TransitSeals$Net", "readRoads", "(LTransitSeals$Reader;)V"⟩, 9), (⟨"TransitSeals$Net", "readRoad", "(LTransitSeals$Reader;)V"⟩, 9), (⟨"TransitSeals$Net", "join", "(III)V"⟩, 9), (⟨"TransitSeals$Net", "readDuties", "(LTransitSeals$Reader;)V"⟩, 9), (⟨"TransitSeals$History", "latestBefore", "()LTransitSeals$Ledger;"⟩, 5), (⟨"TransitSeals", "tell", "(II)V"⟩, 9), (⟨"TransitSeals", "tell", "(I)V"⟩, 9), (⟨"TransitSeals$Ledger", "movementAt", "(I)LTransitSeals$Movement;"⟩, 7), (⟨"TransitSeals$Ledger", "firstToChange", "(I)LTransitSeals$Movement;"⟩, 7), (⟨"TransitSeals$Ledger", "change", "(LTransitSeals$Movement;)V"⟩, 7), (⟨"TransitSeals", "hoursToGo", "(LTransitSeals$Movement;)I"⟩, 9)]
theorem lw_r1 : ∀ q ∈ lw_privs_1, lw_okq q := List.forall_mem_cons.mpr ⟨lw_p0, List.forall_mem_cons.mpr ⟨lw_p1, List.forall_mem_cons.mpr ⟨lw_p2, List.forall_mem_cons.mpr ⟨lw_p3, List.forall_mem_cons.mpr ⟨lw_p4, List.forall_mem_cons.mpr ⟨lw_p5, List.forall_mem_cons.mpr ⟨lw_p6, List.forall_mem_cons.mpr ⟨lw_p7, List.forall_mem_cons.mpr ⟨lw_p8, List.forall_mem_cons.mpr ⟨lw_p9, List.forall_mem_cons.mpr ⟨lw_p10, List.forall_mem_cons.mpr ⟨lw_p11, List.forall_mem_cons.mpr ⟨lw_p12, List.forall_mem_cons.mpr ⟨lw_p13, List.forall_mem_cons.mpr ⟨lw_p14, List.forall_mem_cons.mpr ⟨lw_p15, fun _ h => absurd h List.not_mem_nil⟩⟩⟩⟩⟩⟩⟩⟩⟩⟩⟩⟩⟩⟩⟩⟩
theorem lw_p16 : lw_okq (⟨"java/lang/Throwable", "fillInStackTrace", "(I)Ljava/lang/Throwable;"⟩, 6) := ⟨⟨by decide +kernel, by decide +kernel⟩, List.mem_of_getElem? (i := 907) (by decide +kernel), List.mem_of_getElem? (i := 905) (by decide +kernel), List.mem_of_getElem? (i := 906) (by decide +kernel)⟩
theorem lw_p17 : lw_okq (⟨"TransitSeals", "isLate", "(LTransitSeals$Movement;)Z"⟩, 9) := ⟨⟨by decide +kernel, by decide +kernel⟩, List.mem_of_getElem? (i := 30) (by decide +kernel), List.mem_of_getElem? (i := 1008) (by decide +kernel), List.mem_of_getElem? (i := 1009) (by decide +kernel)⟩
theorem lw_p18 : lw_okq (⟨"TransitSeals", "hourOfArrival", "(LTransitSeals$Movement;)I"⟩, 9) := ⟨⟨by decide +kernel, by decide +kernel⟩, List.mem_of_getElem? (i := 30) (by decide +kernel), List.mem_of_getElem? (i := 1012) (by decide +kernel), List.mem_of_getElem? (i := 1013) (by decide +kernel)⟩
theorem lw_p19 : lw_okq (⟨"TransitSeals", "fewestFreeing", "(II)I"⟩, 9) := ⟨⟨by decide +kernel, by decide +kernel⟩, List.mem_of_getElem? (i := 30) (by decide +kernel), List.mem_of_getElem? (i := 1042) (by decide +kernel), List.mem_of_getElem? (i := 1043) (by decide +kernel)⟩
theorem lw_p20 : lw_okq (⟨"TransitSeals", "leastBitsFreeing", "(III)I"⟩, 9) := ⟨⟨by decide +kernel, by decide +kernel⟩, List.mem_of_getElem? (i := 30) (by decide +kernel), List.mem_of_getElem? (i := 1050) (by decide +kernel), List.mem_of_getElem? (i := 1051) (by decide +kernel)⟩
theorem lw_p21 : lw_okq (⟨"TransitSeals", "closingHour", "(LTransitSeals$Movement;)I"⟩, 9) := ⟨⟨by decide +kernel, by decide +kernel⟩, List.mem_of_getElem? (i := 30) (by decide +kernel), List.mem_of_getElem? (i := 1060) (by decide +kernel), List.mem_of_getElem? (i := 1061) (by decide +kernel)⟩
theorem lw_p22 : lw_okq (⟨"TransitSeals", "freedUntil", "(II)I"⟩, 9) := ⟨⟨by decide +kernel, by decide +kernel⟩, List.mem_of_getElem? (i := 30) (by decide +kernel), List.mem_of_getElem? (i := 1067) (by decide +kernel), List.mem_of_getElem? (i := 1068) (by decide +kernel)⟩
def lw_privs_2 : List (MethodName × Nat) := [(⟨"java/lang/Throwable", "fillInStackTrace", "(I)Ljava/lang/Throwable;"⟩, 6), (⟨"TransitSeals", "isLate", "(LTransitSeals$Movement;)Z"⟩, 9), (⟨"TransitSeals", "hourOfArrival", "(LTransitSeals$Movement;)I"⟩, 9), (⟨"TransitSeals", "fewestFreeing", "(II)I"⟩, 9), (⟨"TransitSeals", "leastBitsFreeing", "(III)I"⟩, 9), (⟨"TransitSeals", "closingHour", "(LTransitSeals$Movement;)I"⟩, 9), (⟨"TransitSeals", "freedUntil", "(II)I"⟩, 9)]
theorem lw_r2 : ∀ q ∈ lw_privs_2, lw_okq q := List.forall_mem_cons.mpr ⟨lw_p16, List.forall_mem_cons.mpr ⟨lw_p17, List.forall_mem_cons.mpr ⟨lw_p18, List.forall_mem_cons.mpr ⟨lw_p19, List.forall_mem_cons.mpr ⟨lw_p20, List.forall_mem_cons.mpr ⟨lw_p21, List.forall_mem_cons.mpr ⟨lw_p22, fun _ h => absurd h List.not_mem_nil⟩⟩⟩⟩⟩⟩⟩
def lw_privs : List (MethodName × Nat) := lw_privs_1 ++ (lw_privs_2)
def lw_tbl : List Cond := k2_sels lw_privs ++ tables_1
theorem lw_privs_ok : ∀ q ∈ lw_privs, lw_okq q := by
  show ∀ q ∈ lw_privs_1 ++ (lw_privs_2), lw_okq q
  exact List.forall_mem_append.mpr ⟨lw_r1, lw_r2⟩
def RX0 : String := "TransitSeals$Book"
def TX0 : u_T := fun k => match k with
  | 0 => ("TransitSeals$Book", "kinds", "[I", true)
  | 1 => ("TransitSeals$Book", "movements", "[I", true)
  | 2 => ("TransitSeals$Book", "hours", "[I", true)
  | _ => ("TransitSeals$Book", "total", "I", false)
def tyX0 : Nat → FieldType := fun k => match k with
  | 0 => .array .int
  | 1 => .array .int
  | 2 => .array .int
  | _ => .int
abbrev wsX00 : List Cond := u_ws RX0 TX0 4
theorem nmX0 : ∀ a, a < 4 → ∀ b, b < 4 → a ≠ b → (TX0 a).2.1 ≠ (TX0 b).2.1 := by decide +kernel
theorem tyX0_ok : ∀ k, k < 4 → parseFieldDescriptor (TX0 k).2.2.1 = some (tyX0 k) := by decide +kernel
abbrev cX0_init : ByteArray := prog_2_method_1_code
def yX0_init : MethodName := ⟨RX0, "<init>", "()V"⟩
abbrev cX0_size : ByteArray := prog_2_method_2_code
def yX0_size : MethodName := ⟨RX0, "size", "()I"⟩
abbrev cX0_clear : ByteArray := prog_2_method_3_code
def yX0_clear : MethodName := ⟨RX0, "clear", "()V"⟩
abbrev cX0_add : ByteArray := prog_2_method_4_code
def yX0_add : MethodName := ⟨RX0, "add", "(III)V"⟩
abbrev cX0_read : ByteArray := prog_2_method_5_code
def yX0_read : MethodName := ⟨RX0, "read", "(II)I"⟩
abbrev cX0_copyFrom : ByteArray := prog_2_method_6_code
def yX0_copyFrom : MethodName := ⟨RX0, "copyFrom", "(LTransitSeals$Book;)V"⟩
def RX1 : String := "TransitSeals$History"
def TX1 : u_T := fun k => match k with
  | 0 => ("TransitSeals$History", "before", "[LTransitSeals$Ledger;", true)
  | 1 => ("TransitSeals$History", "kept", "LTransitSeals$Ledger;", true)
  | 2 => ("TransitSeals$History", "keeping", "Z", false)
  | 3 => ("TransitSeals$History", "latest", "I", false)
  | _ => ("TransitSeals$History", "depth", "I", false)
def tyX1 : Nat → FieldType := fun k => match k with
  | 0 => .array (.object "TransitSeals$Ledger")
  | 1 => .object "TransitSeals$Ledger"
  | 2 => .boolean
  | 3 => .int
  | _ => .int
abbrev wsX10 : List Cond := u_ws RX1 TX1 5
theorem nmX1 : ∀ a, a < 5 → ∀ b, b < 5 → a ≠ b → (TX1 a).2.1 ≠ (TX1 b).2.1 := by decide +kernel
theorem tyX1_ok : ∀ k, k < 5 → parseFieldDescriptor (TX1 k).2.2.1 = some (tyX1 k) := by decide +kernel
abbrev cX1_init : ByteArray := prog_3_method_1_code
def yX1_init : MethodName := ⟨RX1, "<init>", "()V"⟩
abbrev cX1_clear : ByteArray := prog_3_method_2_code
def yX1_clear : MethodName := ⟨RX1, "clear", "()V"⟩
abbrev cX1_remember : ByteArray := prog_3_method_3_code
def yX1_remember : MethodName := ⟨RX1, "remember", "(LTransitSeals$Ledger;)V"⟩
abbrev cX1_takeBack : ByteArray := prog_3_method_4_code
def yX1_takeBack : MethodName := ⟨RX1, "takeBack", "(LTransitSeals$Ledger;)Z"⟩
abbrev cX1_latestBefore : ByteArray := prog_3_method_5_code
def yX1_latestBefore : MethodName := ⟨RX1, "latestBefore", "()LTransitSeals$Ledger;"⟩
abbrev cX1_keep : ByteArray := prog_3_method_6_code
def yX1_keep : MethodName := ⟨RX1, "keep", "(LTransitSeals$Ledger;)V"⟩
abbrev cX1_bringBack : ByteArray := prog_3_method_7_code
def yX1_bringBack : MethodName := ⟨RX1, "bringBack", "(LTransitSeals$Ledger;)Z"⟩
def RX2 : String := "TransitSeals$Ledger"
def TX2 : u_T := fun k => match k with
  | 0 => ("TransitSeals$Ledger", "sums", "[I", true)
  | 1 => ("TransitSeals$Ledger", "levels", "[I", true)
  | 2 => ("TransitSeals$Ledger", "movements", "[LTransitSeals$Movement;", true)
  | 3 => ("TransitSeals$Ledger", "book", "LTransitSeals$Book;", true)
  | 4 => ("TransitSeals$Ledger", "hour", "I", false)
  | 5 => ("TransitSeals$Ledger", "traders", "I", false)
  | _ => ("TransitSeals$Ledger", "started", "I", false)
def tyX2 : Nat → FieldType := fun k => match k with
  | 0 => .array .int
  | 1 => .array .int
  | 2 => .array (.object "TransitSeals$Movement")
  | 3 => .object "TransitSeals$Book"
  | 4 => .int
  | 5 => .int
  | _ => .int
abbrev wsX20 : List Cond := u_ws RX2 TX2 7
theorem nmX2 : ∀ a, a < 7 → ∀ b, b < 7 → a ≠ b → (TX2 a).2.1 ≠ (TX2 b).2.1 := by decide +kernel
theorem tyX2_ok : ∀ k, k < 7 → parseFieldDescriptor (TX2 k).2.2.1 = some (tyX2 k) := by decide +kernel
abbrev cX2_init : ByteArray := prog_4_method_1_code
def yX2_init : MethodName := ⟨RX2, "<init>", "()V"⟩
abbrev cX2_clear : ByteArray := prog_4_method_2_code
def yX2_clear : MethodName := ⟨RX2, "clear", "()V"⟩
abbrev cX2_copyFrom : ByteArray := prog_4_method_3_code
def yX2_copyFrom : MethodName := ⟨RX2, "copyFrom", "(LTransitSeals$Ledger;)V"⟩
abbrev cX2_hasTrader : ByteArray := prog_4_method_4_code
def yX2_hasTrader : MethodName := ⟨RX2, "hasTrader", "(I)Z"⟩
abbrev cX2_addTrader : ByteArray := prog_4_method_5_code
def yX2_addTrader : MethodName := ⟨RX2, "addTrader", "(II)I"⟩
abbrev cX2_setTrader : ByteArray := prog_4_method_6_code
def yX2_setTrader : MethodName := ⟨RX2, "setTrader", "(III)V"⟩
abbrev cX2_sumOf : ByteArray := prog_4_method_7_code
def yX2_sumOf : MethodName := ⟨RX2, "sumOf", "(I)I"⟩
abbrev cX2_levelOf : ByteArray := prog_4_method_8_code
def yX2_levelOf : MethodName := ⟨RX2, "levelOf", "(I)I"⟩
abbrev cX2_freeOf : ByteArray := prog_4_method_9_code
def yX2_freeOf : MethodName := ⟨RX2, "freeOf", "(I)I"⟩
abbrev cX2_sharesOf : ByteArray := prog_4_method_10_code
def yX2_sharesOf : MethodName := ⟨RX2, "sharesOf", "(I)I"⟩
abbrev cX2_openOf : ByteArray := prog_4_method_11_code
def yX2_openOf : MethodName := ⟨RX2, "openOf", "(I)I"⟩
abbrev cX2_debtsOf : ByteArray := prog_4_method_12_code
def yX2_debtsOf : MethodName := ⟨RX2, "debtsOf", "(II)I"⟩
abbrev cX2_brokenSeals : ByteArray := prog_4_method_13_code
def yX2_brokenSeals : MethodName := ⟨RX2, "brokenSeals", "()I"⟩
abbrev cX2_greatestShares : ByteArray := prog_4_method_16_code
def yX2_greatestShares : MethodName := ⟨RX2, "greatestShares", "(II)I"⟩
abbrev cX2_find : ByteArray := prog_4_method_17_code
def yX2_find : MethodName := ⟨RX2, "find", "(I)LTransitSeals$Movement;"⟩
abbrev cX2_movementAt : ByteArray := prog_4_method_18_code
def yX2_movementAt : MethodName := ⟨RX2, "movementAt", "(I)LTransitSeals$Movement;"⟩
abbrev cX2_write : ByteArray := prog_4_method_19_code
def yX2_write : MethodName := ⟨RX2, "write", "(ILTransitSeals$Movement;)V"⟩
abbrev cX2_nextToStart : ByteArray := prog_4_method_20_code
def yX2_nextToStart : MethodName := ⟨RX2, "nextToStart", "()LTransitSeals$Movement;"⟩
abbrev cX2_letPass : ByteArray := prog_4_method_21_code
def yX2_letPass : MethodName := ⟨RX2, "letPass", "(I)I"⟩
abbrev cX2_firstToChange : ByteArray := prog_4_method_22_code
def yX2_firstToChange : MethodName := ⟨RX2, "firstToChange", "(I)LTransitSeals$Movement;"⟩
abbrev cX2_change : ByteArray := prog_4_method_23_code
def yX2_change : MethodName := ⟨RX2, "change", "(LTransitSeals$Movement;)V"⟩
def RX3 : String := "TransitSeals$Loads"
def TX3 : u_T := fun k => match k with
  | 0 => ("TransitSeals$Loads", "goods", "[I", true)
  | 1 => ("TransitSeals$Loads", "units", "[I", true)
  | 2 => ("TransitSeals$Loads", "shares", "[I", true)
  | 3 => ("TransitSeals$Loads", "size", "I", false)
  | 4 => ("TransitSeals$Loads", "chosen", "I", false)
  | 5 => ("TransitSeals$Loads", "chosenUnits", "I", false)
  | _ => ("TransitSeals$Loads", "chosenShares", "I", false)
def tyX3 : Nat → FieldType := fun k => match k with
  | 0 => .array .int
  | 1 => .array .int
  | 2 => .array .int
  | 3 => .int
  | 4 => .int
  | 5 => .int
  | _ => .int
abbrev wsX30 : List Cond := u_ws RX3 TX3 7
theorem nmX3 : ∀ a, a < 7 → ∀ b, b < 7 → a ≠ b → (TX3 a).2.1 ≠ (TX3 b).2.1 := by decide +kernel
theorem tyX3_ok : ∀ k, k < 7 → parseFieldDescriptor (TX3 k).2.2.1 = some (tyX3 k) := by decide +kernel
abbrev cX3_init : ByteArray := prog_5_method_1_code
def yX3_init : MethodName := ⟨RX3, "<init>", "()V"⟩
def RX4 : String := "TransitSeals$Movement"
def TX4 : u_T := fun k => match k with
  | 0 => ("TransitSeals$Movement", "number", "I", true)
  | 1 => ("TransitSeals$Movement", "trader", "I", false)
  | 2 => ("TransitSeals$Movement", "goods", "I", false)
  | 3 => ("TransitSeals$Movement", "units", "I", false)
  | 4 => ("TransitSeals$Movement", "duty", "I", false)
  | 5 => ("TransitSeals$Movement", "share", "I", false)
  | 6 => ("TransitSeals$Movement", "term", "I", false)
  | 7 => ("TransitSeals$Movement", "state", "I", false)
  | 8 => ("TransitSeals$Movement", "stops", "I", false)
  | 9 => ("TransitSeals$Movement", "stamps", "I", false)
  | 10 => ("TransitSeals$Movement", "debt", "I", false)
  | 11 => ("TransitSeals$Movement", "broken", "Z", false)
  | 12 => ("TransitSeals$Movement", "offices", "[I", true)
  | _ => ("TransitSeals$Movement", "stampHours", "[I", true)
def tyX4 : Nat → FieldType := fun k => match k with
  | 0 => .int
  | 1 => .int
  | 2 => .int
  | 3 => .int
  | 4 => .int
  | 5 => .int
  | 6 => .int
  | 7 => .int
  | 8 => .int
  | 9 => .int
  | 10 => .int
  | 11 => .boolean
  | 12 => .array .int
  | _ => .array .int
abbrev wsX40 : List Cond := u_ws RX4 TX4 14
theorem nmX4 : ∀ a, a < 14 → ∀ b, b < 14 → a ≠ b → (TX4 a).2.1 ≠ (TX4 b).2.1 := by decide +kernel
theorem tyX4_ok : ∀ k, k < 14 → parseFieldDescriptor (TX4 k).2.2.1 = some (tyX4 k) := by decide +kernel
abbrev cX4_init : ByteArray := prog_6_method_1_code
def yX4_init : MethodName := ⟨RX4, "<init>", "(I)V"⟩
abbrev cX4_bit : ByteArray := prog_6_method_2_code
def yX4_bit : MethodName := ⟨RX4, "bit", "()I"⟩
abbrev cX4_isUnderway : ByteArray := prog_6_method_3_code
def yX4_isUnderway : MethodName := ⟨RX4, "isUnderway", "()Z"⟩
abbrev cX4_isIndebted : ByteArray := prog_6_method_4_code
def yX4_isIndebted : MethodName := ⟨RX4, "isIndebted", "()Z"⟩
abbrev cX4_isOpenFor : ByteArray := prog_6_method_5_code
def yX4_isOpenFor : MethodName := ⟨RX4, "isOpenFor", "(I)Z"⟩
abbrev cX4_officeAt : ByteArray := prog_6_method_6_code
def yX4_officeAt : MethodName := ⟨RX4, "officeAt", "(I)I"⟩
abbrev cX4_stampedAt : ByteArray := prog_6_method_7_code
def yX4_stampedAt : MethodName := ⟨RX4, "stampedAt", "(I)I"⟩
abbrev cX4_seen : ByteArray := prog_6_method_8_code
def yX4_seen : MethodName := ⟨RX4, "seen", "()I"⟩
abbrev cX4_comesTo : ByteArray := prog_6_method_9_code
def yX4_comesTo : MethodName := ⟨RX4, "comesTo", "()I"⟩
abbrev cX4_step : ByteArray := prog_6_method_11_code
def yX4_step : MethodName := ⟨RX4, "step", "(I)I"⟩
abbrev cX4_changesAt : ByteArray := prog_6_method_12_code
def yX4_changesAt : MethodName := ⟨RX4, "changesAt", "()I"⟩
abbrev cX4_load : ByteArray := prog_6_method_13_code
def yX4_load : MethodName := ⟨RX4, "load", "(IIIII)V"⟩
abbrev cX4_start : ByteArray := prog_6_method_14_code
def yX4_start : MethodName := ⟨RX4, "start", "(LTransitSeals$Route;I)V"⟩
abbrev cX4_stamp : ByteArray := prog_6_method_15_code
def yX4_stamp : MethodName := ⟨RX4, "stamp", "(I)V"⟩
abbrev cX4_owe : ByteArray := prog_6_method_16_code
def yX4_owe : MethodName := ⟨RX4, "owe", "(I)V"⟩
abbrev cX4_copyFrom : ByteArray := prog_6_method_17_code
def yX4_copyFrom : MethodName := ⟨RX4, "copyFrom", "(LTransitSeals$Movement;)V"⟩
def RX5 : String := "TransitSeals$Net"
def TX5 : u_T := fun k => match k with
  | 0 => ("TransitSeals$Net", "countries", "[I", true)
  | 1 => ("TransitSeals$Net", "duties", "[I", true)
  | 2 => ("TransitSeals$Net", "roadHours", "[I", true)
  | 3 => ("TransitSeals$Net", "wayHours", "[I", true)
  | 4 => ("TransitSeals$Net", "near", "[I", true)
  | 5 => ("TransitSeals$Net", "written", "LTransitSeals$Text;", true)
  | 6 => ("TransitSeals$Net", "offices", "I", false)
  | 7 => ("TransitSeals$Net", "roads", "I", false)
  | _ => ("TransitSeals$Net", "goods", "I", false)
def tyX5 : Nat → FieldType := fun k => match k with
  | 0 => .array .int
  | 1 => .array .int
  | 2 => .array .int
  | 3 => .array .int
  | 4 => .array .int
  | 5 => .object "TransitSeals$Text"
  | 6 => .int
  | 7 => .int
  | _ => .int
abbrev wsX50 : List Cond := u_ws RX5 TX5 9
theorem nmX5 : ∀ a, a < 9 → ∀ b, b < 9 → a ≠ b → (TX5 a).2.1 ≠ (TX5 b).2.1 := by decide +kernel
theorem tyX5_ok : ∀ k, k < 9 → parseFieldDescriptor (TX5 k).2.2.1 = some (tyX5 k) := by decide +kernel
abbrev cX5_init : ByteArray := prog_7_method_1_code
def yX5_init : MethodName := ⟨RX5, "<init>", "()V"⟩
abbrev cX5_hasOffice : ByteArray := prog_7_method_2_code
def yX5_hasOffice : MethodName := ⟨RX5, "hasOffice", "(I)Z"⟩
abbrev cX5_hasGoods : ByteArray := prog_7_method_3_code
def yX5_hasGoods : MethodName := ⟨RX5, "hasGoods", "(I)Z"⟩
abbrev cX5_countryOf : ByteArray := prog_7_method_4_code
def yX5_countryOf : MethodName := ⟨RX5, "countryOf", "(I)I"⟩
abbrev cX5_near : ByteArray := prog_7_method_5_code
def yX5_near : MethodName := ⟨RX5, "near", "(I)I"⟩
abbrev cX5_dutyOf : ByteArray := prog_7_method_7_code
def yX5_dutyOf : MethodName := ⟨RX5, "dutyOf", "(I)I"⟩
abbrev cX5_roadHours : ByteArray := prog_7_method_8_code
def yX5_roadHours : MethodName := ⟨RX5, "roadHours", "(II)I"⟩
abbrev cX5_wayHours : ByteArray := prog_7_method_9_code
def yX5_wayHours : MethodName := ⟨RX5, "wayHours", "(II)I"⟩
abbrev cX5_pair : ByteArray := prog_7_method_10_code
def yX5_pair : MethodName := ⟨RX5, "pair", "(II)I"⟩
abbrev cX5_readFrom : ByteArray := prog_7_method_11_code
def yX5_readFrom : MethodName := ⟨RX5, "readFrom", "(LTransitSeals$Reader;)V"⟩
abbrev cX5_clear : ByteArray := prog_7_method_12_code
def yX5_clear : MethodName := ⟨RX5, "clear", "()V"⟩
abbrev cX5_readCountries : ByteArray := prog_7_method_13_code
def yX5_readCountries : MethodName := ⟨RX5, "readCountries", "(LTransitSeals$Reader;)V"⟩
abbrev cX5_readRoads : ByteArray := prog_7_method_14_code
def yX5_readRoads : MethodName := ⟨RX5, "readRoads", "(LTransitSeals$Reader;)V"⟩
abbrev cX5_readRoad : ByteArray := prog_7_method_15_code
def yX5_readRoad : MethodName := ⟨RX5, "readRoad", "(LTransitSeals$Reader;)V"⟩
abbrev cX5_join : ByteArray := prog_7_method_16_code
def yX5_join : MethodName := ⟨RX5, "join", "(III)V"⟩
abbrev cX5_readDuties : ByteArray := prog_7_method_17_code
def yX5_readDuties : MethodName := ⟨RX5, "readDuties", "(LTransitSeals$Reader;)V"⟩
abbrev cX5_measureWays : ByteArray := prog_7_method_18_code
def yX5_measureWays : MethodName := ⟨RX5, "measureWays", "()V"⟩
abbrev cX5_writeDown : ByteArray := prog_7_method_19_code
def yX5_writeDown : MethodName := ⟨RX5, "writeDown", "()V"⟩
abbrev cX5_writeRoad : ByteArray := prog_7_method_20_code
def yX5_writeRoad : MethodName := ⟨RX5, "writeRoad", "(IIZ)V"⟩
def RX6 : String := "TransitSeals$Reader"
def TX6 : u_T := fun k => match k with
  | 0 => ("TransitSeals$Reader", "text", "LTransitSeals$Text;", true)
  | 1 => ("TransitSeals$Reader", "place", "I", false)
  | _ => ("TransitSeals$Reader", "wrong", "I", false)
def tyX6 : Nat → FieldType := fun k => match k with
  | 0 => .object "TransitSeals$Text"
  | 1 => .int
  | _ => .int
abbrev wsX60 : List Cond := u_ws RX6 TX6 3
theorem nmX6 : ∀ a, a < 3 → ∀ b, b < 3 → a ≠ b → (TX6 a).2.1 ≠ (TX6 b).2.1 := by decide +kernel
theorem tyX6_ok : ∀ k, k < 3 → parseFieldDescriptor (TX6 k).2.2.1 = some (tyX6 k) := by decide +kernel
abbrev cX6_init : ByteArray := prog_8_method_1_code
def yX6_init : MethodName := ⟨RX6, "<init>", "()V"⟩
abbrev cX6_begin : ByteArray := prog_8_method_2_code
def yX6_begin : MethodName := ⟨RX6, "begin", "()V"⟩
abbrev cX6_failed : ByteArray := prog_8_method_3_code
def yX6_failed : MethodName := ⟨RX6, "failed", "()Z"⟩
abbrev cX6_refusal : ByteArray := prog_8_method_4_code
def yX6_refusal : MethodName := ⟨RX6, "refusal", "()I"⟩
abbrev cX6_atEnd : ByteArray := prog_8_method_5_code
def yX6_atEnd : MethodName := ⟨RX6, "atEnd", "()Z"⟩
abbrev cX6_sees : ByteArray := prog_8_method_6_code
def yX6_sees : MethodName := ⟨RX6, "sees", "(C)Z"⟩
abbrev cX6_takes : ByteArray := prog_8_method_7_code
def yX6_takes : MethodName := ⟨RX6, "takes", "(C)Z"⟩
abbrev cX6_needs : ByteArray := prog_8_method_8_code
def yX6_needs : MethodName := ⟨RX6, "needs", "(C)V"⟩
abbrev cX6_finish : ByteArray := prog_8_method_9_code
def yX6_finish : MethodName := ⟨RX6, "finish", "()V"⟩
abbrev cX6_refuseHere : ByteArray := prog_8_method_10_code
def yX6_refuseHere : MethodName := ⟨RX6, "refuseHere", "()V"⟩
abbrev cX6_refuseLast : ByteArray := prog_8_method_11_code
def yX6_refuseLast : MethodName := ⟨RX6, "refuseLast", "()V"⟩
abbrev cX6_digit : ByteArray := prog_8_method_12_code
def yX6_digit : MethodName := ⟨RX6, "digit", "()I"⟩
abbrev cX6_number : ByteArray := prog_8_method_13_code
def yX6_number : MethodName := ⟨RX6, "number", "(II)I"⟩
def RX7 : String := "TransitSeals$Route"
def TX7 : u_T := fun k => match k with
  | 0 => ("TransitSeals$Route", "offices", "[I", true)
  | 1 => ("TransitSeals$Route", "stops", "I", false)
  | _ => ("TransitSeals$Route", "span", "I", false)
def tyX7 : Nat → FieldType := fun k => match k with
  | 0 => .array .int
  | 1 => .int
  | _ => .int
abbrev wsX70 : List Cond := u_ws RX7 TX7 3
theorem nmX7 : ∀ a, a < 3 → ∀ b, b < 3 → a ≠ b → (TX7 a).2.1 ≠ (TX7 b).2.1 := by decide +kernel
theorem tyX7_ok : ∀ k, k < 3 → parseFieldDescriptor (TX7 k).2.2.1 = some (tyX7 k) := by decide +kernel
abbrev cX7_init : ByteArray := prog_9_method_1_code
def yX7_init : MethodName := ⟨RX7, "<init>", "()V"⟩
abbrev cX7_officeAt : ByteArray := prog_9_method_2_code
def yX7_officeAt : MethodName := ⟨RX7, "officeAt", "(I)I"⟩
abbrev cX7_termFrom : ByteArray := prog_9_method_3_code
def yX7_termFrom : MethodName := ⟨RX7, "termFrom", "(I)I"⟩
abbrev cX7_readFrom : ByteArray := prog_9_method_4_code
def yX7_readFrom : MethodName := ⟨RX7, "readFrom", "(LTransitSeals$Reader;LTransitSeals$Net;)V"⟩
def RX8 : String := "TransitSeals$Row"
def TX8 : u_T := fun k => match k with
  | 0 => ("TransitSeals$Row", "numbers", "[I", true)
  | _ => ("TransitSeals$Row", "size", "I", false)
def tyX8 : Nat → FieldType := fun k => match k with
  | 0 => .array .int
  | _ => .int
abbrev wsX80 : List Cond := u_ws RX8 TX8 2
theorem nmX8 : ∀ a, a < 2 → ∀ b, b < 2 → a ≠ b → (TX8 a).2.1 ≠ (TX8 b).2.1 := by decide +kernel
theorem tyX8_ok : ∀ k, k < 2 → parseFieldDescriptor (TX8 k).2.2.1 = some (tyX8 k) := by decide +kernel
abbrev cX8_init : ByteArray := prog_10_method_1_code
def yX8_init : MethodName := ⟨RX8, "<init>", "()V"⟩
abbrev cX8_size : ByteArray := prog_10_method_2_code
def yX8_size : MethodName := ⟨RX8, "size", "()I"⟩
abbrev cX8_clear : ByteArray := prog_10_method_3_code
def yX8_clear : MethodName := ⟨RX8, "clear", "()V"⟩
abbrev cX8_add : ByteArray := prog_10_method_4_code
def yX8_add : MethodName := ⟨RX8, "add", "(I)V"⟩
abbrev cX8_numberAt : ByteArray := prog_10_method_5_code
def yX8_numberAt : MethodName := ⟨RX8, "numberAt", "(I)I"⟩
def RX9 : String := "TransitSeals$Search"
def TX9 : u_T := fun k => match k with
  | 0 => ("TransitSeals$Search", "net", "LTransitSeals$Net;", false)
  | 1 => ("TransitSeals$Search", "goal", "I", false)
  | 2 => ("TransitSeals$Search", "found", "I", false)
  | 3 => ("TransitSeals$Search", "least", "I", false)
  | _ => ("TransitSeals$Search", "greatest", "I", false)
def tyX9 : Nat → FieldType := fun k => match k with
  | 0 => .object "TransitSeals$Net"
  | 1 => .int
  | 2 => .int
  | 3 => .int
  | _ => .int
abbrev wsX90 : List Cond := u_ws RX9 TX9 5
theorem nmX9 : ∀ a, a < 5 → ∀ b, b < 5 → a ≠ b → (TX9 a).2.1 ≠ (TX9 b).2.1 := by decide +kernel
theorem tyX9_ok : ∀ k, k < 5 → parseFieldDescriptor (TX9 k).2.2.1 = some (tyX9 k) := by decide +kernel
abbrev cX9_init : ByteArray := prog_11_method_1_code
def yX9_init : MethodName := ⟨RX9, "<init>", "()V"⟩
def RX10 : String := "TransitSeals$Text"
def TX10 : u_T := fun k => match k with
  | 0 => ("TransitSeals$Text", "signs", "[I", true)
  | _ => ("TransitSeals$Text", "size", "I", false)
def tyX10 : Nat → FieldType := fun k => match k with
  | 0 => .array .int
  | _ => .int
abbrev wsX100 : List Cond := u_ws RX10 TX10 2
theorem nmX10 : ∀ a, a < 2 → ∀ b, b < 2 → a ≠ b → (TX10 a).2.1 ≠ (TX10 b).2.1 := by decide +kernel
theorem tyX10_ok : ∀ k, k < 2 → parseFieldDescriptor (TX10 k).2.2.1 = some (tyX10 k) := by decide +kernel
abbrev cX10_init : ByteArray := prog_12_method_1_code
def yX10_init : MethodName := ⟨RX10, "<init>", "()V"⟩
abbrev cX10_size : ByteArray := prog_12_method_2_code
def yX10_size : MethodName := ⟨RX10, "size", "()I"⟩
abbrev cX10_signAt : ByteArray := prog_12_method_3_code
def yX10_signAt : MethodName := ⟨RX10, "signAt", "(I)I"⟩
abbrev cX10_add : ByteArray := prog_12_method_4_code
def yX10_add : MethodName := ⟨RX10, "add", "(I)V"⟩
abbrev cX10_addNumber : ByteArray := prog_12_method_5_code
def yX10_addNumber : MethodName := ⟨RX10, "addNumber", "(I)V"⟩
abbrev cX10_cutTo : ByteArray := prog_12_method_6_code
def yX10_cutTo : MethodName := ⟨RX10, "cutTo", "(I)V"⟩
def RX11 : String := "TransitSeals"
def TX11 : u_T := fun k => match k with
  | 0 => ("TransitSeals", "reader", "LTransitSeals$Reader;", true)
  | 1 => ("TransitSeals", "told", "LTransitSeals$Row;", true)
  | 2 => ("TransitSeals", "route", "LTransitSeals$Route;", true)
  | 3 => ("TransitSeals", "loads", "LTransitSeals$Loads;", true)
  | 4 => ("TransitSeals", "search", "LTransitSeals$Search;", true)
  | 5 => ("TransitSeals", "ledger", "LTransitSeals$Ledger;", true)
  | 6 => ("TransitSeals", "history", "LTransitSeals$History;", true)
  | 7 => ("TransitSeals", "net", "LTransitSeals$Net;", false)
  | _ => ("TransitSeals", "draft", "LTransitSeals$Net;", false)
def tyX11 : Nat → FieldType := fun k => match k with
  | 0 => .object "TransitSeals$Reader"
  | 1 => .object "TransitSeals$Row"
  | 2 => .object "TransitSeals$Route"
  | 3 => .object "TransitSeals$Loads"
  | 4 => .object "TransitSeals$Search"
  | 5 => .object "TransitSeals$Ledger"
  | 6 => .object "TransitSeals$History"
  | 7 => .object "TransitSeals$Net"
  | _ => .object "TransitSeals$Net"
abbrev wsX110 : List Cond := u_ws RX11 TX11 9
theorem nmX11 : ∀ a, a < 9 → ∀ b, b < 9 → a ≠ b → (TX11 a).2.1 ≠ (TX11 b).2.1 := by decide +kernel
theorem tyX11_ok : ∀ k, k < 9 → parseFieldDescriptor (TX11 k).2.2.1 = some (tyX11 k) := by decide +kernel
abbrev cX11_init : ByteArray := prog_1_method_1_code
def yX11_init : MethodName := ⟨RX11, "<init>", "()V"⟩
abbrev cX11_sign : ByteArray := prog_1_method_2_code
def yX11_sign : MethodName := ⟨RX11, "sign", "(I)I"⟩
abbrev cX11_end : ByteArray := prog_1_method_3_code
def yX11_end : MethodName := ⟨RX11, "end", "(I)Z"⟩
abbrev cX11_net : ByteArray := prog_1_method_4_code
def yX11_net : MethodName := ⟨RX11, "net", "()I"⟩
abbrev cX11_trader : ByteArray := prog_1_method_10_code
def yX11_trader : MethodName := ⟨RX11, "trader", "(II)I"⟩
abbrev cX11_inUse : ByteArray := prog_1_method_12_code
def yX11_inUse : MethodName := ⟨RX11, "inUse", "(I)I"⟩
abbrev cX11_owes : ByteArray := prog_1_method_13_code
def yX11_owes : MethodName := ⟨RX11, "owes", "(I)I"⟩
abbrev cX11_starts : ByteArray := prog_1_method_14_code
def yX11_starts : MethodName := ⟨RX11, "starts", "(III)I"⟩
abbrev cX11_stamps : ByteArray := prog_1_method_15_code
def yX11_stamps : MethodName := ⟨RX11, "stamps", "(II)I"⟩
abbrev cX11_breaks : ByteArray := prog_1_method_16_code
def yX11_breaks : MethodName := ⟨RX11, "breaks", "(I)I"⟩
abbrev cX11_controls : ByteArray := prog_1_method_17_code
def yX11_controls : MethodName := ⟨RX11, "controls", "(II)I"⟩
abbrev cX11_proves : ByteArray := prog_1_method_18_code
def yX11_proves : MethodName := ⟨RX11, "proves", "(I)I"⟩
abbrev cX11_pays : ByteArray := prog_1_method_19_code
def yX11_pays : MethodName := ⟨RX11, "pays", "(I)I"⟩
abbrev cX11_hours : ByteArray := prog_1_method_20_code
def yX11_hours : MethodName := ⟨RX11, "hours", "(I)I"⟩
abbrev cX11_movement : ByteArray := prog_1_method_21_code
def yX11_movement : MethodName := ⟨RX11, "movement", "(II)I"⟩
abbrev cX11_stop : ByteArray := prog_1_method_22_code
def yX11_stop : MethodName := ⟨RX11, "stop", "(II)I"⟩
abbrev cX11_left : ByteArray := prog_1_method_23_code
def yX11_left : MethodName := ⟨RX11, "left", "(I)I"⟩
abbrev cX11_states : ByteArray := prog_1_method_26_code
def yX11_states : MethodName := ⟨RX11, "states", "(I)I"⟩
abbrev cX11_owed : ByteArray := prog_1_method_27_code
def yX11_owed : MethodName := ⟨RX11, "owed", "(I)I"⟩
abbrev cX11_late : ByteArray := prog_1_method_28_code
def yX11_late : MethodName := ⟨RX11, "late", "()I"⟩
abbrev cX11_can : ByteArray := prog_1_method_32_code
def yX11_can : MethodName := ⟨RX11, "can", "(II)I"⟩
abbrev cX11_frees : ByteArray := prog_1_method_33_code
def yX11_frees : MethodName := ⟨RX11, "frees", "(II)I"⟩
abbrev cX11_when : ByteArray := prog_1_method_34_code
def yX11_when : MethodName := ⟨RX11, "when", "(II)I"⟩
abbrev cX11_detour : ByteArray := prog_1_method_36_code
def yX11_detour : MethodName := ⟨RX11, "detour", "()I"⟩
abbrev cX11_book : ByteArray := prog_1_method_39_code
def yX11_book : MethodName := ⟨RX11, "book", "(II)I"⟩
abbrev cX11_undo : ByteArray := prog_1_method_41_code
def yX11_undo : MethodName := ⟨RX11, "undo", "()I"⟩
abbrev cX11_keeps : ByteArray := prog_1_method_42_code
def yX11_keeps : MethodName := ⟨RX11, "keeps", "()I"⟩
abbrev cX11_back : ByteArray := prog_1_method_43_code
def yX11_back : MethodName := ⟨RX11, "back", "()I"⟩
abbrev cX11_count : ByteArray := prog_1_method_44_code
def yX11_count : MethodName := ⟨RX11, "count", "(I)I"⟩
abbrev cX11_row : ByteArray := prog_1_method_45_code
def yX11_row : MethodName := ⟨RX11, "row", "(I)J"⟩
abbrev cX11_tell : ByteArray := prog_1_method_46_code
def yX11_tell : MethodName := ⟨RX11, "tell", "(I)V"⟩
abbrev cX11_tell_ : ByteArray := prog_1_method_47_code
def yX11_tell_ : MethodName := ⟨RX11, "tell", "(II)V"⟩
abbrev cX11_hoursToGo : ByteArray := prog_1_method_48_code
def yX11_hoursToGo : MethodName := ⟨RX11, "hoursToGo", "(LTransitSeals$Movement;)I"⟩
abbrev cX11_hourOfArrival : ByteArray := prog_1_method_49_code
def yX11_hourOfArrival : MethodName := ⟨RX11, "hourOfArrival", "(LTransitSeals$Movement;)I"⟩
abbrev cX11_isLate : ByteArray := prog_1_method_50_code
def yX11_isLate : MethodName := ⟨RX11, "isLate", "(LTransitSeals$Movement;)Z"⟩
abbrev cX11_closingHour : ByteArray := prog_1_method_51_code
def yX11_closingHour : MethodName := ⟨RX11, "closingHour", "(LTransitSeals$Movement;)I"⟩
abbrev cX11_freedUntil : ByteArray := prog_1_method_52_code
def yX11_freedUntil : MethodName := ⟨RX11, "freedUntil", "(II)I"⟩
abbrev cX11_fewestFreeing : ByteArray := prog_1_method_53_code
def yX11_fewestFreeing : MethodName := ⟨RX11, "fewestFreeing", "(II)I"⟩
abbrev cX11_leastBitsFreeing : ByteArray := prog_1_method_54_code
def yX11_leastBitsFreeing : MethodName := ⟨RX11, "leastBitsFreeing", "(III)I"⟩
abbrev cX11_isSum : ByteArray := prog_1_method_55_code
def yX11_isSum : MethodName := ⟨RX11, "isSum", "(I)Z"⟩
abbrev cX11_isLevel : ByteArray := prog_1_method_56_code
def yX11_isLevel : MethodName := ⟨RX11, "isLevel", "(I)Z"⟩
abbrev cX11_partsOf : ByteArray := prog_1_method_57_code
def yX11_partsOf : MethodName := ⟨RX11, "partsOf", "(I)I"⟩
abbrev cX11_share : ByteArray := prog_1_method_58_code
def yX11_share : MethodName := ⟨RX11, "share", "(II)I"⟩
abbrev cX11_digitsOf : ByteArray := prog_1_method_59_code
def yX11_digitsOf : MethodName := ⟨RX11, "digitsOf", "(I)I"⟩
abbrev cX11_numberIn : ByteArray := prog_1_method_60_code
def yX11_numberIn : MethodName := ⟨RX11, "numberIn", "([II)I"⟩
abbrev cX11_put : ByteArray := prog_1_method_61_code
def yX11_put : MethodName := ⟨RX11, "put", "([III)V"⟩
abbrev cX11_copy : ByteArray := prog_1_method_62_code
def yX11_copy : MethodName := ⟨RX11, "copy", "([I[I)V"⟩
abbrev cX11_wipe : ByteArray := prog_1_method_63_code
def yX11_wipe : MethodName := ⟨RX11, "wipe", "([I)V"⟩
def RX12 : String := "TransitSealsModel"
def TX12 : u_T := fun k => match k with
  | _ => ("", "", "", false)
def tyX12 : Nat → FieldType := fun k => match k with
  | _ => .int
abbrev wsX120 : List Cond := u_ws RX12 TX12 0
theorem nmX12 : ∀ a, a < 0 → ∀ b, b < 0 → a ≠ b → (TX12 a).2.1 ≠ (TX12 b).2.1 := by decide +kernel
theorem tyX12_ok : ∀ k, k < 0 → parseFieldDescriptor (TX12 k).2.2.1 = some (tyX12 k) := by decide +kernel
def RJx145de : String := "java/io/Serializable"
def TJx145de : u_T := fun k => match k with
  | _ => ("", "", "", false)
def tyJx145de : Nat → FieldType := fun k => match k with
  | _ => .int
abbrev wsJx145de0 : List Cond := u_ws RJx145de TJx145de 0
theorem nmJx145de : ∀ a, a < 0 → ∀ b, b < 0 → a ≠ b → (TJx145de a).2.1 ≠ (TJx145de b).2.1 := by decide +kernel
theorem tyJx145de_ok : ∀ k, k < 0 → parseFieldDescriptor (TJx145de k).2.2.1 = some (tyJx145de k) := by decide +kernel
def RJ5 : String := "java/lang/AbstractStringBuilder"
def TJ5 : u_T := fun k => match k with
  | _ => ("", "", "", false)
def tyJ5 : Nat → FieldType := fun k => match k with
  | _ => .int
abbrev wsJ50 : List Cond := u_ws RJ5 TJ5 0
theorem nmJ5 : ∀ a, a < 0 → ∀ b, b < 0 → a ≠ b → (TJ5 a).2.1 ≠ (TJ5 b).2.1 := by decide +kernel
theorem tyJ5_ok : ∀ k, k < 0 → parseFieldDescriptor (TJ5 k).2.2.1 = some (tyJ5 k) := by decide +kernel
abbrev cJ5_init_d00df : ByteArray := prog_16_method_2_code
def yJ5_init_d00df : MethodName := ⟨RJ5, "<init>", "(I)V"⟩
abbrev cJ5_init_a7421 : ByteArray := prog_16_method_3_code
def yJ5_init_a7421 : MethodName := ⟨RJ5, "<init>", "(Ljava/lang/String;)V"⟩
abbrev cJ5_length_8abf5 : ByteArray := prog_16_method_6_code
def yJ5_length_8abf5 : MethodName := ⟨RJ5, "length", "()I"⟩
abbrev cJ5_ensureCapacityInternal_d00df : ByteArray := prog_16_method_9_code
def yJ5_ensureCapacityInternal_d00df : MethodName := ⟨RJ5, "ensureCapacityInternal", "(I)V"⟩
abbrev cJ5_newCapacity_0f7a4 : ByteArray := prog_16_method_10_code
def yJ5_newCapacity_0f7a4 : MethodName := ⟨RJ5, "newCapacity", "(I)I"⟩
abbrev cJ5_inflate_da8c8 : ByteArray := prog_16_method_11_code
def yJ5_inflate_da8c8 : MethodName := ⟨RJ5, "inflate", "()V"⟩
abbrev cJ5_append_cf1ce : ByteArray := prog_16_method_22_code
def yJ5_append_cf1ce : MethodName := ⟨RJ5, "append", "(Ljava/lang/String;)Ljava/lang/AbstractStringBuilder;"⟩
abbrev cJ5_appendNull_278bc : ByteArray := prog_16_method_26_code
def yJ5_appendNull_278bc : MethodName := ⟨RJ5, "appendNull", "()Ljava/lang/AbstractStringBuilder;"⟩
abbrev cJ5_append_c97b9 : ByteArray := prog_16_method_32_code
def yJ5_append_c97b9 : MethodName := ⟨RJ5, "append", "(I)Ljava/lang/AbstractStringBuilder;"⟩
abbrev cJ5_getValue_6d5f1 : ByteArray := prog_16_method_64_code
def yJ5_getValue_6d5f1 : MethodName := ⟨RJ5, "getValue", "()[B"⟩
abbrev cJ5_isLatin1_aae02 : ByteArray := prog_16_method_68_code
def yJ5_isLatin1_aae02 : MethodName := ⟨RJ5, "isLatin1", "()Z"⟩
abbrev cJ5_inflateIfNeededFor_a7421 : ByteArray := prog_16_method_71_code
def yJ5_inflateIfNeededFor_a7421 : MethodName := ⟨RJ5, "inflateIfNeededFor", "(Ljava/lang/String;)V"⟩
abbrev cJ5_putStringAt_47b60 : ByteArray := prog_16_method_73_code
def yJ5_putStringAt_47b60 : MethodName := ⟨RJ5, "putStringAt", "(ILjava/lang/String;)V"⟩
def RJx2cfe8 : String := "java/lang/Appendable"
def TJx2cfe8 : u_T := fun k => match k with
  | _ => ("", "", "", false)
def tyJx2cfe8 : Nat → FieldType := fun k => match k with
  | _ => .int
abbrev wsJx2cfe80 : List Cond := u_ws RJx2cfe8 TJx2cfe8 0
theorem nmJx2cfe8 : ∀ a, a < 0 → ∀ b, b < 0 → a ≠ b → (TJx2cfe8 a).2.1 ≠ (TJx2cfe8 b).2.1 := by decide +kernel
theorem tyJx2cfe8_ok : ∀ k, k < 0 → parseFieldDescriptor (TJx2cfe8 k).2.2.1 = some (tyJx2cfe8 k) := by decide +kernel
def RJx9f9b0 : String := "java/lang/CharSequence"
def TJx9f9b0 : u_T := fun k => match k with
  | _ => ("", "", "", false)
def tyJx9f9b0 : Nat → FieldType := fun k => match k with
  | _ => .int
abbrev wsJx9f9b00 : List Cond := u_ws RJx9f9b0 TJx9f9b0 0
theorem nmJx9f9b0 : ∀ a, a < 0 → ∀ b, b < 0 → a ≠ b → (TJx9f9b0 a).2.1 ≠ (TJx9f9b0 b).2.1 := by decide +kernel
theorem tyJx9f9b0_ok : ∀ k, k < 0 → parseFieldDescriptor (TJx9f9b0 k).2.2.1 = some (tyJx9f9b0 k) := by decide +kernel
def RJx8e188 : String := "java/lang/Cloneable"
def TJx8e188 : u_T := fun k => match k with
  | _ => ("", "", "", false)
def tyJx8e188 : Nat → FieldType := fun k => match k with
  | _ => .int
abbrev wsJx8e1880 : List Cond := u_ws RJx8e188 TJx8e188 0
theorem nmJx8e188 : ∀ a, a < 0 → ∀ b, b < 0 → a ≠ b → (TJx8e188 a).2.1 ≠ (TJx8e188 b).2.1 := by decide +kernel
theorem tyJx8e188_ok : ∀ k, k < 0 → parseFieldDescriptor (TJx8e188 k).2.2.1 = some (tyJx8e188 k) := by decide +kernel
def RJxb160c : String := "java/lang/Comparable"
def TJxb160c : u_T := fun k => match k with
  | _ => ("", "", "", false)
def tyJxb160c : Nat → FieldType := fun k => match k with
  | _ => .int
abbrev wsJxb160c0 : List Cond := u_ws RJxb160c TJxb160c 0
theorem nmJxb160c : ∀ a, a < 0 → ∀ b, b < 0 → a ≠ b → (TJxb160c a).2.1 ≠ (TJxb160c b).2.1 := by decide +kernel
theorem tyJxb160c_ok : ∀ k, k < 0 → parseFieldDescriptor (TJxb160c k).2.2.1 = some (tyJxb160c k) := by decide +kernel
def RJ6 : String := "java/lang/Integer"
def TJ6 : u_T := fun k => match k with
  | _ => ("", "", "", false)
def tyJ6 : Nat → FieldType := fun k => match k with
  | _ => .int
abbrev wsJ60 : List Cond := u_ws RJ6 TJ6 0
theorem nmJ6 : ∀ a, a < 0 → ∀ b, b < 0 → a ≠ b → (TJ6 a).2.1 ≠ (TJ6 b).2.1 := by decide +kernel
theorem tyJ6_ok : ∀ k, k < 0 → parseFieldDescriptor (TJ6 k).2.2.1 = some (tyJ6 k) := by decide +kernel
abbrev cJ6_getChars_ba4f3 : ByteArray := prog_22_method_12_code
def yJ6_getChars_ba4f3 : MethodName := ⟨RJ6, "getChars", "(II[B)I"⟩
abbrev cJ6_stringSize_0f7a4 : ByteArray := prog_22_method_13_code
def yJ6_stringSize_0f7a4 : MethodName := ⟨RJ6, "stringSize", "(I)I"⟩
abbrev cJ6_bitCount_0f7a4 : ByteArray := prog_22_method_49_code
def yJ6_bitCount_0f7a4 : MethodName := ⟨RJ6, "bitCount", "(I)I"⟩
def RJ9 : String := "java/lang/Math"
def TJ9 : u_T := fun k => match k with
  | _ => ("", "", "", false)
def tyJ9 : Nat → FieldType := fun k => match k with
  | _ => .int
abbrev wsJ90 : List Cond := u_ws RJ9 TJ9 0
theorem nmJ9 : ∀ a, a < 0 → ∀ b, b < 0 → a ≠ b → (TJ9 a).2.1 ≠ (TJ9 b).2.1 := by decide +kernel
theorem tyJ9_ok : ∀ k, k < 0 → parseFieldDescriptor (TJ9 k).2.2.1 = some (tyJ9 k) := by decide +kernel
abbrev cJ9_max_7cf53 : ByteArray := prog_23_method_65_code
def yJ9_max_7cf53 : MethodName := ⟨RJ9, "max", "(II)I"⟩
abbrev cJ9_min_7cf53 : ByteArray := prog_23_method_69_code
def yJ9_min_7cf53 : MethodName := ⟨RJ9, "min", "(II)I"⟩
def RJxd2413 : String := "java/lang/Number"
def TJxd2413 : u_T := fun k => match k with
  | _ => ("", "", "", false)
def tyJxd2413 : Nat → FieldType := fun k => match k with
  | _ => .int
abbrev wsJxd24130 : List Cond := u_ws RJxd2413 TJxd2413 0
theorem nmJxd2413 : ∀ a, a < 0 → ∀ b, b < 0 → a ≠ b → (TJxd2413 a).2.1 ≠ (TJxd2413 b).2.1 := by decide +kernel
theorem tyJxd2413_ok : ∀ k, k < 0 → parseFieldDescriptor (TJxd2413 k).2.2.1 = some (tyJxd2413 k) := by decide +kernel
def RJ0 : String := "java/lang/String"
def TJ0 : u_T := fun k => match k with
  | 0 => ("java/lang/String", "value", "[B", true)
  | 1 => ("java/lang/String", "coder", "B", true)
  | 2 => ("java/lang/String", "hash", "I", false)
  | _ => ("java/lang/String", "hashIsZero", "Z", false)
def tyJ0 : Nat → FieldType := fun k => match k with
  | 0 => .array .byte
  | 1 => .byte
  | 2 => .int
  | _ => .boolean
abbrev wsJ00 : List Cond := u_ws RJ0 TJ0 4
theorem nmJ0 : ∀ a, a < 4 → ∀ b, b < 4 → a ≠ b → (TJ0 a).2.1 ≠ (TJ0 b).2.1 := by decide +kernel
theorem tyJ0_ok : ∀ k, k < 4 → parseFieldDescriptor (TJ0 k).2.2.1 = some (tyJ0 k) := by decide +kernel
abbrev cJ0_init_81219 : ByteArray := prog_26_method_53_code
def yJ0_init_81219 : MethodName := ⟨RJ0, "<init>", "(Ljava/lang/StringBuilder;)V"⟩
abbrev cJ0_length_8abf5 : ByteArray := prog_26_method_54_code
def yJ0_length_8abf5 : MethodName := ⟨RJ0, "length", "()I"⟩
abbrev cJ0_charAt_5068e : ByteArray := prog_26_method_56_code
def yJ0_charAt_5068e : MethodName := ⟨RJ0, "charAt", "(I)C"⟩
abbrev cJ0_getBytes_840e7 : ByteArray := prog_26_method_147_code
def yJ0_getBytes_840e7 : MethodName := ⟨RJ0, "getBytes", "([BIB)V"⟩
abbrev cJ0_init_db425 : ByteArray := prog_26_method_150_code
def yJ0_init_db425 : MethodName := ⟨RJ0, "<init>", "(Ljava/lang/AbstractStringBuilder;Ljava/lang/Void;)V"⟩
abbrev cJ0_coder_7d493 : ByteArray := prog_26_method_152_code
def yJ0_coder_7d493 : MethodName := ⟨RJ0, "coder", "()B"⟩
abbrev cJ0_isLatin1_aae02 : ByteArray := prog_26_method_154_code
def yJ0_isLatin1_aae02 : MethodName := ⟨RJ0, "isLatin1", "()Z"⟩
abbrev cJ0_checkIndex_df160 : ByteArray := prog_26_method_155_code
def yJ0_checkIndex_df160 : MethodName := ⟨RJ0, "checkIndex", "(II)V"⟩
abbrev cJ0_checkBoundsOffCount_cabcc : ByteArray := prog_26_method_157_code
def yJ0_checkBoundsOffCount_cabcc : MethodName := ⟨RJ0, "checkBoundsOffCount", "(III)I"⟩
abbrev cJ0_checkBoundsBeginEnd_23922 : ByteArray := prog_26_method_158_code
def yJ0_checkBoundsBeginEnd_23922 : MethodName := ⟨RJ0, "checkBoundsBeginEnd", "(III)V"⟩
def RJ4 : String := "java/lang/StringBuilder"
def TJ4 : u_T := fun k => match k with
  | 0 => ("java/lang/AbstractStringBuilder", "value", "[B", false)
  | 1 => ("java/lang/AbstractStringBuilder", "coder", "B", false)
  | 2 => ("java/lang/AbstractStringBuilder", "maybeLatin1", "Z", false)
  | _ => ("java/lang/AbstractStringBuilder", "count", "I", false)
def tyJ4 : Nat → FieldType := fun k => match k with
  | 0 => .array .byte
  | 1 => .byte
  | 2 => .boolean
  | _ => .int
abbrev wsJ40 : List Cond := u_ws RJ4 TJ4 4
theorem nmJ4 : ∀ a, a < 4 → ∀ b, b < 4 → a ≠ b → (TJ4 a).2.1 ≠ (TJ4 b).2.1 := by decide +kernel
theorem tyJ4_ok : ∀ k, k < 4 → parseFieldDescriptor (TJ4 k).2.2.1 = some (tyJ4 k) := by decide +kernel
abbrev cJ4_init_da8c8 : ByteArray := prog_27_method_1_code
def yJ4_init_da8c8 : MethodName := ⟨RJ4, "<init>", "()V"⟩
abbrev cJ4_init_a7421 : ByteArray := prog_27_method_3_code
def yJ4_init_a7421 : MethodName := ⟨RJ4, "<init>", "(Ljava/lang/String;)V"⟩
abbrev cJ4_append_15ec4 : ByteArray := prog_27_method_7_code
def yJ4_append_15ec4 : MethodName := ⟨RJ4, "append", "(Ljava/lang/String;)Ljava/lang/StringBuilder;"⟩
abbrev cJ4_append_bf812 : ByteArray := prog_27_method_15_code
def yJ4_append_bf812 : MethodName := ⟨RJ4, "append", "(I)Ljava/lang/StringBuilder;"⟩
abbrev cJ4_toString_0e30d : ByteArray := prog_27_method_42_code
def yJ4_toString_0e30d : MethodName := ⟨RJ4, "toString", "()Ljava/lang/String;"⟩
abbrev cJ4_append_cf1ce : ByteArray := prog_27_method_80_code
def yJ4_append_cf1ce : MethodName := ⟨RJ4, "append", "(Ljava/lang/String;)Ljava/lang/AbstractStringBuilder;"⟩
abbrev cJ4_length_8abf5 : ByteArray := prog_27_method_93_code
def yJ4_length_8abf5 : MethodName := ⟨RJ4, "length", "()I"⟩
def RJ1 : String := "java/lang/StringLatin1"
def TJ1 : u_T := fun k => match k with
  | _ => ("", "", "", false)
def tyJ1 : Nat → FieldType := fun k => match k with
  | _ => .int
abbrev wsJ10 : List Cond := u_ws RJ1 TJ1 0
theorem nmJ1 : ∀ a, a < 0 → ∀ b, b < 0 → a ≠ b → (TJ1 a).2.1 ≠ (TJ1 b).2.1 := by decide +kernel
theorem tyJ1_ok : ∀ k, k < 0 → parseFieldDescriptor (TJ1 k).2.2.1 = some (tyJ1 k) := by decide +kernel
abbrev cJ1_charAt_3b067 : ByteArray := prog_28_method_2_code
def yJ1_charAt_3b067 : MethodName := ⟨RJ1, "charAt", "([BI)C"⟩
abbrev cJ1_inflate_0e8fd : ByteArray := prog_28_method_50_code
def yJ1_inflate_0e8fd : MethodName := ⟨RJ1, "inflate", "([BI[BII)V"⟩
def RJ2 : String := "java/lang/StringUTF16"
def TJ2 : u_T := fun k => match k with
  | _ => ("", "", "", false)
def tyJ2 : Nat → FieldType := fun k => match k with
  | _ => .int
abbrev wsJ20 : List Cond := u_ws RJ2 TJ2 0
theorem nmJ2 : ∀ a, a < 0 → ∀ b, b < 0 → a ≠ b → (TJ2 a).2.1 ≠ (TJ2 b).2.1 := by decide +kernel
theorem tyJ2_ok : ∀ k, k < 0 → parseFieldDescriptor (TJ2 k).2.2.1 = some (tyJ2 k) := by decide +kernel
abbrev cJ2_newBytesFor_77867 : ByteArray := prog_29_method_2_code
def yJ2_newBytesFor_77867 : MethodName := ⟨RJ2, "newBytesFor", "(I)[B"⟩
abbrev cJ2_newBytesLength_0f7a4 : ByteArray := prog_29_method_3_code
def yJ2_newBytesLength_0f7a4 : MethodName := ⟨RJ2, "newBytesLength", "(I)I"⟩
abbrev cJ2_putChar_b72d1 : ByteArray := prog_29_method_4_code
def yJ2_putChar_b72d1 : MethodName := ⟨RJ2, "putChar", "([BII)V"⟩
abbrev cJ2_getChar_3b067 : ByteArray := prog_29_method_5_code
def yJ2_getChar_3b067 : MethodName := ⟨RJ2, "getChar", "([BI)C"⟩
abbrev cJ2_length_9d52b : ByteArray := prog_29_method_6_code
def yJ2_length_9d52b : MethodName := ⟨RJ2, "length", "([B)I"⟩
abbrev cJ2_coderFromArrayLen_85cad : ByteArray := prog_29_method_15_code
def yJ2_coderFromArrayLen_85cad : MethodName := ⟨RJ2, "coderFromArrayLen", "([BI)B"⟩
abbrev cJ2_compress_39247 : ByteArray := prog_29_method_17_code
def yJ2_compress_39247 : MethodName := ⟨RJ2, "compress", "([BII)[B"⟩
abbrev cJ2_compress_5af95 : ByteArray := prog_29_method_22_code
def yJ2_compress_5af95 : MethodName := ⟨RJ2, "compress", "([BI[BII)I"⟩
abbrev cJ2_getChars_46870 : ByteArray := prog_29_method_77_code
def yJ2_getChars_46870 : MethodName := ⟨RJ2, "getChars", "(III[B)I"⟩
abbrev cJ2_putCharsAt_cd4e5 : ByteArray := prog_29_method_81_code
def yJ2_putCharsAt_cd4e5 : MethodName := ⟨RJ2, "putCharsAt", "([BICCCC)I"⟩
abbrev cJ2_charAt_3b067 : ByteArray := prog_29_method_83_code
def yJ2_charAt_3b067 : MethodName := ⟨RJ2, "charAt", "([BI)C"⟩
abbrev cJ2_inflate_0e8fd : ByteArray := prog_29_method_86_code
def yJ2_inflate_0e8fd : MethodName := ⟨RJ2, "inflate", "([BI[BII)V"⟩
abbrev cJ2_getChars_ba4f3 : ByteArray := prog_29_method_89_code
def yJ2_getChars_ba4f3 : MethodName := ⟨RJ2, "getChars", "(II[B)I"⟩
abbrev cJ2_checkIndex_2214a : ByteArray := prog_29_method_91_code
def yJ2_checkIndex_2214a : MethodName := ⟨RJ2, "checkIndex", "(I[B)V"⟩
abbrev cJ2_checkBoundsBeginEnd_d044e : ByteArray := prog_29_method_93_code
def yJ2_checkBoundsBeginEnd_d044e : MethodName := ⟨RJ2, "checkBoundsBeginEnd", "(II[B)V"⟩
abbrev cJ2_checkBoundsOffCount_d044e : ByteArray := prog_29_method_94_code
def yJ2_checkBoundsOffCount_d044e : MethodName := ⟨RJ2, "checkBoundsOffCount", "(II[B)V"⟩
def RJ10 : String := "java/lang/System"
def TJ10 : u_T := fun k => match k with
  | _ => ("", "", "", false)
def tyJ10 : Nat → FieldType := fun k => match k with
  | _ => .int
abbrev wsJ100 : List Cond := u_ws RJ10 TJ10 0
theorem nmJ10 : ∀ a, a < 0 → ∀ b, b < 0 → a ≠ b → (TJ10 a).2.1 ≠ (TJ10 b).2.1 := by decide +kernel
theorem tyJ10_ok : ∀ k, k < 0 → parseFieldDescriptor (TJ10 k).2.2.1 = some (tyJ10 k) := by decide +kernel
def RJxfd54e : String := "java/lang/constant/Constable"
def TJxfd54e : u_T := fun k => match k with
  | _ => ("", "", "", false)
def tyJxfd54e : Nat → FieldType := fun k => match k with
  | _ => .int
abbrev wsJxfd54e0 : List Cond := u_ws RJxfd54e TJxfd54e 0
theorem nmJxfd54e : ∀ a, a < 0 → ∀ b, b < 0 → a ≠ b → (TJxfd54e a).2.1 ≠ (TJxfd54e b).2.1 := by decide +kernel
theorem tyJxfd54e_ok : ∀ k, k < 0 → parseFieldDescriptor (TJxfd54e k).2.2.1 = some (tyJxfd54e k) := by decide +kernel
def RJx3cf43 : String := "java/lang/constant/ConstantDesc"
def TJx3cf43 : u_T := fun k => match k with
  | _ => ("", "", "", false)
def tyJx3cf43 : Nat → FieldType := fun k => match k with
  | _ => .int
abbrev wsJx3cf430 : List Cond := u_ws RJx3cf43 TJx3cf43 0
theorem nmJx3cf43 : ∀ a, a < 0 → ∀ b, b < 0 → a ≠ b → (TJx3cf43 a).2.1 ≠ (TJx3cf43 b).2.1 := by decide +kernel
theorem tyJx3cf43_ok : ∀ k, k < 0 → parseFieldDescriptor (TJx3cf43 k).2.2.1 = some (tyJx3cf43 k) := by decide +kernel
def RJ7 : String := "java/util/Arrays"
def TJ7 : u_T := fun k => match k with
  | _ => ("", "", "", false)
def tyJ7 : Nat → FieldType := fun k => match k with
  | _ => .int
abbrev wsJ70 : List Cond := u_ws RJ7 TJ7 0
theorem nmJ7 : ∀ a, a < 0 → ∀ b, b < 0 → a ≠ b → (TJ7 a).2.1 ≠ (TJ7 b).2.1 := by decide +kernel
theorem tyJ7_ok : ∀ k, k < 0 → parseFieldDescriptor (TJ7 k).2.2.1 = some (tyJ7 k) := by decide +kernel
abbrev cJ7_copyOf_9075b : ByteArray := prog_34_method_121_code
def yJ7_copyOf_9075b : MethodName := ⟨RJ7, "copyOf", "([BI)[B"⟩
abbrev cJ7_checkLength_df160 : ByteArray := prog_34_method_131_code
def yJ7_checkLength_df160 : MethodName := ⟨RJ7, "checkLength", "(II)V"⟩
abbrev cJ7_copyOfRange_39247 : ByteArray := prog_34_method_132_code
def yJ7_copyOfRange_39247 : MethodName := ⟨RJ7, "copyOfRange", "([BII)[B"⟩
abbrev cJ7_copyOfRangeByte_39247 : ByteArray := prog_34_method_133_code
def yJ7_copyOfRangeByte_39247 : MethodName := ⟨RJ7, "copyOfRangeByte", "([BII)[B"⟩
def RJ8 : String := "jdk/internal/util/ArraysSupport"
def TJ8 : u_T := fun k => match k with
  | _ => ("", "", "", false)
def tyJ8 : Nat → FieldType := fun k => match k with
  | _ => .int
abbrev wsJ80 : List Cond := u_ws RJ8 TJ8 0
theorem nmJ8 : ∀ a, a < 0 → ∀ b, b < 0 → a ≠ b → (TJ8 a).2.1 ≠ (TJ8 b).2.1 := by decide +kernel
theorem tyJ8_ok : ∀ k, k < 0 → parseFieldDescriptor (TJ8 k).2.2.1 = some (tyJ8 k) := by decide +kernel
abbrev cJ8_newLength_cabcc : ByteArray := prog_36_method_27_code
def yJ8_newLength_cabcc : MethodName := ⟨RJ8, "newLength", "(III)I"⟩
abbrev cJ8_hugeLength_7cf53 : ByteArray := prog_36_method_28_code
def yJ8_hugeLength_7cf53 : MethodName := ⟨RJ8, "hugeLength", "(II)I"⟩
def RJ3 : String := "jdk/internal/util/Preconditions"
def TJ3 : u_T := fun k => match k with
  | _ => ("", "", "", false)
def tyJ3 : Nat → FieldType := fun k => match k with
  | _ => .int
abbrev wsJ30 : List Cond := u_ws RJ3 TJ3 0
theorem nmJ3 : ∀ a, a < 0 → ∀ b, b < 0 → a ≠ b → (TJ3 a).2.1 ≠ (TJ3 b).2.1 := by decide +kernel
theorem tyJ3_ok : ∀ k, k < 0 → parseFieldDescriptor (TJ3 k).2.2.1 = some (tyJ3 k) := by decide +kernel
abbrev cJ3_checkIndex_8e157 : ByteArray := prog_37_method_11_code
def yJ3_checkIndex_8e157 : MethodName := ⟨RJ3, "checkIndex", "(IILjava/util/function/BiFunction;)I"⟩
abbrev cJ3_checkFromToIndex_8c36e : ByteArray := prog_37_method_12_code
def yJ3_checkFromToIndex_8c36e : MethodName := ⟨RJ3, "checkFromToIndex", "(IIILjava/util/function/BiFunction;)I"⟩
abbrev cJ3_checkFromIndexSize_8c36e : ByteArray := prog_37_method_13_code
def yJ3_checkFromIndexSize_8c36e : MethodName := ⟨RJ3, "checkFromIndexSize", "(IIILjava/util/function/BiFunction;)I"⟩
def RL : String := "TransitSealsLaw"
abbrev cL_cell : ByteArray := method_2_code
def yL_cell : MethodName := ⟨RL, "cell", "([II)I"⟩
abbrev cL_say : ByteArray := method_3_code
def yL_say : MethodName := ⟨RL, "say", "(LTransitSeals;Ljava/lang/String;)V"⟩
abbrev cL_holds : ByteArray := method_4_code
def yL_holds : MethodName := ⟨RL, "holds", "(LTransitSeals;I)Z"⟩
abbrev cL_law : ByteArray := code
def yL_law : MethodName := ⟨RL, "law", "([I)Z"⟩
/-! ===== the tables of the interpreter ===== -/
def ts_cn : Nat → String := fun k => match k with
  | 0 => RX0
  | 1 => RX1
  | 2 => RX2
  | 3 => RX3
  | 4 => RX4
  | 5 => RX5
  | 6 => RX6
  | 7 => RX7
  | 8 => RX8
  | 9 => RX9
  | 10 => RX10
  | 11 => RX11
  | 12 => RX12
  | 14 => RL
  | _ => RJ6
def ts_T : Nat → u_T := fun k => match k with
  | 0 => TX0
  | 1 => TX1
  | 2 => TX2
  | 3 => TX3
  | 4 => TX4
  | 5 => TX5
  | 6 => TX6
  | 7 => TX7
  | 8 => TX8
  | 9 => TX9
  | 10 => TX10
  | 11 => TX11
  | 12 => TX12
  | _ => TJ6
def ts_ty : Nat → Nat → FieldType := fun k => match k with
  | 0 => tyX0
  | 1 => tyX1
  | 2 => tyX2
  | 3 => tyX3
  | 4 => tyX4
  | 5 => tyX5
  | 6 => tyX6
  | 7 => tyX7
  | 8 => tyX8
  | 9 => tyX9
  | 10 => tyX10
  | 11 => tyX11
  | 12 => tyX12
  | _ => tyJ6
def ts_N : Nat → Nat := fun k => match k with
  | 0 => 4
  | 1 => 5
  | 2 => 7
  | 3 => 7
  | 4 => 14
  | 5 => 9
  | 6 => 3
  | 7 => 3
  | 8 => 2
  | 9 => 5
  | 10 => 2
  | 11 => 9
  | 12 => 0
  | _ => 0
abbrev ts_Y : Type := MethodName × ByteArray × Nat × Option FieldType × Nat
def ts_cw (q : ts_Y) : Cond := Cond.code q.1 q.2.1 q.2.2.1 q.2.2.2.1
theorem ts_ch1 {w : Cond} (h : w ∈ tables_1_1) : w ∈ lw_tbl := List.mem_append_right _ (List.mem_append_left _ h)
theorem ts_ch2 {w : Cond} (h : w ∈ tables_1_2) : w ∈ lw_tbl := List.mem_append_right _ (List.mem_append_right _ (List.mem_append_left _ h))
theorem ts_ch3 {w : Cond} (h : w ∈ tables_1_3) : w ∈ lw_tbl := List.mem_append_right _ (List.mem_append_right _ (List.mem_append_right _ (List.mem_append_left _ h)))
theorem ts_ch4 {w : Cond} (h : w ∈ tables_1_4) : w ∈ lw_tbl := List.mem_append_right _ (List.mem_append_right _ (List.mem_append_right _ (List.mem_append_right _ (List.mem_append_left _ h))))
theorem ts_ch5 {w : Cond} (h : w ∈ tables_1_5) : w ∈ lw_tbl := List.mem_append_right _ (List.mem_append_right _ (List.mem_append_right _ (List.mem_append_right _ (List.mem_append_right _ (List.mem_append_left _ h)))))
theorem ts_ch6 {w : Cond} (h : w ∈ tables_1_6) : w ∈ lw_tbl := List.mem_append_right _ (List.mem_append_right _ (List.mem_append_right _ (List.mem_append_right _ (List.mem_append_right _ (List.mem_append_right _ (h))))))
theorem ts_cw0 : ts_cw (yX11_init, cX11_init, 1, none, 11) ∈ lw_tbl := ts_ch1 (List.mem_of_getElem? (i := 33) rfl)
theorem ts_cw1 : ts_cw (yX6_init, cX6_init, 1, none, 6) ∈ lw_tbl := ts_ch1 (List.mem_of_getElem? (i := 41) rfl)
theorem ts_cw2 : ts_cw (yX10_init, cX10_init, 1, none, 10) ∈ lw_tbl := ts_ch1 (List.mem_of_getElem? (i := 47) rfl)
theorem ts_cw3 : ts_cw (yX8_init, cX8_init, 1, none, 8) ∈ lw_tbl := ts_ch1 (List.mem_of_getElem? (i := 72) rfl)
theorem ts_cw4 : ts_cw (yX7_init, cX7_init, 1, none, 7) ∈ lw_tbl := ts_ch1 (List.mem_of_getElem? (i := 85) rfl)
theorem ts_cw5 : ts_cw (yX3_init, cX3_init, 1, none, 3) ∈ lw_tbl := ts_ch1 (List.mem_of_getElem? (i := 104) rfl)
theorem ts_cw6 : ts_cw (yX9_init, cX9_init, 1, none, 9) ∈ lw_tbl := ts_ch1 (List.mem_of_getElem? (i := 128) rfl)
theorem ts_cw7 : ts_cw (yX2_init, cX2_init, 2, none, 2) ∈ lw_tbl := ts_ch1 (List.mem_of_getElem? (i := 145) rfl)
theorem ts_cw8 : ts_cw (yX0_init, cX0_init, 1, none, 0) ∈ lw_tbl := ts_ch1 (List.mem_of_getElem? (i := 153) rfl)
theorem ts_cw9 : ts_cw (yX4_init, cX4_init, 2, none, 4) ∈ lw_tbl := ts_ch1 (List.mem_of_getElem? (i := 171) rfl)
theorem ts_cw10 : ts_cw (yX1_init, cX1_init, 2, none, 1) ∈ lw_tbl := ts_ch2 (List.mem_of_getElem? (i := 26) rfl)
theorem ts_cw11 : ts_cw (yX5_init, cX5_init, 1, none, 5) ∈ lw_tbl := ts_ch2 (List.mem_of_getElem? (i := 52) rfl)
theorem ts_cw12 : ts_cw (yX5_measureWays, cX5_measureWays, 5, none, 5) ∈ lw_tbl := ts_ch2 (List.mem_of_getElem? (i := 59) rfl)
theorem ts_cw13 : ts_cw (yX5_roadHours, cX5_roadHours, 3, (some .int), 5) ∈ lw_tbl := ts_ch2 (List.mem_of_getElem? (i := 63) rfl)
theorem ts_cw14 : ts_cw (yX5_hasOffice, cX5_hasOffice, 2, (some .boolean), 5) ∈ lw_tbl := ts_ch2 (List.mem_of_getElem? (i := 67) rfl)
theorem ts_cw15 : ts_cw (yX5_pair, cX5_pair, 2, (some .int), 5) ∈ lw_tbl := ts_ch2 (List.mem_of_getElem? (i := 70) rfl)
theorem ts_cw16 : ts_cw (yX11_numberIn, cX11_numberIn, 2, (some .int), 11) ∈ lw_tbl := ts_ch2 (List.mem_of_getElem? (i := 73) rfl)
theorem ts_cw17 : ts_cw (yX11_put, cX11_put, 3, none, 11) ∈ lw_tbl := ts_ch2 (List.mem_of_getElem? (i := 77) rfl)
theorem ts_cw18 : ts_cw (yX5_wayHours, cX5_wayHours, 3, (some .int), 5) ∈ lw_tbl := ts_ch2 (List.mem_of_getElem? (i := 81) rfl)
theorem ts_cw19 : ts_cw (yX5_writeDown, cX5_writeDown, 4, none, 5) ∈ lw_tbl := ts_ch2 (List.mem_of_getElem? (i := 88) rfl)
theorem ts_cw20 : ts_cw (yX10_cutTo, cX10_cutTo, 2, none, 10) ∈ lw_tbl := ts_ch2 (List.mem_of_getElem? (i := 92) rfl)
theorem ts_cw21 : ts_cw (yX5_countryOf, cX5_countryOf, 2, (some .int), 5) ∈ lw_tbl := ts_ch2 (List.mem_of_getElem? (i := 96) rfl)
theorem ts_cw22 : ts_cw (yX10_addNumber, cX10_addNumber, 2, none, 10) ∈ lw_tbl := ts_ch2 (List.mem_of_getElem? (i := 100) rfl)
theorem ts_cw23 : ts_cw (yX10_add, cX10_add, 2, none, 10) ∈ lw_tbl := ts_ch2 (List.mem_of_getElem? (i := 104) rfl)
theorem ts_cw24 : ts_cw (yX5_writeRoad, cX5_writeRoad, 4, none, 5) ∈ lw_tbl := ts_ch2 (List.mem_of_getElem? (i := 110) rfl)
theorem ts_cw25 : ts_cw (yX5_dutyOf, cX5_dutyOf, 2, (some .int), 5) ∈ lw_tbl := ts_ch2 (List.mem_of_getElem? (i := 114) rfl)
theorem ts_cw26 : ts_cw (yX11_sign, cX11_sign, 4, (some .int), 11) ∈ lw_tbl := ts_ch5 (List.mem_of_getElem? (i := 33) rfl)
theorem ts_cw27 : ts_cw (yX10_size, cX10_size, 1, (some .int), 10) ∈ lw_tbl := ts_ch3 (List.mem_of_getElem? (i := 7) rfl)
theorem ts_cw28 : ts_cw (yX11_end, cX11_end, 2, (some .boolean), 11) ∈ lw_tbl := ts_ch5 (List.mem_of_getElem? (i := 38) rfl)
theorem ts_cw29 : ts_cw (yX11_net, cX11_net, 2, (some .int), 11) ∈ lw_tbl := ts_ch2 (List.mem_of_getElem? (i := 178) rfl)
theorem ts_cw30 : ts_cw (yX5_readFrom, cX5_readFrom, 2, none, 5) ∈ lw_tbl := ts_ch2 (List.mem_of_getElem? (i := 182) rfl)
theorem ts_cw31 : ts_cw (yX6_begin, cX6_begin, 1, none, 6) ∈ lw_tbl := ts_ch2 (List.mem_of_getElem? (i := 186) rfl)
theorem ts_cw32 : ts_cw (yX5_clear, cX5_clear, 1, none, 5) ∈ lw_tbl := ts_ch2 (List.mem_of_getElem? (i := 190) rfl)
theorem ts_cw33 : ts_cw (yX11_wipe, cX11_wipe, 2, none, 11) ∈ lw_tbl := ts_ch2 (List.mem_of_getElem? (i := 193) rfl)
theorem ts_cw34 : ts_cw (yX5_readCountries, cX5_readCountries, 3, none, 5) ∈ lw_tbl := ts_ch2 (List.mem_of_getElem? (i := 197) rfl)
theorem ts_cw35 : ts_cw (yX6_digit, cX6_digit, 2, (some .int), 6) ∈ lw_tbl := ts_ch2 (List.mem_of_getElem? (i := 201) rfl)
theorem ts_cw36 : ts_cw (yX10_signAt, cX10_signAt, 2, (some .int), 10) ∈ lw_tbl := ts_ch2 (List.mem_of_getElem? (i := 205) rfl)
theorem ts_cw37 : ts_cw (yX6_number, cX6_number, 6, (some .int), 6) ∈ lw_tbl := ts_ch2 (List.mem_of_getElem? (i := 209) rfl)
theorem ts_cw38 : ts_cw (yX6_failed, cX6_failed, 1, (some .boolean), 6) ∈ lw_tbl := ts_ch2 (List.mem_of_getElem? (i := 213) rfl)
theorem ts_cw39 : ts_cw (yX6_refuseHere, cX6_refuseHere, 1, none, 6) ∈ lw_tbl := ts_ch2 (List.mem_of_getElem? (i := 218) rfl)
theorem ts_cw40 : ts_cw (yX11_digitsOf, cX11_digitsOf, 1, (some .int), 11) ∈ lw_tbl := ts_ch2 (List.mem_of_getElem? (i := 221) rfl)
theorem ts_cw41 : ts_cw (yX6_refuseLast, cX6_refuseLast, 1, none, 6) ∈ lw_tbl := ts_ch2 (List.mem_of_getElem? (i := 225) rfl)
theorem ts_cw42 : ts_cw (yX6_needs, cX6_needs, 2, none, 6) ∈ lw_tbl := ts_ch2 (List.mem_of_getElem? (i := 230) rfl)
theorem ts_cw43 : ts_cw (yX6_takes, cX6_takes, 2, (some .boolean), 6) ∈ lw_tbl := ts_ch2 (List.mem_of_getElem? (i := 234) rfl)
theorem ts_cw44 : ts_cw (yX5_readRoads, cX5_readRoads, 3, none, 5) ∈ lw_tbl := ts_ch2 (List.mem_of_getElem? (i := 238) rfl)
theorem ts_cw45 : ts_cw (yX6_atEnd, cX6_atEnd, 1, (some .boolean), 6) ∈ lw_tbl := ts_ch3 (List.mem_of_getElem? (i := 3) rfl)
theorem ts_cw46 : ts_cw (yX6_sees, cX6_sees, 2, (some .boolean), 6) ∈ lw_tbl := ts_ch3 (List.mem_of_getElem? (i := 11) rfl)
theorem ts_cw47 : ts_cw (yX5_readRoad, cX5_readRoad, 5, none, 5) ∈ lw_tbl := ts_ch3 (List.mem_of_getElem? (i := 15) rfl)
theorem ts_cw48 : ts_cw (yX5_join, cX5_join, 4, none, 5) ∈ lw_tbl := ts_ch3 (List.mem_of_getElem? (i := 20) rfl)
theorem ts_cw49 : ts_cw (yX5_near, cX5_near, 2, (some .int), 5) ∈ lw_tbl := ts_ch3 (List.mem_of_getElem? (i := 24) rfl)
theorem ts_cw50 : ts_cw (yX5_readDuties, cX5_readDuties, 3, none, 5) ∈ lw_tbl := ts_ch3 (List.mem_of_getElem? (i := 29) rfl)
theorem ts_cw51 : ts_cw (yX6_finish, cX6_finish, 1, none, 6) ∈ lw_tbl := ts_ch3 (List.mem_of_getElem? (i := 33) rfl)
theorem ts_cw52 : ts_cw (yX6_refusal, cX6_refusal, 1, (some .int), 6) ∈ lw_tbl := ts_ch3 (List.mem_of_getElem? (i := 40) rfl)
theorem ts_cw53 : ts_cw (yX2_clear, cX2_clear, 5, none, 2) ∈ lw_tbl := ts_ch3 (List.mem_of_getElem? (i := 44) rfl)
theorem ts_cw54 : ts_cw (yX0_clear, cX0_clear, 1, none, 0) ∈ lw_tbl := ts_ch3 (List.mem_of_getElem? (i := 48) rfl)
theorem ts_cw55 : ts_cw (yX1_clear, cX1_clear, 1, none, 1) ∈ lw_tbl := ts_ch3 (List.mem_of_getElem? (i := 52) rfl)
theorem ts_cw56 : ts_cw (yX8_clear, cX8_clear, 1, none, 8) ∈ lw_tbl := ts_ch3 (List.mem_of_getElem? (i := 56) rfl)
theorem ts_cw57 : ts_cw (yX5_pair, cX5_pair, 2, (some .int), 5) ∈ lw_tbl := ts_ch2 (List.mem_of_getElem? (i := 70) rfl)
theorem ts_cw58 : ts_cw (yX5_pair, cX5_pair, 2, (some .int), 5) ∈ lw_tbl := ts_ch2 (List.mem_of_getElem? (i := 70) rfl)
theorem ts_cw59 : ts_cw (yX5_pair, cX5_pair, 2, (some .int), 5) ∈ lw_tbl := ts_ch2 (List.mem_of_getElem? (i := 70) rfl)
theorem ts_cw60 : ts_cw (yJ6_bitCount_0f7a4, cJ6_bitCount_0f7a4, 1, (some .int), 13) ∈ lw_tbl := ts_ch4 (List.mem_of_getElem? (i := 57) rfl)
theorem ts_cw61 : ts_cw (yX5_pair, cX5_pair, 2, (some .int), 5) ∈ lw_tbl := ts_ch2 (List.mem_of_getElem? (i := 70) rfl)
theorem ts_cw62 : ts_cw (yX4_isUnderway, cX4_isUnderway, 1, (some .boolean), 4) ∈ lw_tbl := ts_ch3 (List.mem_of_getElem? (i := 230) rfl)
theorem ts_cw63 : ts_cw (yX4_seen, cX4_seen, 1, (some .int), 4) ∈ lw_tbl := ts_ch4 (List.mem_of_getElem? (i := 68) rfl)
theorem ts_cw64 : ts_cw (yX4_officeAt, cX4_officeAt, 2, (some .int), 4) ∈ lw_tbl := ts_ch3 (List.mem_of_getElem? (i := 238) rfl)
theorem ts_cw65 : ts_cw (yX4_bit, cX4_bit, 1, (some .int), 4) ∈ lw_tbl := ts_ch3 (List.mem_of_getElem? (i := 153) rfl)
theorem ts_cw66 : ts_cw (yX5_pair, cX5_pair, 2, (some .int), 5) ∈ lw_tbl := ts_ch2 (List.mem_of_getElem? (i := 70) rfl)
theorem ts_cw67 : ts_cw (yX5_pair, cX5_pair, 2, (some .int), 5) ∈ lw_tbl := ts_ch2 (List.mem_of_getElem? (i := 70) rfl)
theorem ts_cw68 : ts_cw (yX8_add, cX8_add, 2, none, 8) ∈ lw_tbl := ts_ch3 (List.mem_of_getElem? (i := 131) rfl)
theorem ts_cw69 : ts_cw (yX5_pair, cX5_pair, 2, (some .int), 5) ∈ lw_tbl := ts_ch2 (List.mem_of_getElem? (i := 70) rfl)
theorem ts_cw70 : ts_cw (yX5_pair, cX5_pair, 2, (some .int), 5) ∈ lw_tbl := ts_ch2 (List.mem_of_getElem? (i := 70) rfl)
theorem ts_cw71 : ts_cw (yX5_pair, cX5_pair, 2, (some .int), 5) ∈ lw_tbl := ts_ch2 (List.mem_of_getElem? (i := 70) rfl)
theorem ts_cw72 : ts_cw (yX5_pair, cX5_pair, 2, (some .int), 5) ∈ lw_tbl := ts_ch2 (List.mem_of_getElem? (i := 70) rfl)
theorem ts_cw73 : ts_cw (yX5_pair, cX5_pair, 2, (some .int), 5) ∈ lw_tbl := ts_ch2 (List.mem_of_getElem? (i := 70) rfl)
theorem ts_cw74 : ts_cw (yX11_tell_, cX11_tell_, 3, none, 11) ∈ lw_tbl := ts_ch3 (List.mem_of_getElem? (i := 123) rfl)
theorem ts_cw75 : ts_cw (yX11_tell, cX11_tell, 2, none, 11) ∈ lw_tbl := ts_ch3 (List.mem_of_getElem? (i := 127) rfl)
theorem ts_cw76 : ts_cw (yX5_pair, cX5_pair, 2, (some .int), 5) ∈ lw_tbl := ts_ch2 (List.mem_of_getElem? (i := 70) rfl)
theorem ts_cw77 : ts_cw (yX5_pair, cX5_pair, 2, (some .int), 5) ∈ lw_tbl := ts_ch2 (List.mem_of_getElem? (i := 70) rfl)
theorem ts_cw78 : ts_cw (yX11_trader, cX11_trader, 3, (some .int), 11) ∈ lw_tbl := ts_ch3 (List.mem_of_getElem? (i := 60) rfl)
theorem ts_cw79 : ts_cw (yX11_isSum, cX11_isSum, 1, (some .boolean), 11) ∈ lw_tbl := ts_ch3 (List.mem_of_getElem? (i := 63) rfl)
theorem ts_cw80 : ts_cw (yX11_isLevel, cX11_isLevel, 1, (some .boolean), 11) ∈ lw_tbl := ts_ch3 (List.mem_of_getElem? (i := 67) rfl)
theorem ts_cw81 : ts_cw (yX1_remember, cX1_remember, 3, none, 1) ∈ lw_tbl := ts_ch3 (List.mem_of_getElem? (i := 71) rfl)
theorem ts_cw82 : ts_cw (yX1_latestBefore, cX1_latestBefore, 1, (some (.object "TransitSeals$Ledger")), 1) ∈ lw_tbl := ts_ch3 (List.mem_of_getElem? (i := 76) rfl)
theorem ts_cw83 : ts_cw (yX2_copyFrom, cX2_copyFrom, 3, none, 2) ∈ lw_tbl := ts_ch3 (List.mem_of_getElem? (i := 80) rfl)
theorem ts_cw84 : ts_cw (yX11_copy, cX11_copy, 3, none, 11) ∈ lw_tbl := ts_ch3 (List.mem_of_getElem? (i := 83) rfl)
theorem ts_cw85 : ts_cw (yX4_copyFrom, cX4_copyFrom, 2, none, 4) ∈ lw_tbl := ts_ch3 (List.mem_of_getElem? (i := 87) rfl)
theorem ts_cw86 : ts_cw (yX0_copyFrom, cX0_copyFrom, 2, none, 0) ∈ lw_tbl := ts_ch3 (List.mem_of_getElem? (i := 92) rfl)
theorem ts_cw87 : ts_cw (yX2_addTrader, cX2_addTrader, 3, (some .int), 2) ∈ lw_tbl := ts_ch3 (List.mem_of_getElem? (i := 97) rfl)
theorem ts_cw88 : ts_cw (yX2_setTrader, cX2_setTrader, 4, none, 2) ∈ lw_tbl := ts_ch3 (List.mem_of_getElem? (i := 101) rfl)
theorem ts_cw89 : ts_cw (yX5_pair, cX5_pair, 2, (some .int), 5) ∈ lw_tbl := ts_ch2 (List.mem_of_getElem? (i := 70) rfl)
theorem ts_cw90 : ts_cw (yX2_hasTrader, cX2_hasTrader, 2, (some .boolean), 2) ∈ lw_tbl := ts_ch3 (List.mem_of_getElem? (i := 110) rfl)
theorem ts_cw91 : ts_cw (yX2_sharesOf, cX2_sharesOf, 7, (some .int), 2) ∈ lw_tbl := ts_ch3 (List.mem_of_getElem? (i := 141) rfl)
theorem ts_cw92 : ts_cw (yX4_isOpenFor, cX4_isOpenFor, 2, (some .boolean), 4) ∈ lw_tbl := ts_ch3 (List.mem_of_getElem? (i := 145) rfl)
theorem ts_cw93 : ts_cw (yX11_inUse, cX11_inUse, 2, (some .int), 11) ∈ lw_tbl := ts_ch3 (List.mem_of_getElem? (i := 106) rfl)
theorem ts_cw94 : ts_cw (yX2_sumOf, cX2_sumOf, 2, (some .int), 2) ∈ lw_tbl := ts_ch3 (List.mem_of_getElem? (i := 114) rfl)
theorem ts_cw95 : ts_cw (yX2_levelOf, cX2_levelOf, 2, (some .int), 2) ∈ lw_tbl := ts_ch3 (List.mem_of_getElem? (i := 119) rfl)
theorem ts_cw96 : ts_cw (yX2_freeOf, cX2_freeOf, 2, (some .int), 2) ∈ lw_tbl := ts_ch3 (List.mem_of_getElem? (i := 136) rfl)
theorem ts_cw97 : ts_cw (yX2_openOf, cX2_openOf, 7, (some .int), 2) ∈ lw_tbl := ts_ch3 (List.mem_of_getElem? (i := 149) rfl)
theorem ts_cw98 : ts_cw (yX11_owes, cX11_owes, 2, (some .int), 11) ∈ lw_tbl := ts_ch5 (List.mem_of_getElem? (i := 72) rfl)
theorem ts_cw99 : ts_cw (yX2_debtsOf, cX2_debtsOf, 8, (some .int), 2) ∈ lw_tbl := ts_ch5 (List.mem_of_getElem? (i := 76) rfl)
theorem ts_cw100 : ts_cw (yX11_starts, cX11_starts, 7, (some .int), 11) ∈ lw_tbl := ts_ch3 (List.mem_of_getElem? (i := 158) rfl)
theorem ts_cw101 : ts_cw (yX7_readFrom, cX7_readFrom, 7, none, 7) ∈ lw_tbl := ts_ch3 (List.mem_of_getElem? (i := 162) rfl)
theorem ts_cw102 : ts_cw (yX7_officeAt, cX7_officeAt, 2, (some .int), 7) ∈ lw_tbl := ts_ch3 (List.mem_of_getElem? (i := 168) rfl)
theorem ts_cw103 : ts_cw (yX5_hasGoods, cX5_hasGoods, 2, (some .boolean), 5) ∈ lw_tbl := ts_ch3 (List.mem_of_getElem? (i := 179) rfl)
theorem ts_cw104 : ts_cw (yX2_nextToStart, cX2_nextToStart, 1, (some (.object "TransitSeals$Movement")), 2) ∈ lw_tbl := ts_ch3 (List.mem_of_getElem? (i := 183) rfl)
theorem ts_cw105 : ts_cw (yX2_movementAt, cX2_movementAt, 2, (some (.object "TransitSeals$Movement")), 2) ∈ lw_tbl := ts_ch3 (List.mem_of_getElem? (i := 187) rfl)
theorem ts_cw106 : ts_cw (yX11_share, cX11_share, 3, (some .int), 11) ∈ lw_tbl := ts_ch3 (List.mem_of_getElem? (i := 191) rfl)
theorem ts_cw107 : ts_cw (yX11_partsOf, cX11_partsOf, 1, (some .int), 11) ∈ lw_tbl := ts_ch3 (List.mem_of_getElem? (i := 194) rfl)
theorem ts_cw108 : ts_cw (yX4_load, cX4_load, 6, none, 4) ∈ lw_tbl := ts_ch3 (List.mem_of_getElem? (i := 198) rfl)
theorem ts_cw109 : ts_cw (yX4_start, cX4_start, 4, none, 4) ∈ lw_tbl := ts_ch3 (List.mem_of_getElem? (i := 202) rfl)
theorem ts_cw110 : ts_cw (yX7_termFrom, cX7_termFrom, 2, (some .int), 7) ∈ lw_tbl := ts_ch3 (List.mem_of_getElem? (i := 208) rfl)
theorem ts_cw111 : ts_cw (yX2_write, cX2_write, 3, none, 2) ∈ lw_tbl := ts_ch3 (List.mem_of_getElem? (i := 212) rfl)
theorem ts_cw112 : ts_cw (yX0_add, cX0_add, 5, none, 0) ∈ lw_tbl := ts_ch3 (List.mem_of_getElem? (i := 216) rfl)
theorem ts_cw113 : ts_cw (yX11_stamps, cX11_stamps, 4, (some .int), 11) ∈ lw_tbl := ts_ch3 (List.mem_of_getElem? (i := 221) rfl)
theorem ts_cw114 : ts_cw (yX2_find, cX2_find, 2, (some (.object "TransitSeals$Movement")), 2) ∈ lw_tbl := ts_ch3 (List.mem_of_getElem? (i := 225) rfl)
theorem ts_cw115 : ts_cw (yX4_comesTo, cX4_comesTo, 1, (some .int), 4) ∈ lw_tbl := ts_ch3 (List.mem_of_getElem? (i := 234) rfl)
theorem ts_cw116 : ts_cw (yX4_stamp, cX4_stamp, 2, none, 4) ∈ lw_tbl := ts_ch4 (List.mem_of_getElem? (i := 3) rfl)
theorem ts_cw117 : ts_cw (yX11_breaks, cX11_breaks, 3, (some .int), 11) ∈ lw_tbl := ts_ch4 (List.mem_of_getElem? (i := 7) rfl)
theorem ts_cw118 : ts_cw (yX2_brokenSeals, cX2_brokenSeals, 6, (some .int), 2) ∈ lw_tbl := ts_ch4 (List.mem_of_getElem? (i := 11) rfl)
theorem ts_cw119 : ts_cw (yX11_controls, cX11_controls, 5, (some .int), 11) ∈ lw_tbl := ts_ch4 (List.mem_of_getElem? (i := 15) rfl)
theorem ts_cw120 : ts_cw (yX4_owe, cX4_owe, 2, none, 4) ∈ lw_tbl := ts_ch4 (List.mem_of_getElem? (i := 19) rfl)
theorem ts_cw121 : ts_cw (yX11_proves, cX11_proves, 4, (some .int), 11) ∈ lw_tbl := ts_ch4 (List.mem_of_getElem? (i := 23) rfl)
theorem ts_cw122 : ts_cw (yX4_step, cX4_step, 2, (some .int), 4) ∈ lw_tbl := ts_ch4 (List.mem_of_getElem? (i := 27) rfl)
theorem ts_cw123 : ts_cw (yX11_pays, cX11_pays, 3, (some .int), 11) ∈ lw_tbl := ts_ch4 (List.mem_of_getElem? (i := 31) rfl)
theorem ts_cw124 : ts_cw (yX11_hours, cX11_hours, 2, (some .int), 11) ∈ lw_tbl := ts_ch4 (List.mem_of_getElem? (i := 35) rfl)
theorem ts_cw125 : ts_cw (yX2_letPass, cX2_letPass, 6, (some .int), 2) ∈ lw_tbl := ts_ch4 (List.mem_of_getElem? (i := 40) rfl)
theorem ts_cw126 : ts_cw (yX2_firstToChange, cX2_firstToChange, 7, (some (.object "TransitSeals$Movement")), 2) ∈ lw_tbl := ts_ch4 (List.mem_of_getElem? (i := 44) rfl)
theorem ts_cw127 : ts_cw (yX4_changesAt, cX4_changesAt, 1, (some .int), 4) ∈ lw_tbl := ts_ch4 (List.mem_of_getElem? (i := 48) rfl)
theorem ts_cw128 : ts_cw (yX2_change, cX2_change, 3, none, 2) ∈ lw_tbl := ts_ch4 (List.mem_of_getElem? (i := 53) rfl)
theorem ts_cw129 : ts_cw (yX11_movement, cX11_movement, 4, (some .int), 11) ∈ lw_tbl := ts_ch4 (List.mem_of_getElem? (i := 64) rfl)
theorem ts_cw130 : ts_cw (yX11_stop, cX11_stop, 4, (some .int), 11) ∈ lw_tbl := ts_ch5 (List.mem_of_getElem? (i := 113) rfl)
theorem ts_cw131 : ts_cw (yX4_stampedAt, cX4_stampedAt, 2, (some .int), 4) ∈ lw_tbl := ts_ch5 (List.mem_of_getElem? (i := 58) rfl)
theorem ts_cw132 : ts_cw (yX11_left, cX11_left, 3, (some .int), 11) ∈ lw_tbl := ts_ch4 (List.mem_of_getElem? (i := 72) rfl)
theorem ts_cw133 : ts_cw (yX11_hoursToGo, cX11_hoursToGo, 4, (some .int), 11) ∈ lw_tbl := ts_ch4 (List.mem_of_getElem? (i := 76) rfl)
theorem ts_cw134 : ts_cw (yX5_pair, cX5_pair, 2, (some .int), 5) ∈ lw_tbl := ts_ch2 (List.mem_of_getElem? (i := 70) rfl)
theorem ts_cw135 : ts_cw (yX5_pair, cX5_pair, 2, (some .int), 5) ∈ lw_tbl := ts_ch2 (List.mem_of_getElem? (i := 70) rfl)
theorem ts_cw136 : ts_cw (yX5_pair, cX5_pair, 2, (some .int), 5) ∈ lw_tbl := ts_ch2 (List.mem_of_getElem? (i := 70) rfl)
theorem ts_cw137 : ts_cw (yX11_states, cX11_states, 8, (some .int), 11) ∈ lw_tbl := ts_ch4 (List.mem_of_getElem? (i := 82) rfl)
theorem ts_cw138 : ts_cw (yX11_owed, cX11_owed, 9, (some .int), 11) ∈ lw_tbl := ts_ch5 (List.mem_of_getElem? (i := 63) rfl)
theorem ts_cw139 : ts_cw (yX4_isIndebted, cX4_isIndebted, 1, (some .boolean), 4) ∈ lw_tbl := ts_ch5 (List.mem_of_getElem? (i := 67) rfl)
theorem ts_cw140 : ts_cw (yX11_late, cX11_late, 6, (some .int), 11) ∈ lw_tbl := ts_ch5 (List.mem_of_getElem? (i := 46) rfl)
theorem ts_cw141 : ts_cw (yX11_isLate, cX11_isLate, 2, (some .boolean), 11) ∈ lw_tbl := ts_ch5 (List.mem_of_getElem? (i := 50) rfl)
theorem ts_cw142 : ts_cw (yX11_hourOfArrival, cX11_hourOfArrival, 2, (some .int), 11) ∈ lw_tbl := ts_ch5 (List.mem_of_getElem? (i := 54) rfl)
theorem ts_cw143 : ts_cw (yX5_pair, cX5_pair, 2, (some .int), 5) ∈ lw_tbl := ts_ch2 (List.mem_of_getElem? (i := 70) rfl)
theorem ts_cw144 : ts_cw (yX5_pair, cX5_pair, 2, (some .int), 5) ∈ lw_tbl := ts_ch2 (List.mem_of_getElem? (i := 70) rfl)
theorem ts_cw145 : ts_cw (yX5_pair, cX5_pair, 2, (some .int), 5) ∈ lw_tbl := ts_ch2 (List.mem_of_getElem? (i := 70) rfl)
theorem ts_cw146 : ts_cw (yX5_pair, cX5_pair, 2, (some .int), 5) ∈ lw_tbl := ts_ch2 (List.mem_of_getElem? (i := 70) rfl)
theorem ts_cw147 : ts_cw (yX11_can, cX11_can, 6, (some .int), 11) ∈ lw_tbl := ts_ch4 (List.mem_of_getElem? (i := 88) rfl)
theorem ts_cw148 : ts_cw (yX11_frees, cX11_frees, 6, (some .int), 11) ∈ lw_tbl := ts_ch5 (List.mem_of_getElem? (i := 80) rfl)
theorem ts_cw149 : ts_cw (yX11_fewestFreeing, cX11_fewestFreeing, 4, (some .int), 11) ∈ lw_tbl := ts_ch5 (List.mem_of_getElem? (i := 84) rfl)
theorem ts_cw150 : ts_cw (yX2_greatestShares, cX2_greatestShares, 11, (some .int), 2) ∈ lw_tbl := ts_ch5 (List.mem_of_getElem? (i := 88) rfl)
theorem ts_cw151 : ts_cw (yX11_leastBitsFreeing, cX11_leastBitsFreeing, 10, (some .int), 11) ∈ lw_tbl := ts_ch5 (List.mem_of_getElem? (i := 92) rfl)
theorem ts_cw152 : ts_cw (yX11_when, cX11_when, 10, (some .int), 11) ∈ lw_tbl := ts_ch5 (List.mem_of_getElem? (i := 96) rfl)
theorem ts_cw153 : ts_cw (yX11_closingHour, cX11_closingHour, 3, (some .int), 11) ∈ lw_tbl := ts_ch5 (List.mem_of_getElem? (i := 102) rfl)
theorem ts_cw154 : ts_cw (yX11_freedUntil, cX11_freedUntil, 8, (some .int), 11) ∈ lw_tbl := ts_ch5 (List.mem_of_getElem? (i := 109) rfl)
theorem ts_cw155 : ts_cw (yX5_pair, cX5_pair, 2, (some .int), 5) ∈ lw_tbl := ts_ch2 (List.mem_of_getElem? (i := 70) rfl)
theorem ts_cw156 : ts_cw (yX5_pair, cX5_pair, 2, (some .int), 5) ∈ lw_tbl := ts_ch2 (List.mem_of_getElem? (i := 70) rfl)
theorem ts_cw157 : ts_cw (yX5_pair, cX5_pair, 2, (some .int), 5) ∈ lw_tbl := ts_ch2 (List.mem_of_getElem? (i := 70) rfl)
theorem ts_cw158 : ts_cw (yX5_pair, cX5_pair, 2, (some .int), 5) ∈ lw_tbl := ts_ch2 (List.mem_of_getElem? (i := 70) rfl)
theorem ts_cw159 : ts_cw (yX5_pair, cX5_pair, 2, (some .int), 5) ∈ lw_tbl := ts_ch2 (List.mem_of_getElem? (i := 70) rfl)
theorem ts_cw160 : ts_cw (yX11_detour, cX11_detour, 1, (some .int), 11) ∈ lw_tbl := ts_ch4 (List.mem_of_getElem? (i := 93) rfl)
theorem ts_cw161 : ts_cw (yX5_pair, cX5_pair, 2, (some .int), 5) ∈ lw_tbl := ts_ch2 (List.mem_of_getElem? (i := 70) rfl)
theorem ts_cw162 : ts_cw (yX5_pair, cX5_pair, 2, (some .int), 5) ∈ lw_tbl := ts_ch2 (List.mem_of_getElem? (i := 70) rfl)
theorem ts_cw163 : ts_cw (yX11_book, cX11_book, 3, (some .int), 11) ∈ lw_tbl := ts_ch4 (List.mem_of_getElem? (i := 100) rfl)
theorem ts_cw164 : ts_cw (yX0_read, cX0_read, 4, (some .int), 0) ∈ lw_tbl := ts_ch4 (List.mem_of_getElem? (i := 104) rfl)
theorem ts_cw165 : ts_cw (yX0_size, cX0_size, 1, (some .int), 0) ∈ lw_tbl := ts_ch4 (List.mem_of_getElem? (i := 108) rfl)
theorem ts_cw166 : ts_cw (yX5_pair, cX5_pair, 2, (some .int), 5) ∈ lw_tbl := ts_ch2 (List.mem_of_getElem? (i := 70) rfl)
theorem ts_cw167 : ts_cw (yX11_undo, cX11_undo, 1, (some .int), 11) ∈ lw_tbl := ts_ch4 (List.mem_of_getElem? (i := 114) rfl)
theorem ts_cw168 : ts_cw (yX1_takeBack, cX1_takeBack, 3, (some .boolean), 1) ∈ lw_tbl := ts_ch4 (List.mem_of_getElem? (i := 118) rfl)
theorem ts_cw169 : ts_cw (yX11_keeps, cX11_keeps, 1, (some .int), 11) ∈ lw_tbl := ts_ch4 (List.mem_of_getElem? (i := 122) rfl)
theorem ts_cw170 : ts_cw (yX1_keep, cX1_keep, 2, none, 1) ∈ lw_tbl := ts_ch4 (List.mem_of_getElem? (i := 126) rfl)
theorem ts_cw171 : ts_cw (yX11_back, cX11_back, 1, (some .int), 11) ∈ lw_tbl := ts_ch4 (List.mem_of_getElem? (i := 130) rfl)
theorem ts_cw172 : ts_cw (yX1_bringBack, cX1_bringBack, 2, (some .boolean), 1) ∈ lw_tbl := ts_ch4 (List.mem_of_getElem? (i := 134) rfl)
theorem ts_cw173 : ts_cw (yX11_count, cX11_count, 2, (some .int), 11) ∈ lw_tbl := ts_ch4 (List.mem_of_getElem? (i := 139) rfl)
theorem ts_cw174 : ts_cw (yX8_size, cX8_size, 1, (some .int), 8) ∈ lw_tbl := ts_ch4 (List.mem_of_getElem? (i := 144) rfl)
theorem ts_cw175 : ts_cw (yX11_row, cX11_row, 2, (some .long), 11) ∈ lw_tbl := ts_ch4 (List.mem_of_getElem? (i := 149) rfl)
theorem ts_cw176 : ts_cw (yX8_numberAt, cX8_numberAt, 2, (some .int), 8) ∈ lw_tbl := ts_ch4 (List.mem_of_getElem? (i := 214) rfl)
theorem ts_cw177 : ts_cw (yL_holds, cL_holds, 20, (some .boolean), 14) ∈ lw_tbl := ts_ch5 (List.mem_of_getElem? (i := 42) rfl)
def ts_mL_0 : List ts_Y := [
  (yX11_init, cX11_init, 1, none, 11),
  (yX6_init, cX6_init, 1, none, 6),
  (yX10_init, cX10_init, 1, none, 10),
  (yX8_init, cX8_init, 1, none, 8),
  (yX7_init, cX7_init, 1, none, 7),
  (yX3_init, cX3_init, 1, none, 3),
  (yX9_init, cX9_init, 1, none, 9),
  (yX2_init, cX2_init, 2, none, 2),
  (yX0_init, cX0_init, 1, none, 0),
  (yX4_init, cX4_init, 2, none, 4),
  (yX1_init, cX1_init, 2, none, 1),
  (yX5_init, cX5_init, 1, none, 5),
  (yX5_measureWays, cX5_measureWays, 5, none, 5),
  (yX5_roadHours, cX5_roadHours, 3, (some .int), 5),
  (yX5_hasOffice, cX5_hasOffice, 2, (some .boolean), 5),
  (yX5_pair, cX5_pair, 2, (some .int), 5)]
theorem ts_cwg0 : ∀ q ∈ ts_mL_0, ts_cw q ∈ lw_tbl := List.forall_mem_cons.mpr ⟨ts_cw0, List.forall_mem_cons.mpr ⟨ts_cw1, List.forall_mem_cons.mpr ⟨ts_cw2, List.forall_mem_cons.mpr ⟨ts_cw3, List.forall_mem_cons.mpr ⟨ts_cw4, List.forall_mem_cons.mpr ⟨ts_cw5, List.forall_mem_cons.mpr ⟨ts_cw6, List.forall_mem_cons.mpr ⟨ts_cw7, List.forall_mem_cons.mpr ⟨ts_cw8, List.forall_mem_cons.mpr ⟨ts_cw9, List.forall_mem_cons.mpr ⟨ts_cw10, List.forall_mem_cons.mpr ⟨ts_cw11, List.forall_mem_cons.mpr ⟨ts_cw12, List.forall_mem_cons.mpr ⟨ts_cw13, List.forall_mem_cons.mpr ⟨ts_cw14, List.forall_mem_cons.mpr ⟨ts_cw15, List.forall_mem_nil _⟩⟩⟩⟩⟩⟩⟩⟩⟩⟩⟩⟩⟩⟩⟩⟩
def ts_mL_1 : List ts_Y := [
  (yX11_numberIn, cX11_numberIn, 2, (some .int), 11),
  (yX11_put, cX11_put, 3, none, 11),
  (yX5_wayHours, cX5_wayHours, 3, (some .int), 5),
  (yX5_writeDown, cX5_writeDown, 4, none, 5),
  (yX10_cutTo, cX10_cutTo, 2, none, 10),
  (yX5_countryOf, cX5_countryOf, 2, (some .int), 5),
  (yX10_addNumber, cX10_addNumber, 2, none, 10),
  (yX10_add, cX10_add, 2, none, 10),
  (yX5_writeRoad, cX5_writeRoad, 4, none, 5),
  (yX5_dutyOf, cX5_dutyOf, 2, (some .int), 5),
  (yX11_sign, cX11_sign, 4, (some .int), 11),
  (yX10_size, cX10_size, 1, (some .int), 10),
  (yX11_end, cX11_end, 2, (some .boolean), 11),
  (yX11_net, cX11_net, 2, (some .int), 11),
  (yX5_readFrom, cX5_readFrom, 2, none, 5),
  (yX6_begin, cX6_begin, 1, none, 6)]
theorem ts_cwg1 : ∀ q ∈ ts_mL_1, ts_cw q ∈ lw_tbl := List.forall_mem_cons.mpr ⟨ts_cw16, List.forall_mem_cons.mpr ⟨ts_cw17, List.forall_mem_cons.mpr ⟨ts_cw18, List.forall_mem_cons.mpr ⟨ts_cw19, List.forall_mem_cons.mpr ⟨ts_cw20, List.forall_mem_cons.mpr ⟨ts_cw21, List.forall_mem_cons.mpr ⟨ts_cw22, List.forall_mem_cons.mpr ⟨ts_cw23, List.forall_mem_cons.mpr ⟨ts_cw24, List.forall_mem_cons.mpr ⟨ts_cw25, List.forall_mem_cons.mpr ⟨ts_cw26, List.forall_mem_cons.mpr ⟨ts_cw27, List.forall_mem_cons.mpr ⟨ts_cw28, List.forall_mem_cons.mpr ⟨ts_cw29, List.forall_mem_cons.mpr ⟨ts_cw30, List.forall_mem_cons.mpr ⟨ts_cw31, List.forall_mem_nil _⟩⟩⟩⟩⟩⟩⟩⟩⟩⟩⟩⟩⟩⟩⟩⟩
def ts_mL_2 : List ts_Y := [
  (yX5_clear, cX5_clear, 1, none, 5),
  (yX11_wipe, cX11_wipe, 2, none, 11),
  (yX5_readCountries, cX5_readCountries, 3, none, 5),
  (yX6_digit, cX6_digit, 2, (some .int), 6),
  (yX10_signAt, cX10_signAt, 2, (some .int), 10),
  (yX6_number, cX6_number, 6, (some .int), 6),
  (yX6_failed, cX6_failed, 1, (some .boolean), 6),
  (yX6_refuseHere, cX6_refuseHere, 1, none, 6),
  (yX11_digitsOf, cX11_digitsOf, 1, (some .int), 11),
  (yX6_refuseLast, cX6_refuseLast, 1, none, 6),
  (yX6_needs, cX6_needs, 2, none, 6),
  (yX6_takes, cX6_takes, 2, (some .boolean), 6),
  (yX5_readRoads, cX5_readRoads, 3, none, 5),
  (yX6_atEnd, cX6_atEnd, 1, (some .boolean), 6),
  (yX6_sees, cX6_sees, 2, (some .boolean), 6),
  (yX5_readRoad, cX5_readRoad, 5, none, 5)]
theorem ts_cwg2 : ∀ q ∈ ts_mL_2, ts_cw q ∈ lw_tbl := List.forall_mem_cons.mpr ⟨ts_cw32, List.forall_mem_cons.mpr ⟨ts_cw33, List.forall_mem_cons.mpr ⟨ts_cw34, List.forall_mem_cons.mpr ⟨ts_cw35, List.forall_mem_cons.mpr ⟨ts_cw36, List.forall_mem_cons.mpr ⟨ts_cw37, List.forall_mem_cons.mpr ⟨ts_cw38, List.forall_mem_cons.mpr ⟨ts_cw39, List.forall_mem_cons.mpr ⟨ts_cw40, List.forall_mem_cons.mpr ⟨ts_cw41, List.forall_mem_cons.mpr ⟨ts_cw42, List.forall_mem_cons.mpr ⟨ts_cw43, List.forall_mem_cons.mpr ⟨ts_cw44, List.forall_mem_cons.mpr ⟨ts_cw45, List.forall_mem_cons.mpr ⟨ts_cw46, List.forall_mem_cons.mpr ⟨ts_cw47, List.forall_mem_nil _⟩⟩⟩⟩⟩⟩⟩⟩⟩⟩⟩⟩⟩⟩⟩⟩
def ts_mL_3 : List ts_Y := [
  (yX5_join, cX5_join, 4, none, 5),
  (yX5_near, cX5_near, 2, (some .int), 5),
  (yX5_readDuties, cX5_readDuties, 3, none, 5),
  (yX6_finish, cX6_finish, 1, none, 6),
  (yX6_refusal, cX6_refusal, 1, (some .int), 6),
  (yX2_clear, cX2_clear, 5, none, 2),
  (yX0_clear, cX0_clear, 1, none, 0),
  (yX1_clear, cX1_clear, 1, none, 1),
  (yX8_clear, cX8_clear, 1, none, 8),
  (yX5_pair, cX5_pair, 2, (some .int), 5),
  (yX5_pair, cX5_pair, 2, (some .int), 5),
  (yX5_pair, cX5_pair, 2, (some .int), 5),
  (yJ6_bitCount_0f7a4, cJ6_bitCount_0f7a4, 1, (some .int), 13),
  (yX5_pair, cX5_pair, 2, (some .int), 5),
  (yX4_isUnderway, cX4_isUnderway, 1, (some .boolean), 4),
  (yX4_seen, cX4_seen, 1, (some .int), 4)]
theorem ts_cwg3 : ∀ q ∈ ts_mL_3, ts_cw q ∈ lw_tbl := List.forall_mem_cons.mpr ⟨ts_cw48, List.forall_mem_cons.mpr ⟨ts_cw49, List.forall_mem_cons.mpr ⟨ts_cw50, List.forall_mem_cons.mpr ⟨ts_cw51, List.forall_mem_cons.mpr ⟨ts_cw52, List.forall_mem_cons.mpr ⟨ts_cw53, List.forall_mem_cons.mpr ⟨ts_cw54, List.forall_mem_cons.mpr ⟨ts_cw55, List.forall_mem_cons.mpr ⟨ts_cw56, List.forall_mem_cons.mpr ⟨ts_cw57, List.forall_mem_cons.mpr ⟨ts_cw58, List.forall_mem_cons.mpr ⟨ts_cw59, List.forall_mem_cons.mpr ⟨ts_cw60, List.forall_mem_cons.mpr ⟨ts_cw61, List.forall_mem_cons.mpr ⟨ts_cw62, List.forall_mem_cons.mpr ⟨ts_cw63, List.forall_mem_nil _⟩⟩⟩⟩⟩⟩⟩⟩⟩⟩⟩⟩⟩⟩⟩⟩
def ts_mL_4 : List ts_Y := [
  (yX4_officeAt, cX4_officeAt, 2, (some .int), 4),
  (yX4_bit, cX4_bit, 1, (some .int), 4),
  (yX5_pair, cX5_pair, 2, (some .int), 5),
  (yX5_pair, cX5_pair, 2, (some .int), 5),
  (yX8_add, cX8_add, 2, none, 8),
  (yX5_pair, cX5_pair, 2, (some .int), 5),
  (yX5_pair, cX5_pair, 2, (some .int), 5),
  (yX5_pair, cX5_pair, 2, (some .int), 5),
  (yX5_pair, cX5_pair, 2, (some .int), 5),
  (yX5_pair, cX5_pair, 2, (some .int), 5),
  (yX11_tell_, cX11_tell_, 3, none, 11),
  (yX11_tell, cX11_tell, 2, none, 11),
  (yX5_pair, cX5_pair, 2, (some .int), 5),
  (yX5_pair, cX5_pair, 2, (some .int), 5),
  (yX11_trader, cX11_trader, 3, (some .int), 11),
  (yX11_isSum, cX11_isSum, 1, (some .boolean), 11)]
theorem ts_cwg4 : ∀ q ∈ ts_mL_4, ts_cw q ∈ lw_tbl := List.forall_mem_cons.mpr ⟨ts_cw64, List.forall_mem_cons.mpr ⟨ts_cw65, List.forall_mem_cons.mpr ⟨ts_cw66, List.forall_mem_cons.mpr ⟨ts_cw67, List.forall_mem_cons.mpr ⟨ts_cw68, List.forall_mem_cons.mpr ⟨ts_cw69, List.forall_mem_cons.mpr ⟨ts_cw70, List.forall_mem_cons.mpr ⟨ts_cw71, List.forall_mem_cons.mpr ⟨ts_cw72, List.forall_mem_cons.mpr ⟨ts_cw73, List.forall_mem_cons.mpr ⟨ts_cw74, List.forall_mem_cons.mpr ⟨ts_cw75, List.forall_mem_cons.mpr ⟨ts_cw76, List.forall_mem_cons.mpr ⟨ts_cw77, List.forall_mem_cons.mpr ⟨ts_cw78, List.forall_mem_cons.mpr ⟨ts_cw79, List.forall_mem_nil _⟩⟩⟩⟩⟩⟩⟩⟩⟩⟩⟩⟩⟩⟩⟩⟩
def ts_mL_5 : List ts_Y := [
  (yX11_isLevel, cX11_isLevel, 1, (some .boolean), 11),
  (yX1_remember, cX1_remember, 3, none, 1),
  (yX1_latestBefore, cX1_latestBefore, 1, (some (.object "TransitSeals$Ledger")), 1),
  (yX2_copyFrom, cX2_copyFrom, 3, none, 2),
  (yX11_copy, cX11_copy, 3, none, 11),
  (yX4_copyFrom, cX4_copyFrom, 2, none, 4),
  (yX0_copyFrom, cX0_copyFrom, 2, none, 0),
  (yX2_addTrader, cX2_addTrader, 3, (some .int), 2),
  (yX2_setTrader, cX2_setTrader, 4, none, 2),
  (yX5_pair, cX5_pair, 2, (some .int), 5),
  (yX2_hasTrader, cX2_hasTrader, 2, (some .boolean), 2),
  (yX2_sharesOf, cX2_sharesOf, 7, (some .int), 2),
  (yX4_isOpenFor, cX4_isOpenFor, 2, (some .boolean), 4),
  (yX11_inUse, cX11_inUse, 2, (some .int), 11),
  (yX2_sumOf, cX2_sumOf, 2, (some .int), 2),
  (yX2_levelOf, cX2_levelOf, 2, (some .int), 2)]
theorem ts_cwg5 : ∀ q ∈ ts_mL_5, ts_cw q ∈ lw_tbl := List.forall_mem_cons.mpr ⟨ts_cw80, List.forall_mem_cons.mpr ⟨ts_cw81, List.forall_mem_cons.mpr ⟨ts_cw82, List.forall_mem_cons.mpr ⟨ts_cw83, List.forall_mem_cons.mpr ⟨ts_cw84, List.forall_mem_cons.mpr ⟨ts_cw85, List.forall_mem_cons.mpr ⟨ts_cw86, List.forall_mem_cons.mpr ⟨ts_cw87, List.forall_mem_cons.mpr ⟨ts_cw88, List.forall_mem_cons.mpr ⟨ts_cw89, List.forall_mem_cons.mpr ⟨ts_cw90, List.forall_mem_cons.mpr ⟨ts_cw91, List.forall_mem_cons.mpr ⟨ts_cw92, List.forall_mem_cons.mpr ⟨ts_cw93, List.forall_mem_cons.mpr ⟨ts_cw94, List.forall_mem_cons.mpr ⟨ts_cw95, List.forall_mem_nil _⟩⟩⟩⟩⟩⟩⟩⟩⟩⟩⟩⟩⟩⟩⟩⟩
def ts_mL_6 : List ts_Y := [
  (yX2_freeOf, cX2_freeOf, 2, (some .int), 2),
  (yX2_openOf, cX2_openOf, 7, (some .int), 2),
  (yX11_owes, cX11_owes, 2, (some .int), 11),
  (yX2_debtsOf, cX2_debtsOf, 8, (some .int), 2),
  (yX11_starts, cX11_starts, 7, (some .int), 11),
  (yX7_readFrom, cX7_readFrom, 7, none, 7),
  (yX7_officeAt, cX7_officeAt, 2, (some .int), 7),
  (yX5_hasGoods, cX5_hasGoods, 2, (some .boolean), 5),
  (yX2_nextToStart, cX2_nextToStart, 1, (some (.object "TransitSeals$Movement")), 2),
  (yX2_movementAt, cX2_movementAt, 2, (some (.object "TransitSeals$Movement")), 2),
  (yX11_share, cX11_share, 3, (some .int), 11),
  (yX11_partsOf, cX11_partsOf, 1, (some .int), 11),
  (yX4_load, cX4_load, 6, none, 4),
  (yX4_start, cX4_start, 4, none, 4),
  (yX7_termFrom, cX7_termFrom, 2, (some .int), 7),
  (yX2_write, cX2_write, 3, none, 2)]
theorem ts_cwg6 : ∀ q ∈ ts_mL_6, ts_cw q ∈ lw_tbl := List.forall_mem_cons.mpr ⟨ts_cw96, List.forall_mem_cons.mpr ⟨ts_cw97, List.forall_mem_cons.mpr ⟨ts_cw98, List.forall_mem_cons.mpr ⟨ts_cw99, List.forall_mem_cons.mpr ⟨ts_cw100, List.forall_mem_cons.mpr ⟨ts_cw101, List.forall_mem_cons.mpr ⟨ts_cw102, List.forall_mem_cons.mpr ⟨ts_cw103, List.forall_mem_cons.mpr ⟨ts_cw104, List.forall_mem_cons.mpr ⟨ts_cw105, List.forall_mem_cons.mpr ⟨ts_cw106, List.forall_mem_cons.mpr ⟨ts_cw107, List.forall_mem_cons.mpr ⟨ts_cw108, List.forall_mem_cons.mpr ⟨ts_cw109, List.forall_mem_cons.mpr ⟨ts_cw110, List.forall_mem_cons.mpr ⟨ts_cw111, List.forall_mem_nil _⟩⟩⟩⟩⟩⟩⟩⟩⟩⟩⟩⟩⟩⟩⟩⟩
def ts_mL_7 : List ts_Y := [
  (yX0_add, cX0_add, 5, none, 0),
  (yX11_stamps, cX11_stamps, 4, (some .int), 11),
  (yX2_find, cX2_find, 2, (some (.object "TransitSeals$Movement")), 2),
  (yX4_comesTo, cX4_comesTo, 1, (some .int), 4),
  (yX4_stamp, cX4_stamp, 2, none, 4),
  (yX11_breaks, cX11_breaks, 3, (some .int), 11),
  (yX2_brokenSeals, cX2_brokenSeals, 6, (some .int), 2),
  (yX11_controls, cX11_controls, 5, (some .int), 11),
  (yX4_owe, cX4_owe, 2, none, 4),
  (yX11_proves, cX11_proves, 4, (some .int), 11),
  (yX4_step, cX4_step, 2, (some .int), 4),
  (yX11_pays, cX11_pays, 3, (some .int), 11),
  (yX11_hours, cX11_hours, 2, (some .int), 11),
  (yX2_letPass, cX2_letPass, 6, (some .int), 2),
  (yX2_firstToChange, cX2_firstToChange, 7, (some (.object "TransitSeals$Movement")), 2),
  (yX4_changesAt, cX4_changesAt, 1, (some .int), 4)]
theorem ts_cwg7 : ∀ q ∈ ts_mL_7, ts_cw q ∈ lw_tbl := List.forall_mem_cons.mpr ⟨ts_cw112, List.forall_mem_cons.mpr ⟨ts_cw113, List.forall_mem_cons.mpr ⟨ts_cw114, List.forall_mem_cons.mpr ⟨ts_cw115, List.forall_mem_cons.mpr ⟨ts_cw116, List.forall_mem_cons.mpr ⟨ts_cw117, List.forall_mem_cons.mpr ⟨ts_cw118, List.forall_mem_cons.mpr ⟨ts_cw119, List.forall_mem_cons.mpr ⟨ts_cw120, List.forall_mem_cons.mpr ⟨ts_cw121, List.forall_mem_cons.mpr ⟨ts_cw122, List.forall_mem_cons.mpr ⟨ts_cw123, List.forall_mem_cons.mpr ⟨ts_cw124, List.forall_mem_cons.mpr ⟨ts_cw125, List.forall_mem_cons.mpr ⟨ts_cw126, List.forall_mem_cons.mpr ⟨ts_cw127, List.forall_mem_nil _⟩⟩⟩⟩⟩⟩⟩⟩⟩⟩⟩⟩⟩⟩⟩⟩
def ts_mL_8 : List ts_Y := [
  (yX2_change, cX2_change, 3, none, 2),
  (yX11_movement, cX11_movement, 4, (some .int), 11),
  (yX11_stop, cX11_stop, 4, (some .int), 11),
  (yX4_stampedAt, cX4_stampedAt, 2, (some .int), 4),
  (yX11_left, cX11_left, 3, (some .int), 11),
  (yX11_hoursToGo, cX11_hoursToGo, 4, (some .int), 11),
  (yX5_pair, cX5_pair, 2, (some .int), 5),
  (yX5_pair, cX5_pair, 2, (some .int), 5),
  (yX5_pair, cX5_pair, 2, (some .int), 5),
  (yX11_states, cX11_states, 8, (some .int), 11),
  (yX11_owed, cX11_owed, 9, (some .int), 11),
  (yX4_isIndebted, cX4_isIndebted, 1, (some .boolean), 4),
  (yX11_late, cX11_late, 6, (some .int), 11),
  (yX11_isLate, cX11_isLate, 2, (some .boolean), 11),
  (yX11_hourOfArrival, cX11_hourOfArrival, 2, (some .int), 11),
  (yX5_pair, cX5_pair, 2, (some .int), 5)]
theorem ts_cwg8 : ∀ q ∈ ts_mL_8, ts_cw q ∈ lw_tbl := List.forall_mem_cons.mpr ⟨ts_cw128, List.forall_mem_cons.mpr ⟨ts_cw129, List.forall_mem_cons.mpr ⟨ts_cw130, List.forall_mem_cons.mpr ⟨ts_cw131, List.forall_mem_cons.mpr ⟨ts_cw132, List.forall_mem_cons.mpr ⟨ts_cw133, List.forall_mem_cons.mpr ⟨ts_cw134, List.forall_mem_cons.mpr ⟨ts_cw135, List.forall_mem_cons.mpr ⟨ts_cw136, List.forall_mem_cons.mpr ⟨ts_cw137, List.forall_mem_cons.mpr ⟨ts_cw138, List.forall_mem_cons.mpr ⟨ts_cw139, List.forall_mem_cons.mpr ⟨ts_cw140, List.forall_mem_cons.mpr ⟨ts_cw141, List.forall_mem_cons.mpr ⟨ts_cw142, List.forall_mem_cons.mpr ⟨ts_cw143, List.forall_mem_nil _⟩⟩⟩⟩⟩⟩⟩⟩⟩⟩⟩⟩⟩⟩⟩⟩
def ts_mL_9 : List ts_Y := [
  (yX5_pair, cX5_pair, 2, (some .int), 5),
  (yX5_pair, cX5_pair, 2, (some .int), 5),
  (yX5_pair, cX5_pair, 2, (some .int), 5),
  (yX11_can, cX11_can, 6, (some .int), 11),
  (yX11_frees, cX11_frees, 6, (some .int), 11),
  (yX11_fewestFreeing, cX11_fewestFreeing, 4, (some .int), 11),
  (yX2_greatestShares, cX2_greatestShares, 11, (some .int), 2),
  (yX11_leastBitsFreeing, cX11_leastBitsFreeing, 10, (some .int), 11),
  (yX11_when, cX11_when, 10, (some .int), 11),
  (yX11_closingHour, cX11_closingHour, 3, (some .int), 11),
  (yX11_freedUntil, cX11_freedUntil, 8, (some .int), 11),
  (yX5_pair, cX5_pair, 2, (some .int), 5),
  (yX5_pair, cX5_pair, 2, (some .int), 5),
  (yX5_pair, cX5_pair, 2, (some .int), 5),
  (yX5_pair, cX5_pair, 2, (some .int), 5),
  (yX5_pair, cX5_pair, 2, (some .int), 5)]
theorem ts_cwg9 : ∀ q ∈ ts_mL_9, ts_cw q ∈ lw_tbl := List.forall_mem_cons.mpr ⟨ts_cw144, List.forall_mem_cons.mpr ⟨ts_cw145, List.forall_mem_cons.mpr ⟨ts_cw146, List.forall_mem_cons.mpr ⟨ts_cw147, List.forall_mem_cons.mpr ⟨ts_cw148, List.forall_mem_cons.mpr ⟨ts_cw149, List.forall_mem_cons.mpr ⟨ts_cw150, List.forall_mem_cons.mpr ⟨ts_cw151, List.forall_mem_cons.mpr ⟨ts_cw152, List.forall_mem_cons.mpr ⟨ts_cw153, List.forall_mem_cons.mpr ⟨ts_cw154, List.forall_mem_cons.mpr ⟨ts_cw155, List.forall_mem_cons.mpr ⟨ts_cw156, List.forall_mem_cons.mpr ⟨ts_cw157, List.forall_mem_cons.mpr ⟨ts_cw158, List.forall_mem_cons.mpr ⟨ts_cw159, List.forall_mem_nil _⟩⟩⟩⟩⟩⟩⟩⟩⟩⟩⟩⟩⟩⟩⟩⟩
def ts_mL_10 : List ts_Y := [
  (yX11_detour, cX11_detour, 1, (some .int), 11),
  (yX5_pair, cX5_pair, 2, (some .int), 5),
  (yX5_pair, cX5_pair, 2, (some .int), 5),
  (yX11_book, cX11_book, 3, (some .int), 11),
  (yX0_read, cX0_read, 4, (some .int), 0),
  (yX0_size, cX0_size, 1, (some .int), 0),
  (yX5_pair, cX5_pair, 2, (some .int), 5),
  (yX11_undo, cX11_undo, 1, (some .int), 11),
  (yX1_takeBack, cX1_takeBack, 3, (some .boolean), 1),
  (yX11_keeps, cX11_keeps, 1, (some .int), 11),
  (yX1_keep, cX1_keep, 2, none, 1),
  (yX11_back, cX11_back, 1, (some .int), 11),
  (yX1_bringBack, cX1_bringBack, 2, (some .boolean), 1),
  (yX11_count, cX11_count, 2, (some .int), 11),
  (yX8_size, cX8_size, 1, (some .int), 8),
  (yX11_row, cX11_row, 2, (some .long), 11)]
theorem ts_cwg10 : ∀ q ∈ ts_mL_10, ts_cw q ∈ lw_tbl := List.forall_mem_cons.mpr ⟨ts_cw160, List.forall_mem_cons.mpr ⟨ts_cw161, List.forall_mem_cons.mpr ⟨ts_cw162, List.forall_mem_cons.mpr ⟨ts_cw163, List.forall_mem_cons.mpr ⟨ts_cw164, List.forall_mem_cons.mpr ⟨ts_cw165, List.forall_mem_cons.mpr ⟨ts_cw166, List.forall_mem_cons.mpr ⟨ts_cw167, List.forall_mem_cons.mpr ⟨ts_cw168, List.forall_mem_cons.mpr ⟨ts_cw169, List.forall_mem_cons.mpr ⟨ts_cw170, List.forall_mem_cons.mpr ⟨ts_cw171, List.forall_mem_cons.mpr ⟨ts_cw172, List.forall_mem_cons.mpr ⟨ts_cw173, List.forall_mem_cons.mpr ⟨ts_cw174, List.forall_mem_cons.mpr ⟨ts_cw175, List.forall_mem_nil _⟩⟩⟩⟩⟩⟩⟩⟩⟩⟩⟩⟩⟩⟩⟩⟩
def ts_mL_11 : List ts_Y := [
  (yX8_numberAt, cX8_numberAt, 2, (some .int), 8),
  (yL_holds, cL_holds, 20, (some .boolean), 14)]
theorem ts_cwg11 : ∀ q ∈ ts_mL_11, ts_cw q ∈ lw_tbl := List.forall_mem_cons.mpr ⟨ts_cw176, List.forall_mem_cons.mpr ⟨ts_cw177, List.forall_mem_nil _⟩⟩
/-- the methods: name, bytes, locals, what they answer, their class -/
def ts_mL : List ts_Y := ts_mL_0 ++ (ts_mL_1 ++ (ts_mL_2 ++ (ts_mL_3 ++ (ts_mL_4 ++ (ts_mL_5 ++ (ts_mL_6 ++ (ts_mL_7 ++ (ts_mL_8 ++ (ts_mL_9 ++ (ts_mL_10 ++ (ts_mL_11)))))))))))
theorem ts_wm_in : ∀ q ∈ ts_mL, ts_cw q ∈ lw_tbl := List.forall_mem_append.mpr ⟨ts_cwg0, List.forall_mem_append.mpr ⟨ts_cwg1, List.forall_mem_append.mpr ⟨ts_cwg2, List.forall_mem_append.mpr ⟨ts_cwg3, List.forall_mem_append.mpr ⟨ts_cwg4, List.forall_mem_append.mpr ⟨ts_cwg5, List.forall_mem_append.mpr ⟨ts_cwg6, List.forall_mem_append.mpr ⟨ts_cwg7, List.forall_mem_append.mpr ⟨ts_cwg8, List.forall_mem_append.mpr ⟨ts_cwg9, List.forall_mem_append.mpr ⟨ts_cwg10, ts_cwg11⟩⟩⟩⟩⟩⟩⟩⟩⟩⟩⟩
/-- fields by owner and place in its pool: class, slot -/
def ts_fL : List (Nat × Nat × Nat × Nat) := [(10, 9, 10, 0), (10, 15, 10, 1), (6, 12, 6, 0), (11, 68, 6, 0), (6, 22, 6, 1), (6, 18, 6, 2), (8, 9, 8, 0), (8, 15, 8, 1), (7, 9, 7, 0), (7, 15, 7, 1), (4, 64, 7, 1), (11, 376, 7, 1), (7, 23, 7, 2), (11, 369, 7, 2), (3, 9, 3, 0), (3, 15, 3, 1), (3, 18, 3, 2), (0, 9, 0, 0), (0, 15, 0, 1), (0, 18, 0, 2), (0, 21, 0, 3), (4, 22, 4, 0), (11, 237, 4, 0), (2, 118, 4, 0), (4, 25, 4, 1), (2, 91, 4, 1), (11, 288, 4, 1), (4, 52, 4, 2), (11, 272, 4, 2), (4, 55, 4, 3), (11, 266, 4, 3), (4, 58, 4, 4), (11, 291, 4, 4), (2, 138, 4, 4), (2, 84, 4, 5), (4, 61, 4, 5), (11, 294, 4, 5), (4, 48, 4, 6), (11, 296, 4, 6), (4, 9, 4, 7), (2, 44, 4, 7), (11, 269, 4, 7), (4, 28, 4, 8), (11, 253, 4, 8), (4, 35, 4, 9), (11, 256, 4, 9), (2, 94, 4, 10), (4, 75, 4, 10), (11, 278, 4, 10), (2, 97, 4, 11), (4, 78, 4, 11), (11, 259, 4, 11), (4, 15, 4, 12), (4, 19, 4, 13), (2, 9, 2, 0), (2, 15, 2, 1), (2, 20, 2, 2), (11, 315, 2, 2), (2, 27, 2, 3), (11, 377, 2, 3), (2, 34, 2, 4), (11, 223, 2, 4), (2, 38, 2, 5), (11, 165, 2, 5), (2, 41, 2, 6), (11, 230, 2, 6), (1, 11, 1, 0), (1, 18, 1, 1), (1, 26, 1, 2), (1, 30, 1, 3), (1, 22, 1, 4), (11, 396, 1, 4), (5, 9, 5, 0), (5, 15, 5, 1), (5, 18, 5, 2), (5, 21, 5, 3), (5, 24, 5, 4), (5, 30, 5, 5), (5, 34, 5, 6), (7, 31, 5, 6), (11, 101, 5, 6), (5, 93, 5, 7), (11, 405, 5, 7), (5, 44, 5, 8), (11, 408, 5, 8), (11, 10, 11, 0), (11, 19, 11, 1), (11, 26, 11, 2), (11, 33, 11, 3), (11, 40, 11, 4), (11, 47, 11, 5), (11, 54, 11, 6), (11, 61, 11, 7), (11, 65, 11, 8)]
/-- calls by owner and place: method, parameters, 0 virtual 1 static 2 constructor, 1 where the link is a nest mate's -/
def ts_cL : List (Nat × Nat × Nat × Nat × Nat × Nat) := [(14, 73, 0, 0, 2, 0), (11, 9, 1, 0, 2, 1), (6, 11, 2, 0, 2, 1), (11, 18, 3, 0, 2, 1), (11, 25, 4, 0, 2, 1), (11, 32, 5, 0, 2, 1), (11, 39, 6, 0, 2, 1), (11, 46, 7, 0, 2, 0), (2, 26, 8, 0, 2, 1), (2, 31, 9, 1, 2, 0), (11, 53, 10, 0, 2, 0), (1, 17, 7, 0, 2, 0), (11, 60, 11, 0, 2, 0), (5, 29, 2, 0, 2, 1), (5, 38, 12, 0, 0, 0), (5, 131, 13, 2, 0, 0), (5, 59, 14, 1, 0, 0), (5, 63, 15, 2, 1, 0), (5, 47, 16, 2, 1, 1), (5, 107, 17, 3, 1, 1), (5, 140, 18, 2, 0, 0), (5, 41, 19, 0, 0, 0), (5, 147, 20, 1, 0, 0), (5, 151, 21, 1, 0, 0), (5, 154, 22, 1, 0, 0), (10, 23, 23, 1, 0, 0), (10, 19, 17, 3, 1, 1), (5, 157, 23, 1, 0, 0), (5, 160, 24, 3, 0, 0), (5, 164, 25, 1, 0, 0), (14, 118, 29, 0, 0, 0), (11, 85, 30, 1, 0, 0), (5, 68, 31, 0, 0, 0), (5, 73, 32, 0, 0, 0), (5, 96, 33, 1, 1, 1), (5, 76, 34, 1, 0, 0), (5, 100, 35, 0, 0, 0), (6, 29, 36, 1, 0, 0), (5, 104, 37, 2, 0, 0), (6, 48, 38, 0, 0, 0), (6, 51, 35, 0, 0, 0), (6, 37, 39, 0, 0, 0), (6, 54, 40, 1, 1, 1), (6, 57, 41, 0, 0, 0), (5, 111, 39, 0, 0, 0), (5, 114, 42, 1, 0, 0), (6, 33, 43, 1, 0, 0), (5, 80, 44, 1, 0, 0), (5, 89, 38, 0, 0, 0), (5, 118, 45, 0, 0, 0), (6, 25, 27, 0, 0, 0), (5, 121, 46, 1, 0, 0), (5, 125, 47, 1, 0, 0), (5, 133, 41, 0, 0, 0), (5, 136, 48, 3, 0, 0), (5, 51, 49, 1, 0, 0), (5, 128, 43, 1, 0, 0), (5, 83, 50, 1, 0, 0), (5, 86, 51, 0, 0, 0), (6, 40, 45, 0, 0, 0), (6, 44, 20, 1, 0, 0), (11, 89, 38, 0, 0, 0), (11, 93, 52, 0, 0, 0), (11, 96, 53, 0, 0, 0), (2, 47, 54, 0, 0, 0), (11, 99, 55, 0, 0, 0), (11, 100, 56, 0, 0, 0), (14, 121, 78, 2, 0, 0), (11, 159, 79, 1, 1, 0), (11, 162, 80, 1, 1, 0), (11, 168, 81, 1, 0, 0), (1, 39, 82, 0, 0, 0), (1, 43, 83, 1, 0, 0), (2, 50, 84, 2, 1, 1), (2, 54, 85, 1, 0, 0), (4, 82, 84, 2, 1, 1), (2, 58, 86, 1, 0, 0), (0, 43, 84, 2, 1, 1), (11, 172, 87, 2, 0, 0), (2, 61, 88, 3, 0, 0), (2, 65, 17, 3, 1, 1), (14, 48, 93, 1, 0, 0), (11, 175, 90, 1, 0, 0), (11, 185, 94, 1, 0, 0), (2, 69, 16, 2, 1, 1), (11, 188, 95, 1, 0, 0), (11, 144, 74, 2, 0, 0), (11, 157, 75, 1, 0, 0), (11, 194, 68, 1, 0, 0), (8, 19, 17, 3, 1, 1), (11, 191, 96, 1, 0, 0), (2, 73, 94, 1, 0, 0), (2, 77, 91, 1, 0, 0), (2, 80, 92, 1, 0, 0), (11, 195, 97, 1, 0, 0), (2, 87, 65, 0, 0, 0), (11, 178, 91, 1, 0, 0), (14, 130, 100, 3, 0, 0), (11, 201, 101, 2, 0, 0), (7, 26, 31, 0, 0, 0), (7, 35, 37, 2, 0, 0), (7, 39, 102, 1, 0, 0), (7, 19, 16, 2, 1, 1), (7, 43, 13, 2, 0, 0), (7, 46, 41, 0, 0, 0), (7, 49, 17, 3, 1, 1), (7, 53, 43, 1, 0, 0), (7, 57, 39, 0, 0, 0), (7, 60, 51, 0, 0, 0), (11, 204, 103, 1, 0, 0), (11, 207, 104, 0, 0, 0), (2, 114, 105, 1, 0, 0), (11, 211, 25, 1, 0, 0), (11, 214, 106, 2, 1, 0), (11, 335, 107, 1, 1, 0), (11, 217, 108, 5, 0, 0), (11, 226, 109, 2, 0, 0), (4, 67, 102, 1, 0, 0), (4, 68, 17, 3, 1, 1), (4, 72, 110, 1, 0, 0), (11, 233, 111, 2, 0, 0), (2, 121, 112, 3, 0, 0), (0, 31, 17, 3, 1, 1), (14, 137, 113, 2, 0, 0), (11, 240, 114, 1, 0, 0), (11, 105, 14, 1, 0, 0), (11, 244, 62, 0, 0, 0), (11, 247, 115, 0, 0, 0), (4, 38, 64, 1, 0, 0), (4, 31, 16, 2, 1, 1), (11, 250, 116, 1, 0, 0), (14, 140, 117, 1, 0, 0), (11, 263, 118, 0, 0, 0), (14, 143, 119, 2, 0, 0), (11, 275, 120, 1, 0, 0), (14, 146, 121, 1, 0, 0), (11, 281, 122, 1, 0, 0), (14, 149, 123, 1, 0, 0), (14, 152, 124, 1, 0, 0), (11, 285, 125, 1, 0, 0), (2, 124, 126, 1, 0, 0), (2, 135, 127, 0, 0, 0), (2, 127, 128, 1, 0, 0), (2, 141, 120, 1, 0, 0), (2, 130, 60, 1, 1, 0), (14, 64, 129, 2, 0, 0), (11, 299, 63, 0, 0, 0), (14, 70, 132, 1, 0, 0), (11, 308, 133, 1, 0, 0), (11, 302, 64, 1, 0, 0), (11, 109, 13, 2, 0, 0), (14, 33, 137, 1, 0, 0), (11, 319, 65, 0, 0, 0), (11, 152, 60, 1, 1, 0), (14, 54, 147, 2, 0, 0), (14, 127, 160, 0, 0, 0), (11, 372, 110, 1, 0, 0), (11, 375, 102, 1, 0, 0), (11, 123, 18, 2, 0, 0), (14, 134, 163, 2, 0, 0), (11, 381, 164, 2, 0, 0), (0, 35, 165, 0, 0, 0), (0, 39, 16, 2, 1, 1), (14, 162, 167, 0, 0, 0), (11, 392, 168, 1, 0, 0), (14, 159, 169, 0, 0, 0), (11, 399, 170, 1, 0, 0), (14, 165, 171, 0, 0, 0), (11, 402, 172, 1, 0, 0), (1, 47, 81, 1, 0, 0), (14, 27, 173, 1, 0, 0), (11, 409, 165, 0, 0, 0), (11, 410, 174, 0, 0, 0), (11, 72, 27, 0, 0, 0), (14, 36, 175, 1, 0, 0), (11, 414, 176, 1, 0, 0), (8, 23, 16, 2, 1, 1), (14, 17, 26, 1, 0, 0), (11, 78, 23, 1, 0, 0), (14, 23, 28, 1, 0, 0), (11, 82, 20, 1, 0, 0), (14, 155, 177, 2, 1, 0), (14, 30, 140, 0, 0, 0), (11, 325, 141, 1, 0, 0), (11, 417, 142, 1, 0, 0), (11, 305, 131, 1, 0, 0), (14, 40, 60, 1, 1, 0), (14, 45, 138, 1, 0, 0), (11, 322, 139, 0, 0, 0), (11, 113, 21, 1, 0, 0), (14, 51, 98, 1, 0, 0), (11, 198, 99, 2, 0, 0), (14, 58, 148, 2, 0, 0), (11, 343, 149, 2, 0, 0), (11, 423, 150, 2, 0, 0), (11, 346, 151, 3, 0, 0), (14, 61, 152, 2, 0, 0), (11, 329, 92, 1, 0, 0), (11, 350, 153, 1, 0, 0), (11, 353, 154, 2, 0, 0), (14, 67, 130, 2, 0, 0)]
def ts_oL : List (Nat × Nat) := [(11, 1), (6, 3), (10, 3), (8, 3), (7, 3), (3, 3), (9, 3), (2, 3), (0, 3), (4, 3), (1, 3), (5, 3)]
def ts_nL : List (Nat × Nat) := [(5, 142), (1, 33), (11, 338), (0, 25), (14, 87)]
def ts_xL : List (Nat × Nat) := [(11, 420), (14, 101)]
def ts_iL : List (Nat × Nat × Int32) := [(5, 67, 1000000), (11, 426, 999999), (11, 284, 99999), (4, 51, 1000000), (13, 265, 1431655765), (13, 266, 858993459), (13, 267, 252645135), (11, 126, 1000000)]
def ts_jL : List (Nat × Nat × Int64) := []
def ts_kL : List (Nat × Nat × Nat) := [(14, 18, 11), (11, 7, 6), (6, 9, 10), (11, 16, 8), (11, 23, 7), (11, 30, 3), (11, 37, 9), (11, 44, 2), (2, 18, 4), (2, 24, 0), (11, 51, 1), (1, 9, 2), (11, 58, 5), (5, 27, 10)]
/-! their words, and where they stand -/
def ts_wf : List Cond := ts_fL.map fun e => Cond.fieldLink (ts_cn e.1) e.2.1 (ts_T e.2.2.1 e.2.2.2).1 (ts_T e.2.2.1 e.2.2.2).2.1 (ts_T e.2.2.1 e.2.2.2).2.2.1
set_option maxRecDepth 100000 in
theorem ts_wf_at : ts_wf.map some = ([72, 73, 80, 81, 82, 83, 97, 98, 110, 111, 112, 113, 114, 115, 129, 130, 131, 178, 179, 180, 181, 196, 197, 198, 199, 200, 201, 202, 203, 204, 205, 206, 207, 208, 209, 210, 211, 212, 213, 214, 215, 216, 217, 218, 219, 220, 221, 222, 223, 224, 225, 226, 227, 228, 258, 259, 260, 261, 262, 263, 264, 265, 266, 267, 268, 269, 294, 295, 296, 297, 298, 299, 378, 379, 380, 381, 382, 383, 384, 385, 386, 387, 388, 389, 390, 410, 411, 412, 413, 414, 415, 416, 417, 418] : List Nat).map (fun i => lw_tbl[i]?) := by decide +kernel
def ts_wi : List Cond := ts_mL.map fun q => Cond.initialized q.1.cls
set_option maxRecDepth 100000 in
theorem ts_wi_at : ts_wi.map some = ([24, 25, 26, 27, 28, 29, 30, 31, 32, 33, 34, 35, 35, 35, 35, 35, 24, 24, 35, 35, 26, 35, 26, 26, 35, 35, 24, 26, 24, 24, 35, 25, 35, 24, 35, 25, 26, 25, 25, 25, 24, 25, 25, 25, 35, 25, 25, 35, 35, 35, 35, 25, 25, 31, 32, 34, 27, 35, 35, 35, 47, 35, 33, 33, 33, 33, 35, 35, 27, 35, 35, 35, 35, 35, 24, 24, 35, 35, 24, 24, 24, 34, 34, 31, 24, 33, 32, 31, 31, 35, 31, 31, 33, 24, 31, 31, 31, 31, 24, 31, 24, 28, 28, 35, 31, 31, 24, 24, 33, 33, 28, 31, 32, 24, 31, 33, 33, 24, 31, 24, 33, 24, 33, 24, 24, 31, 31, 33, 31, 24, 24, 33, 24, 24, 35, 35, 35, 24, 24, 33, 24, 24, 24, 35, 35, 35, 35, 24, 24, 24, 31, 24, 24, 24, 24, 35, 35, 35, 35, 35, 24, 35, 35, 24, 32, 32, 35, 24, 34, 24, 34, 24, 34, 24, 27, 24, 27, 23] : List Nat).map (fun i => lw_tbl[i]?) := by decide +kernel
def ts_st (q : ts_Y) : Bool := match q.1 with
  | ⟨"TransitSeals", "copy", "([I[I)V"⟩ => true
  | ⟨"TransitSeals", "digitsOf", "(I)I"⟩ => true
  | ⟨"TransitSeals", "isLevel", "(I)Z"⟩ => true
  | ⟨"TransitSeals", "isSum", "(I)Z"⟩ => true
  | ⟨"TransitSeals", "numberIn", "([II)I"⟩ => true
  | ⟨"TransitSeals", "partsOf", "(I)I"⟩ => true
  | ⟨"TransitSeals", "put", "([III)V"⟩ => true
  | ⟨"TransitSeals", "share", "(II)I"⟩ => true
  | ⟨"TransitSeals", "wipe", "([I)V"⟩ => true
  | ⟨"TransitSeals$Net", "pair", "(II)I"⟩ => true
  | ⟨"TransitSealsLaw", "holds", "(LTransitSeals;I)Z"⟩ => true
  | ⟨"java/lang/Integer", "bitCount", "(I)I"⟩ => true
  | _ => false
def ts_wk : List Cond := ts_mL.map fun q => if ts_st q then Cond.static q.1 else Cond.instanceMethod q.1
set_option maxRecDepth 100000 in
theorem ts_wk_at : ts_wk.map some = ([55, 63, 69, 94, 107, 126, 150, 167, 175, 193, 288, 314, 321, 324, 328, 332, 335, 339, 342, 350, 353, 357, 361, 365, 372, 375, 1014, 508, 1019, 439, 443, 447, 452, 455, 459, 462, 466, 470, 474, 479, 483, 486, 491, 495, 500, 504, 512, 517, 522, 525, 531, 534, 541, 545, 549, 553, 557, 332, 332, 332, 799, 332, 731, 809, 739, 654, 332, 332, 632, 332, 332, 332, 332, 332, 625, 629, 332, 332, 561, 565, 569, 572, 578, 581, 585, 588, 593, 598, 602, 332, 611, 642, 646, 607, 615, 620, 637, 650, 1053, 1057, 659, 663, 669, 680, 684, 689, 693, 696, 699, 703, 709, 713, 717, 722, 726, 735, 744, 748, 752, 756, 760, 764, 768, 772, 776, 781, 786, 789, 795, 805, 1094, 1039, 813, 818, 332, 332, 332, 823, 1044, 1048, 1027, 1032, 1036, 332, 332, 332, 332, 829, 1061, 1066, 1069, 1074, 1077, 1084, 1091, 332, 332, 332, 332, 332, 834, 332, 332, 841, 845, 849, 332, 855, 859, 863, 867, 871, 875, 880, 885, 890, 955, 1024] : List Nat).map (fun i => lw_tbl[i]?) := by decide +kernel
def ts_vL : List Nat := [12, 13, 14, 18, 19, 20, 21, 22, 23, 24, 25, 26, 27, 28, 29, 30, 31, 32, 34, 35, 36, 37, 38, 39, 41, 42, 43, 44, 45, 46, 47, 48, 49, 50, 51, 52, 53, 54, 55, 56, 62, 63, 64, 65, 68, 74, 75, 78, 81, 82, 83, 85, 86, 87, 88, 90, 91, 92, 93, 94, 95, 96, 97, 98, 99, 100, 101, 102, 103, 104, 105, 108, 109, 110, 111, 112, 113, 114, 115, 116, 117, 118, 119, 120, 121, 122, 123, 124, 125, 126, 127, 128, 129, 130, 131, 132, 133, 137, 138, 139, 140, 141, 142, 147, 148, 149, 150, 151, 152, 153, 154, 160, 163, 164, 165, 167, 168, 169, 170, 171, 172, 173, 174, 175, 176]
def ts_wv : List Cond := ts_vL.map fun k => match ts_mL[k]? with | some q => Cond.selects q.1.cls q.1 q.1 | none => Cond.tt
set_option maxRecDepth 100000 in
theorem ts_wv_at : ts_wv.map some = ([0, 325, 329, 343, 1, 354, 358, 362, 366, 2, 376, 1015, 509, 1020, 440, 444, 448, 3, 4, 463, 467, 471, 475, 480, 487, 492, 496, 5, 505, 513, 6, 7, 526, 8, 535, 542, 546, 550, 554, 558, 732, 810, 740, 655, 633, 10, 11, 562, 573, 9, 582, 589, 594, 599, 603, 612, 643, 647, 608, 616, 621, 638, 651, 1054, 1058, 660, 664, 670, 681, 685, 12, 700, 704, 710, 714, 718, 723, 727, 736, 745, 749, 753, 757, 761, 765, 769, 773, 777, 782, 13, 790, 14, 806, 1095, 1040, 814, 15, 824, 1045, 1049, 1028, 17, 18, 830, 1062, 19, 1070, 20, 1078, 21, 22, 835, 842, 846, 850, 856, 860, 864, 868, 872, 876, 881, 886, 891, 956] : List Nat).map (fun i => lw_tbl[i]?) := by decide +kernel
def ts_wc : List Cond := (ts_cL.filter fun e => e.2.2.2.2.2 == 0).map fun e => match ts_mL[e.2.2.1]? with | some q => Cond.methodLink (ts_cn e.1) e.2.1 q.1 | none => Cond.tt
set_option maxRecDepth 100000 in
theorem ts_wc_at : ts_wc.map some = ([54, 166, 192, 287, 293, 313, 319, 323, 327, 331, 341, 348, 352, 356, 360, 364, 369, 370, 374, 438, 442, 446, 450, 457, 461, 465, 469, 473, 477, 478, 485, 489, 490, 494, 498, 502, 503, 507, 511, 515, 519, 520, 524, 528, 529, 533, 537, 538, 539, 540, 544, 548, 552, 556, 560, 564, 568, 571, 576, 580, 587, 592, 597, 601, 606, 610, 614, 619, 623, 627, 631, 636, 640, 641, 645, 649, 653, 657, 658, 662, 666, 667, 668, 673, 674, 676, 677, 678, 679, 683, 687, 691, 692, 695, 698, 702, 706, 708, 712, 716, 721, 725, 729, 730, 734, 738, 743, 747, 751, 755, 759, 763, 767, 771, 775, 780, 784, 788, 793, 797, 798, 804, 808, 812, 816, 820, 821, 822, 826, 827, 828, 833, 837, 838, 839, 840, 844, 848, 854, 858, 862, 866, 870, 874, 878, 879, 883, 884, 888, 889, 954, 1013, 1017, 1018, 1022, 1023, 1026, 1030, 1034, 1038, 1042, 1043, 1047, 1051, 1052, 1056, 1060, 1064, 1068, 1072, 1076, 1081, 1082, 1089, 1093] : List Nat).map (fun i => lw_tbl[i]?) := by decide +kernel
def ts_wn : List Cond := (ts_cL.filter fun e => e.2.2.2.2.2 == 1).map fun e => match ts_mL[e.2.2.1]? with | some q => Cond.methodLinkNest (ts_cn e.1) e.2.1 q.1 RX11 | none => Cond.tt
set_option maxRecDepth 100000 in
theorem ts_wn_at : ts_wn.map some = ([62, 68, 93, 106, 125, 149, 174, 318, 334, 338, 368, 454, 482, 584, 591, 596, 605, 618, 635, 672, 675, 707, 720, 742, 853, 958] : List Nat).map (fun i => lw_tbl[i]?) := by decide +kernel
def ts_wo : List Cond := ts_oL.map fun e => Cond.methodLink (ts_cn e.1) e.2 objectInit
set_option maxRecDepth 100000 in
theorem ts_wo_at : ts_wo.map some = ([57, 65, 71, 96, 109, 128, 152, 169, 177, 195, 290, 316] : List Nat).map (fun i => lw_tbl[i]?) := by decide +kernel
def ts_wo2 : List Cond := [Cond.instanceMethod objectInit, Cond.code objectInit ⟨#[0xb1]⟩ 1 none]
set_option maxRecDepth 100000 in
theorem ts_wo2_at : ts_wo2.map some = ([58, 59] : List Nat).map (fun i => lw_tbl[i]?) := by decide +kernel
def ts_wx : List Cond := ts_xL.map fun e => Cond.methodLink (ts_cn e.1) e.2 Lib.Math.max.name
set_option maxRecDepth 100000 in
theorem ts_wx_at : ts_wx.map some = ([1086, 1097] : List Nat).map (fun i => lw_tbl[i]?) := by decide +kernel
def ts_wy : List Cond := ts_nL.map fun e => Cond.methodLink (ts_cn e.1) e.2 Lib.Math.min.name
set_option maxRecDepth 100000 in
theorem ts_wy_at : ts_wy.map some = ([345, 575, 832, 852, 1098] : List Nat).map (fun i => lw_tbl[i]?) := by decide +kernel
def ts_wz : List Cond := [Cond.static Lib.Math.max.name, Cond.code Lib.Math.max.name Lib.Math.max.code 2 (some .int), Cond.static Lib.Math.min.name, Cond.code Lib.Math.min.name Lib.Math.min.code 2 (some .int), Cond.initialized "java/lang/Math"]
set_option maxRecDepth 100000 in
theorem ts_wz_at : ts_wz.map some = ([1087, 1088, 346, 347, 36] : List Nat).map (fun i => lw_tbl[i]?) := by decide +kernel
def ts_wI : List Cond := ts_iL.map fun e => Cond.constant (ts_cn e.1) e.2.1 e.2.2
set_option maxRecDepth 100000 in
theorem ts_wI_at : ts_wI.map some = ([337, 567, 779, 792, 801, 802, 803, 1080] : List Nat).map (fun i => lw_tbl[i]?) := by decide +kernel
def ts_wJ : List Cond := ts_jL.map fun e => Cond.constantLong (ts_cn e.1) e.2.1 e.2.2
set_option maxRecDepth 100000 in
theorem ts_wJ_at : ts_wJ.map some = ([] : List Nat).map (fun i => lw_tbl[i]?) := by decide +kernel
def ts_wK : List Cond := ts_kL.map fun e => Cond.classLink (ts_cn e.1) e.2.1 (ts_cn e.2.2)
set_option maxRecDepth 100000 in
theorem ts_wK_at : ts_wK.map some = ([52, 60, 66, 91, 104, 123, 147, 164, 170, 172, 285, 291, 311, 317] : List Nat).map (fun i => lw_tbl[i]?) := by decide +kernel
def ts_wL : List Cond := (List.range 12).map fun c => Cond.instantiable (ts_cn c) (ts_N c)
set_option maxRecDepth 100000 in
theorem ts_wL_at : ts_wL.map some = ([173, 286, 165, 124, 191, 312, 61, 105, 92, 148, 67, 53] : List Nat).map (fun i => lw_tbl[i]?) := by decide +kernel
def ts_wM : List Cond := (List.range 12).map fun c => Cond.initialized (ts_cn c)
set_option maxRecDepth 100000 in
theorem ts_wM_at : ts_wM.map some = ([32, 34, 31, 29, 33, 35, 25, 28, 27, 30, 26, 24] : List Nat).map (fun i => lw_tbl[i]?) := by decide +kernel
def ts_wA : List Cond := [Cond.arrayClass .int, Cond.arrayClass .byte, Cond.arrayOver (.object RX4), Cond.arrayOver (.object RX2)]
set_option maxRecDepth 100000 in
theorem ts_wA_at : ts_wA.map some = ([79, 1129, 171, 292] : List Nat).map (fun i => lw_tbl[i]?) := by decide +kernel
def ts_wl : List Cond := (List.range 12).flatMap fun c => u_ws (ts_cn c) (ts_T c) (ts_N c)
set_option maxRecDepth 100000 in
theorem ts_wl_at : ts_wl.map some = ([182, 184, 186, 188, 300, 302, 304, 306, 308, 270, 272, 274, 276, 278, 280, 282, 132, 134, 136, 138, 140, 142, 144, 229, 231, 233, 235, 237, 239, 241, 243, 245, 247, 249, 251, 253, 255, 391, 393, 395, 397, 399, 401, 403, 405, 407, 84, 86, 88, 116, 118, 120, 99, 101, 153, 155, 157, 159, 161, 74, 76, 419, 421, 423, 425, 427, 429, 431, 433, 435] : List Nat).map (fun i => lw_tbl[i]?) := by decide +kernel
