-- ===== PART A: goes FIRST, ahead of the names: the tables' words, and 'selects' of the private methods out of them =====
/-- a private method of a class that the tables say can be made, by its rows of tables_1 -/
def lw_okq (q : MethodName × Nat) : Prop := (q.1.cls ≠ "java/lang/invoke/MethodHandle" ∧ q.1.cls ≠ "java/lang/invoke/VarHandle") ∧ Cond.instantiable q.1.cls q.2 ∈ tables_1 ∧ Cond.privateMethod q.1 ∈ tables_1 ∧ Cond.instanceMethod q.1 ∈ tables_1
theorem lw_p0 : lw_okq (⟨"RankRings", "findWinners", "()V"⟩, 11) := ⟨⟨by decide +kernel, by decide +kernel⟩, List.mem_of_getElem? (i := 8) (by decide +kernel), List.mem_of_getElem? (i := 136) (by decide +kernel), List.mem_of_getElem? (i := 137) (by decide +kernel)⟩
theorem lw_p1 : lw_okq (⟨"RankRings", "winnerFrom", "(I)I"⟩, 11) := ⟨⟨by decide +kernel, by decide +kernel⟩, List.mem_of_getElem? (i := 8) (by decide +kernel), List.mem_of_getElem? (i := 164) (by decide +kernel), List.mem_of_getElem? (i := 165) (by decide +kernel)⟩
theorem lw_p2 : lw_okq (⟨"RankRings", "findChoices", "()V"⟩, 11) := ⟨⟨by decide +kernel, by decide +kernel⟩, List.mem_of_getElem? (i := 8) (by decide +kernel), List.mem_of_getElem? (i := 169) (by decide +kernel), List.mem_of_getElem? (i := 170) (by decide +kernel)⟩
theorem lw_p3 : lw_okq (⟨"RankRings", "settle", "(I)I"⟩, 11) := ⟨⟨by decide +kernel, by decide +kernel⟩, List.mem_of_getElem? (i := 8) (by decide +kernel), List.mem_of_getElem? (i := 177) (by decide +kernel), List.mem_of_getElem? (i := 178) (by decide +kernel)⟩
theorem lw_p4 : lw_okq (⟨"RankRings", "winsOf", "(I)I"⟩, 11) := ⟨⟨by decide +kernel, by decide +kernel⟩, List.mem_of_getElem? (i := 8) (by decide +kernel), List.mem_of_getElem? (i := 181) (by decide +kernel), List.mem_of_getElem? (i := 182) (by decide +kernel)⟩
theorem lw_p5 : lw_okq (⟨"RankRings", "recordState", "()V"⟩, 11) := ⟨⟨by decide +kernel, by decide +kernel⟩, List.mem_of_getElem? (i := 8) (by decide +kernel), List.mem_of_getElem? (i := 234) (by decide +kernel), List.mem_of_getElem? (i := 235) (by decide +kernel)⟩
theorem lw_p6 : lw_okq (⟨"RankRings", "dropOldestState", "()V"⟩, 11) := ⟨⟨by decide +kernel, by decide +kernel⟩, List.mem_of_getElem? (i := 8) (by decide +kernel), List.mem_of_getElem? (i := 238) (by decide +kernel), List.mem_of_getElem? (i := 239) (by decide +kernel)⟩
theorem lw_p7 : lw_okq (⟨"RankRings", "forgetFindings", "()V"⟩, 11) := ⟨⟨by decide +kernel, by decide +kernel⟩, List.mem_of_getElem? (i := 8) (by decide +kernel), List.mem_of_getElem? (i := 242) (by decide +kernel), List.mem_of_getElem? (i := 243) (by decide +kernel)⟩
theorem lw_p8 : lw_okq (⟨"RankRings$Text", "lookAtPlaces", "()Z"⟩, 9) := ⟨⟨by decide +kernel, by decide +kernel⟩, List.mem_of_getElem? (i := 46) (by decide +kernel), List.mem_of_getElem? (i := 297) (by decide +kernel), List.mem_of_getElem? (i := 298) (by decide +kernel)⟩
theorem lw_p9 : lw_okq (⟨"RankRings$Text", "lookAtPlace", "()Z"⟩, 9) := ⟨⟨by decide +kernel, by decide +kernel⟩, List.mem_of_getElem? (i := 46) (by decide +kernel), List.mem_of_getElem? (i := 301) (by decide +kernel), List.mem_of_getElem? (i := 302) (by decide +kernel)⟩
theorem lw_p10 : lw_okq (⟨"RankRings$Text", "character", "()C"⟩, 9) := ⟨⟨by decide +kernel, by decide +kernel⟩, List.mem_of_getElem? (i := 46) (by decide +kernel), List.mem_of_getElem? (i := 305) (by decide +kernel), List.mem_of_getElem? (i := 306) (by decide +kernel)⟩
theorem lw_p11 : lw_okq (⟨"RankRings$Text", "blame", "(II)Z"⟩, 9) := ⟨⟨by decide +kernel, by decide +kernel⟩, List.mem_of_getElem? (i := 46) (by decide +kernel), List.mem_of_getElem? (i := 309) (by decide +kernel), List.mem_of_getElem? (i := 310) (by decide +kernel)⟩
theorem lw_p12 : lw_okq (⟨"RankRings$Text", "digit", "()I"⟩, 9) := ⟨⟨by decide +kernel, by decide +kernel⟩, List.mem_of_getElem? (i := 46) (by decide +kernel), List.mem_of_getElem? (i := 313) (by decide +kernel), List.mem_of_getElem? (i := 314) (by decide +kernel)⟩
theorem lw_p13 : lw_okq (⟨"RankRings$Text", "lookAtWays", "()Z"⟩, 9) := ⟨⟨by decide +kernel, by decide +kernel⟩, List.mem_of_getElem? (i := 46) (by decide +kernel), List.mem_of_getElem? (i := 319) (by decide +kernel), List.mem_of_getElem? (i := 320) (by decide +kernel)⟩
theorem lw_p14 : lw_okq (⟨"RankRings$Text", "isToldSince", "(II)Z"⟩, 9) := ⟨⟨by decide +kernel, by decide +kernel⟩, List.mem_of_getElem? (i := 46) (by decide +kernel), List.mem_of_getElem? (i := 323) (by decide +kernel), List.mem_of_getElem? (i := 324) (by decide +kernel)⟩
theorem lw_p15 : lw_okq (⟨"RankRings$Text", "tellWay", "(II)V"⟩, 9) := ⟨⟨by decide +kernel, by decide +kernel⟩, List.mem_of_getElem? (i := 46) (by decide +kernel), List.mem_of_getElem? (i := 327) (by decide +kernel), List.mem_of_getElem? (i := 328) (by decide +kernel)⟩
def lw_privs_1 : List (MethodName × Nat) := [(⟨"RankRings", "findWinners", "()V"⟩, 11), (⟨"RankRings", "winnerFrom", "(I)I"⟩, 11), (⟨"RankRings", "findChoices", "()V"⟩, 11), (⟨"RankRings", "settle", "(I)I"⟩, 11), (⟨"RankRings", "winsOf", "(I)I"⟩, 11), (⟨"RankRings", "recordState", "()V"⟩, 11), (⟨"RankRings", "dropOldestState", "()V"⟩, 11), (⟨"RankRings", "forgetFindings", "()V"⟩, 11), (⟨"RankRings$Text", "lookAtPlaces", "()Z"⟩, 9), (⟨"RankRings$Text", "lookAtPlace", "()Z"⟩, 9), (⟨"RankRings$Text", "character", "()C"⟩, 9), (⟨"RankRings$Text", "blame", "(II)Z"⟩, 9), (⟨"RankRings$Text", "digit", "()I"⟩, 9), (⟨"RankRings$Text", "lookAtWays", "()Z"⟩, 9), (⟨"RankRings$Text", "isToldSince", "(II)Z"⟩, 9), (⟨"RankRings$Text", "tellWay", "(II)V"⟩, 9)]
theorem lw_r1 : ∀ q ∈ lw_privs_1, lw_okq q := List.forall_mem_cons.mpr ⟨lw_p0, List.forall_mem_cons.mpr ⟨lw_p1, List.forall_mem_cons.mpr ⟨lw_p2, List.forall_mem_cons.mpr ⟨lw_p3, List.forall_mem_cons.mpr ⟨lw_p4, List.forall_mem_cons.mpr ⟨lw_p5, List.forall_mem_cons.mpr ⟨lw_p6, List.forall_mem_cons.mpr ⟨lw_p7, List.forall_mem_cons.mpr ⟨lw_p8, List.forall_mem_cons.mpr ⟨lw_p9, List.forall_mem_cons.mpr ⟨lw_p10, List.forall_mem_cons.mpr ⟨lw_p11, List.forall_mem_cons.mpr ⟨lw_p12, List.forall_mem_cons.mpr ⟨lw_p13, List.forall_mem_cons.mpr ⟨lw_p14, List.forall_mem_cons.mpr ⟨lw_p15, fun _ h => absurd h List.not_mem_nil⟩⟩⟩⟩⟩⟩⟩⟩⟩⟩⟩⟩⟩⟩⟩⟩
theorem lw_p16 : lw_okq (⟨"RankRings$Text", "lookForPlacesOfWays", "()Z"⟩, 9) := ⟨⟨by decide +kernel, by decide +kernel⟩, List.mem_of_getElem? (i := 46) (by decide +kernel), List.mem_of_getElem? (i := 332) (by decide +kernel), List.mem_of_getElem? (i := 333) (by decide +kernel)⟩
def lw_privs_2 : List (MethodName × Nat) := [(⟨"RankRings$Text", "lookForPlacesOfWays", "()Z"⟩, 9)]
theorem lw_r2 : ∀ q ∈ lw_privs_2, lw_okq q := List.forall_mem_cons.mpr ⟨lw_p16, fun _ h => absurd h List.not_mem_nil⟩
def lw_privs : List (MethodName × Nat) := lw_privs_1 ++ (lw_privs_2)
def lw_tbl : List Cond := k2_sels lw_privs ++ tables_1
theorem lw_privs_ok : ∀ q ∈ lw_privs, lw_okq q := by
  show ∀ q ∈ lw_privs_1 ++ (lw_privs_2), lw_okq q
  exact List.forall_mem_append.mpr ⟨lw_r1, lw_r2⟩

def RX0 : String := "RankRings$Field"
def TX0 : u_T := fun k => match k with
  | 0 => ("RankRings$Field", "owners", "[I", true)
  | 1 => ("RankRings$Field", "ranks", "[I", true)
  | 2 => ("RankRings$Field", "ways", "[I", true)
  | _ => ("RankRings$Field", "size", "I", false)
def tyX0 : Nat → FieldType := fun k => match k with
  | 0 => .array .int
  | 1 => .array .int
  | 2 => .array .int
  | _ => .int
abbrev wsX00 : List Cond := u_ws RX0 TX0 4
theorem nmX0 : ∀ a, a < 4 → ∀ b, b < 4 → a ≠ b → (TX0 a).2.1 ≠ (TX0 b).2.1 := by decide +kernel
theorem tyX0_ok : ∀ k, k < 4 → parseFieldDescriptor (TX0 k).2.2.1 = some (tyX0 k) := by decide +kernel
abbrev cX0_init : ByteArray := prog_2_method_1_code
def yX0_init : MethodName := ⟨RX0, "<init>", "()V"⟩
abbrev cX0_has : ByteArray := prog_2_method_2_code
def yX0_has : MethodName := ⟨RX0, "has", "(I)Z"⟩
abbrev cX0_all : ByteArray := prog_2_method_4_code
def yX0_all : MethodName := ⟨RX0, "all", "()I"⟩
abbrev cX0_waysTo : ByteArray := prog_2_method_5_code
def yX0_waysTo : MethodName := ⟨RX0, "waysTo", "(I)I"⟩
abbrev cX0_numberOfWays : ByteArray := prog_2_method_6_code
def yX0_numberOfWays : MethodName := ⟨RX0, "numberOfWays", "()I"⟩
abbrev cX0_greatestRank : ByteArray := prog_2_method_7_code
def yX0_greatestRank : MethodName := ⟨RX0, "greatestRank", "()I"⟩
abbrev cX0_endsOf : ByteArray := prog_2_method_8_code
def yX0_endsOf : MethodName := ⟨RX0, "endsOf", "(I)I"⟩
abbrev cX0_ranked : ByteArray := prog_2_method_9_code
def yX0_ranked : MethodName := ⟨RX0, "ranked", "(I)I"⟩
abbrev cX0_append : ByteArray := prog_2_method_10_code
def yX0_append : MethodName := ⟨RX0, "append", "(II)V"⟩
abbrev cX0_remove : ByteArray := prog_2_method_11_code
def yX0_remove : MethodName := ⟨RX0, "remove", "(I)V"⟩
abbrev cX0_copyFrom : ByteArray := prog_2_method_12_code
def yX0_copyFrom : MethodName := ⟨RX0, "copyFrom", "(LRankRings$Field;)V"⟩
def RX1 : String := "RankRings$Solver"
def TX1 : u_T := fun k => match k with
  | _ => ("", "", "", false)
def tyX1 : Nat → FieldType := fun k => match k with
  | _ => .int
abbrev wsX10 : List Cond := u_ws RX1 TX1 0
theorem nmX1 : ∀ a, a < 0 → ∀ b, b < 0 → a ≠ b → (TX1 a).2.1 ≠ (TX1 b).2.1 := by decide +kernel
theorem tyX1_ok : ∀ k, k < 0 → parseFieldDescriptor (TX1 k).2.2.1 = some (tyX1 k) := by decide +kernel
abbrev cX1_winsOf0 : ByteArray := prog_3_method_2_code
def yX1_winsOf0 : MethodName := ⟨RX1, "winsOf0", "(LRankRings$Field;)I"⟩
abbrev cX1_winsWithin : ByteArray := prog_3_method_3_code
def yX1_winsWithin : MethodName := ⟨RX1, "winsWithin", "(LRankRings$Field;III)I"⟩
abbrev cX1_pull : ByteArray := prog_3_method_4_code
def yX1_pull : MethodName := ⟨RX1, "pull", "(LRankRings$Field;III)I"⟩
abbrev cX1_pullOnce : ByteArray := prog_3_method_5_code
def yX1_pullOnce : MethodName := ⟨RX1, "pullOnce", "(LRankRings$Field;III)I"⟩
def RX2 : String := "RankRings$Text"
def TX2 : u_T := fun k => match k with
  | 0 => ("RankRings$Text", "characters", "[C", true)
  | 1 => ("RankRings$Text", "length", "I", false)
  | 2 => ("RankRings$Text", "told", "LRankRings$Field;", true)
  | 3 => ("RankRings$Text", "faultIndex", "I", false)
  | 4 => ("RankRings$Text", "faultReason", "I", false)
  | 5 => ("RankRings$Text", "at", "I", false)
  | 6 => ("RankRings$Text", "wayNumbers", "[I", true)
  | 7 => ("RankRings$Text", "wayIndexes", "[I", true)
  | _ => ("RankRings$Text", "wayCount", "I", false)
def tyX2 : Nat → FieldType := fun k => match k with
  | 0 => .array .char
  | 1 => .int
  | 2 => .object "RankRings$Field"
  | 3 => .int
  | 4 => .int
  | 5 => .int
  | 6 => .array .int
  | 7 => .array .int
  | _ => .int
abbrev wsX20 : List Cond := u_ws RX2 TX2 9
theorem nmX2 : ∀ a, a < 9 → ∀ b, b < 9 → a ≠ b → (TX2 a).2.1 ≠ (TX2 b).2.1 := by decide +kernel
theorem tyX2_ok : ∀ k, k < 9 → parseFieldDescriptor (TX2 k).2.2.1 = some (tyX2 k) := by decide +kernel
abbrev cX2_init : ByteArray := prog_4_method_1_code
def yX2_init : MethodName := ⟨RX2, "<init>", "()V"⟩
abbrev cX2_append : ByteArray := prog_4_method_2_code
def yX2_append : MethodName := ⟨RX2, "append", "(C)V"⟩
abbrev cX2_isField : ByteArray := prog_4_method_3_code
def yX2_isField : MethodName := ⟨RX2, "isField", "()Z"⟩
abbrev cX2_lookAtPlaces : ByteArray := prog_4_method_4_code
def yX2_lookAtPlaces : MethodName := ⟨RX2, "lookAtPlaces", "()Z"⟩
abbrev cX2_lookAtPlace : ByteArray := prog_4_method_5_code
def yX2_lookAtPlace : MethodName := ⟨RX2, "lookAtPlace", "()Z"⟩
abbrev cX2_lookAtWays : ByteArray := prog_4_method_6_code
def yX2_lookAtWays : MethodName := ⟨RX2, "lookAtWays", "()Z"⟩
abbrev cX2_isToldSince : ByteArray := prog_4_method_7_code
def yX2_isToldSince : MethodName := ⟨RX2, "isToldSince", "(II)Z"⟩
abbrev cX2_tellWay : ByteArray := prog_4_method_8_code
def yX2_tellWay : MethodName := ⟨RX2, "tellWay", "(II)V"⟩
abbrev cX2_lookForPlacesOfWays : ByteArray := prog_4_method_9_code
def yX2_lookForPlacesOfWays : MethodName := ⟨RX2, "lookForPlacesOfWays", "()Z"⟩
abbrev cX2_blame : ByteArray := prog_4_method_10_code
def yX2_blame : MethodName := ⟨RX2, "blame", "(II)Z"⟩
abbrev cX2_character : ByteArray := prog_4_method_11_code
def yX2_character : MethodName := ⟨RX2, "character", "()C"⟩
abbrev cX2_digit : ByteArray := prog_4_method_12_code
def yX2_digit : MethodName := ⟨RX2, "digit", "()I"⟩
def RX3 : String := "RankRings"
def TX3 : u_T := fun k => match k with
  | 0 => ("RankRings", "field", "LRankRings$Field;", true)
  | 1 => ("RankRings", "history", "[LRankRings$Field;", true)
  | 2 => ("RankRings", "states", "I", false)
  | 3 => ("RankRings", "snapshot", "LRankRings$Field;", true)
  | 4 => ("RankRings", "isKept", "Z", false)
  | 5 => ("RankRings", "text", "LRankRings$Text;", true)
  | 6 => ("RankRings", "trial", "LRankRings$Field;", true)
  | 7 => ("RankRings", "winnersKnown", "Z", false)
  | 8 => ("RankRings", "winsOf0", "I", false)
  | 9 => ("RankRings", "choicesKnown", "Z", false)
  | _ => ("RankRings", "choices", "[I", true)
def tyX3 : Nat → FieldType := fun k => match k with
  | 0 => .object "RankRings$Field"
  | 1 => .array (.object "RankRings$Field")
  | 2 => .int
  | 3 => .object "RankRings$Field"
  | 4 => .boolean
  | 5 => .object "RankRings$Text"
  | 6 => .object "RankRings$Field"
  | 7 => .boolean
  | 8 => .int
  | 9 => .boolean
  | _ => .array .int
abbrev wsX30 : List Cond := u_ws RX3 TX3 11
theorem nmX3 : ∀ a, a < 11 → ∀ b, b < 11 → a ≠ b → (TX3 a).2.1 ≠ (TX3 b).2.1 := by decide +kernel
theorem tyX3_ok : ∀ k, k < 11 → parseFieldDescriptor (TX3 k).2.2.1 = some (tyX3 k) := by decide +kernel
abbrev cX3_init : ByteArray := prog_1_method_1_code
def yX3_init : MethodName := ⟨RX3, "<init>", "()V"⟩
abbrev cX3_add : ByteArray := prog_1_method_2_code
def yX3_add : MethodName := ⟨RX3, "add", "(II)I"⟩
abbrev cX3_own : ByteArray := prog_1_method_3_code
def yX3_own : MethodName := ⟨RX3, "own", "(II)I"⟩
abbrev cX3_rank : ByteArray := prog_1_method_4_code
def yX3_rank : MethodName := ⟨RX3, "rank", "(II)I"⟩
abbrev cX3_way : ByteArray := prog_1_method_5_code
def yX3_way : MethodName := ⟨RX3, "way", "(III)I"⟩
abbrev cX3_drop : ByteArray := prog_1_method_6_code
def yX3_drop : MethodName := ⟨RX3, "drop", "(I)I"⟩
abbrev cX3_placeOf : ByteArray := prog_1_method_7_code
def yX3_placeOf : MethodName := ⟨RX3, "placeOf", "(II)I"⟩
abbrev cX3_count : ByteArray := prog_1_method_8_code
def yX3_count : MethodName := ⟨RX3, "count", "(I)I"⟩
abbrev cX3_type : ByteArray := prog_1_method_20_code
def yX3_type : MethodName := ⟨RX3, "type", "(I)I"⟩
abbrev cX3_clearText : ByteArray := prog_1_method_21_code
def yX3_clearText : MethodName := ⟨RX3, "clearText", "()I"⟩
abbrev cX3_fault : ByteArray := prog_1_method_22_code
def yX3_fault : MethodName := ⟨RX3, "fault", "(I)I"⟩
abbrev cX3_read : ByteArray := prog_1_method_23_code
def yX3_read : MethodName := ⟨RX3, "read", "()I"⟩
abbrev cX3_isPlayer : ByteArray := prog_1_method_24_code
def yX3_isPlayer : MethodName := ⟨RX3, "isPlayer", "(I)Z"⟩
abbrev cX3_isRank : ByteArray := prog_1_method_25_code
def yX3_isRank : MethodName := ⟨RX3, "isRank", "(I)Z"⟩
abbrev cX3_contains : ByteArray := prog_1_method_26_code
def yX3_contains : MethodName := ⟨RX3, "contains", "(II)Z"⟩
abbrev cX3_recordState : ByteArray := prog_1_method_27_code
def yX3_recordState : MethodName := ⟨RX3, "recordState", "()V"⟩
abbrev cX3_dropOldestState : ByteArray := prog_1_method_28_code
def yX3_dropOldestState : MethodName := ⟨RX3, "dropOldestState", "()V"⟩
abbrev cX3_forgetFindings : ByteArray := prog_1_method_29_code
def yX3_forgetFindings : MethodName := ⟨RX3, "forgetFindings", "()V"⟩
abbrev cX3_findWinners : ByteArray := prog_1_method_30_code
def yX3_findWinners : MethodName := ⟨RX3, "findWinners", "()V"⟩
abbrev cX3_winsOf : ByteArray := prog_1_method_31_code
def yX3_winsOf : MethodName := ⟨RX3, "winsOf", "(I)I"⟩
abbrev cX3_winnerFrom : ByteArray := prog_1_method_32_code
def yX3_winnerFrom : MethodName := ⟨RX3, "winnerFrom", "(I)I"⟩
abbrev cX3_findChoices : ByteArray := prog_1_method_33_code
def yX3_findChoices : MethodName := ⟨RX3, "findChoices", "()V"⟩
abbrev cX3_settle : ByteArray := prog_1_method_34_code
def yX3_settle : MethodName := ⟨RX3, "settle", "(I)I"⟩
def RX4 : String := "RankRingsModel"
def TX4 : u_T := fun k => match k with
  | _ => ("", "", "", false)
def tyX4 : Nat → FieldType := fun k => match k with
  | _ => .int
abbrev wsX40 : List Cond := u_ws RX4 TX4 0
theorem nmX4 : ∀ a, a < 0 → ∀ b, b < 0 → a ≠ b → (TX4 a).2.1 ≠ (TX4 b).2.1 := by decide +kernel
theorem tyX4_ok : ∀ k, k < 0 → parseFieldDescriptor (TX4 k).2.2.1 = some (tyX4 k) := by decide +kernel
def RJ6 : String := "java/lang/Integer"
def TJ6 : u_T := fun k => match k with
  | _ => ("", "", "", false)
def tyJ6 : Nat → FieldType := fun k => match k with
  | _ => .int
abbrev wsJ60 : List Cond := u_ws RJ6 TJ6 0
theorem nmJ6 : ∀ a, a < 0 → ∀ b, b < 0 → a ≠ b → (TJ6 a).2.1 ≠ (TJ6 b).2.1 := by decide +kernel
theorem tyJ6_ok : ∀ k, k < 0 → parseFieldDescriptor (TJ6 k).2.2.1 = some (tyJ6 k) := by decide +kernel
abbrev cJ6_numberOfTrailingZeros_0f7a4 : ByteArray := prog_7_method_48_code
def yJ6_numberOfTrailingZeros_0f7a4 : MethodName := ⟨RJ6, "numberOfTrailingZeros", "(I)I"⟩
abbrev cJ6_bitCount_0f7a4 : ByteArray := prog_7_method_49_code
def yJ6_bitCount_0f7a4 : MethodName := ⟨RJ6, "bitCount", "(I)I"⟩
def RJ9 : String := "java/lang/Math"
def TJ9 : u_T := fun k => match k with
  | _ => ("", "", "", false)
def tyJ9 : Nat → FieldType := fun k => match k with
  | _ => .int
abbrev wsJ90 : List Cond := u_ws RJ9 TJ9 0
theorem nmJ9 : ∀ a, a < 0 → ∀ b, b < 0 → a ≠ b → (TJ9 a).2.1 ≠ (TJ9 b).2.1 := by decide +kernel
theorem tyJ9_ok : ∀ k, k < 0 → parseFieldDescriptor (TJ9 k).2.2.1 = some (tyJ9 k) := by decide +kernel
abbrev cJ9_max_7cf53 : ByteArray := prog_8_method_65_code
def yJ9_max_7cf53 : MethodName := ⟨RJ9, "max", "(II)I"⟩
def RL : String := "RankRingsLaw"
abbrev cL_cell : ByteArray := method_2_code
def yL_cell : MethodName := ⟨RL, "cell", "([II)I"⟩
abbrev cL_low : ByteArray := method_3_code
def yL_low : MethodName := ⟨RL, "low", "(II)I"⟩
abbrev cL_all : ByteArray := method_4_code
def yL_all : MethodName := ⟨RL, "all", "([I)I"⟩
abbrev cL_ones : ByteArray := method_5_code
def yL_ones : MethodName := ⟨RL, "ones", "(I)I"⟩
abbrev cL_next : ByteArray := method_6_code
def yL_next : MethodName := ⟨RL, "next", "([I[I[I[I[I)I"⟩
abbrev cL_won : ByteArray := method_7_code
def yL_won : MethodName := ⟨RL, "won", "([I[I[I[I)I"⟩
abbrev cL_acts : ByteArray := method_8_code
def yL_acts : MethodName := ⟨RL, "acts", "(LRankRings;[I[I[I[II)Z"⟩
abbrev cL_reads : ByteArray := method_9_code
def yL_reads : MethodName := ⟨RL, "reads", "(LRankRings;[I[I[I[II)Z"⟩
abbrev cL_areChoices : ByteArray := method_10_code
def yL_areChoices : MethodName := ⟨RL, "areChoices", "(LRankRings;[I[I[I[II)Z"⟩
abbrev cL_isSo : ByteArray := method_11_code
def yL_isSo : MethodName := ⟨RL, "isSo", "(LRankRings;[I[I[I[IZ)Z"⟩
abbrev cL_law : ByteArray := code
def yL_law : MethodName := ⟨RL, "law", "([I)Z"⟩
abbrev vwCl : List vw_C := [(RX0, TX0, 4), (RX2, TX2, 9), (RX3, TX3, 11)]
