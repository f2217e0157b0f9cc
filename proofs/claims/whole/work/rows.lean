section
-- ===== PART A: goes FIRST, ahead of the names: the tables' words, and 'selects' of the private methods out of them =====
/-- a private method of a class that the tables say can be made, by its rows of tables_1 -/
def lw_okq (q : MethodName × Nat) : Prop := (q.1.cls ≠ "java/lang/invoke/MethodHandle" ∧ q.1.cls ≠ "java/lang/invoke/VarHandle") ∧ Cond.instantiable q.1.cls q.2 ∈ tables_1 ∧ Cond.privateMethod q.1 ∈ tables_1 ∧ Cond.instanceMethod q.1 ∈ tables_1
theorem lw_p0 : lw_okq (⟨"WaySigns", "isName", "(I)Z"⟩, 13) := ⟨⟨by decide +kernel, by decide +kernel⟩, List.mem_of_getElem? (i := 11) (by decide +kernel), List.mem_of_getElem? (i := 208) (by decide +kernel), List.mem_of_getElem? (i := 209) (by decide +kernel)⟩
theorem lw_p1 : lw_okq (⟨"WaySigns", "countEndings", "(I[II)I"⟩, 13) := ⟨⟨by decide +kernel, by decide +kernel⟩, List.mem_of_getElem? (i := 11) (by decide +kernel), List.mem_of_getElem? (i := 287) (by decide +kernel), List.mem_of_getElem? (i := 288) (by decide +kernel)⟩
theorem lw_p2 : lw_okq (⟨"WaySigns", "isIdle", "(II)Z"⟩, 13) := ⟨⟨by decide +kernel, by decide +kernel⟩, List.mem_of_getElem? (i := 11) (by decide +kernel), List.mem_of_getElem? (i := 299) (by decide +kernel), List.mem_of_getElem? (i := 300) (by decide +kernel)⟩
theorem lw_p3 : lw_okq (⟨"WaySigns", "findMend", "()V"⟩, 13) := ⟨⟨by decide +kernel, by decide +kernel⟩, List.mem_of_getElem? (i := 11) (by decide +kernel), List.mem_of_getElem? (i := 314) (by decide +kernel), List.mem_of_getElem? (i := 315) (by decide +kernel)⟩
theorem lw_p4 : lw_okq (⟨"WaySigns", "offerMend", "(III)V"⟩, 13) := ⟨⟨by decide +kernel, by decide +kernel⟩, List.mem_of_getElem? (i := 11) (by decide +kernel), List.mem_of_getElem? (i := 319) (by decide +kernel), List.mem_of_getElem? (i := 320) (by decide +kernel)⟩
theorem lw_p5 : lw_okq (⟨"WaySigns", "wouldLead", "(II)Z"⟩, 13) := ⟨⟨by decide +kernel, by decide +kernel⟩, List.mem_of_getElem? (i := 11) (by decide +kernel), List.mem_of_getElem? (i := 327) (by decide +kernel), List.mem_of_getElem? (i := 328) (by decide +kernel)⟩
theorem lw_p6 : lw_okq (⟨"WaySigns", "leastSet", "(II)I"⟩, 13) := ⟨⟨by decide +kernel, by decide +kernel⟩, List.mem_of_getElem? (i := 11) (by decide +kernel), List.mem_of_getElem? (i := 335) (by decide +kernel), List.mem_of_getElem? (i := 336) (by decide +kernel)⟩
theorem lw_p7 : lw_okq (⟨"WaySigns", "choicesOnBestWays", "(I)I"⟩, 13) := ⟨⟨by decide +kernel, by decide +kernel⟩, List.mem_of_getElem? (i := 11) (by decide +kernel), List.mem_of_getElem? (i := 339) (by decide +kernel), List.mem_of_getElem? (i := 340) (by decide +kernel)⟩
theorem lw_p8 : lw_okq (⟨"WaySigns", "choicesFrom", "(II)I"⟩, 13) := ⟨⟨by decide +kernel, by decide +kernel⟩, List.mem_of_getElem? (i := 11) (by decide +kernel), List.mem_of_getElem? (i := 343) (by decide +kernel), List.mem_of_getElem? (i := 344) (by decide +kernel)⟩
theorem lw_p9 : lw_okq (⟨"WaySigns", "countBoards", "()I"⟩, 13) := ⟨⟨by decide +kernel, by decide +kernel⟩, List.mem_of_getElem? (i := 11) (by decide +kernel), List.mem_of_getElem? (i := 360) (by decide +kernel), List.mem_of_getElem? (i := 361) (by decide +kernel)⟩
theorem lw_p10 : lw_okq (⟨"WaySigns", "boardedFor", "(I)I"⟩, 13) := ⟨⟨by decide +kernel, by decide +kernel⟩, List.mem_of_getElem? (i := 11) (by decide +kernel), List.mem_of_getElem? (i := 364) (by decide +kernel), List.mem_of_getElem? (i := 365) (by decide +kernel)⟩
theorem lw_p11 : lw_okq (⟨"WaySigns", "boardedPlaces", "()I"⟩, 13) := ⟨⟨by decide +kernel, by decide +kernel⟩, List.mem_of_getElem? (i := 11) (by decide +kernel), List.mem_of_getElem? (i := 368) (by decide +kernel), List.mem_of_getElem? (i := 369) (by decide +kernel)⟩
theorem lw_p12 : lw_okq (⟨"WaySignsModel", "walkBetween", "(II)I"⟩, 21) := ⟨⟨by decide +kernel, by decide +kernel⟩, List.mem_of_getElem? (i := 372) (by decide +kernel), List.mem_of_getElem? (i := 452) (by decide +kernel), List.mem_of_getElem? (i := 453) (by decide +kernel)⟩
theorem lw_p13 : lw_okq (⟨"WaySignsModel", "isWalk", "(I)Z"⟩, 21) := ⟨⟨by decide +kernel, by decide +kernel⟩, List.mem_of_getElem? (i := 372) (by decide +kernel), List.mem_of_getElem? (i := 464) (by decide +kernel), List.mem_of_getElem? (i := 465) (by decide +kernel)⟩
theorem lw_p14 : lw_okq (⟨"WaySignsModel", "isName", "(I)Z"⟩, 21) := ⟨⟨by decide +kernel, by decide +kernel⟩, List.mem_of_getElem? (i := 372) (by decide +kernel), List.mem_of_getElem? (i := 480) (by decide +kernel), List.mem_of_getElem? (i := 481) (by decide +kernel)⟩
theorem lw_p15 : lw_okq (⟨"WaySignsModel", "findFar", "(I)V"⟩, 21) := ⟨⟨by decide +kernel, by decide +kernel⟩, List.mem_of_getElem? (i := 372) (by decide +kernel), List.mem_of_getElem? (i := 511) (by decide +kernel), List.mem_of_getElem? (i := 512) (by decide +kernel)⟩
def lw_privs_1 : List (MethodName × Nat) := [(⟨"WaySigns", "isName", "(I)Z"⟩, 13), (⟨"WaySigns", "countEndings", "(I[II)I"⟩, 13), (⟨"WaySigns", "isIdle", "(II)Z"⟩, 13), (⟨"WaySigns", "findMend", "()V"⟩, 13), (⟨"WaySigns", "offerMend", "(III)V"⟩, 13), (⟨"WaySigns", "wouldLead", "(II)Z"⟩, 13), (⟨"WaySigns", "leastSet", "(II)I"⟩, 13), (⟨"WaySigns", "choicesOnBestWays", "(I)I"⟩, 13), (⟨"WaySigns", "choicesFrom", "(II)I"⟩, 13), (⟨"WaySigns", "countBoards", "()I"⟩, 13), (⟨"WaySigns", "boardedFor", "(I)I"⟩, 13), (⟨"WaySigns", "boardedPlaces", "()I"⟩, 13), (⟨"WaySignsModel", "walkBetween", "(II)I"⟩, 21), (⟨"WaySignsModel", "isWalk", "(I)Z"⟩, 21), (⟨"WaySignsModel", "isName", "(I)Z"⟩, 21), (⟨"WaySignsModel", "findFar", "(I)V"⟩, 21)]
theorem lw_r1 : ∀ q ∈ lw_privs_1, lw_okq q := List.forall_mem_cons.mpr ⟨lw_p0, List.forall_mem_cons.mpr ⟨lw_p1, List.forall_mem_cons.mpr ⟨lw_p2, List.forall_mem_cons.mpr ⟨lw_p3, List.forall_mem_cons.mpr ⟨lw_p4, List.forall_mem_cons.mpr ⟨lw_p5, List.forall_mem_cons.mpr ⟨lw_p6, List.forall_mem_cons.mpr ⟨lw_p7, List.forall_mem_cons.mpr ⟨lw_p8, List.forall_mem_cons.mpr ⟨lw_p9, List.forall_mem_cons.mpr ⟨lw_p10, List.forall_mem_cons.mpr ⟨lw_p11, List.forall_mem_cons.mpr ⟨lw_p12, List.forall_mem_cons.mpr ⟨lw_p13, List.forall_mem_cons.mpr ⟨lw_p14, List.forall_mem_cons.mpr ⟨lw_p15, fun _ h => absurd h List.not_mem_nil⟩⟩⟩⟩⟩⟩⟩⟩⟩⟩⟩⟩⟩⟩⟩⟩
theorem lw_p16 : lw_okq (⟨"WaySignsModel", "draws", "(III)V"⟩, 21) := ⟨⟨by decide +kernel, by decide +kernel⟩, List.mem_of_getElem? (i := 372) (by decide +kernel), List.mem_of_getElem? (i := 516) (by decide +kernel), List.mem_of_getElem? (i := 517) (by decide +kernel)⟩
theorem lw_p17 : lw_okq (⟨"WaySignsModel", "bestAt", "(I)I"⟩, 21) := ⟨⟨by decide +kernel, by decide +kernel⟩, List.mem_of_getElem? (i := 372) (by decide +kernel), List.mem_of_getElem? (i := 520) (by decide +kernel), List.mem_of_getElem? (i := 521) (by decide +kernel)⟩
theorem lw_p18 : lw_okq (⟨"WaySignsModel", "openBetween", "(II)I"⟩, 21) := ⟨⟨by decide +kernel, by decide +kernel⟩, List.mem_of_getElem? (i := 372) (by decide +kernel), List.mem_of_getElem? (i := 524) (by decide +kernel), List.mem_of_getElem? (i := 525) (by decide +kernel)⟩
theorem lw_p19 : lw_okq (⟨"WaySignsModel", "laysArrows", "(I)V"⟩, 21) := ⟨⟨by decide +kernel, by decide +kernel⟩, List.mem_of_getElem? (i := 372) (by decide +kernel), List.mem_of_getElem? (i := 536) (by decide +kernel), List.mem_of_getElem? (i := 537) (by decide +kernel)⟩
theorem lw_p20 : lw_okq (⟨"WaySignsModel", "follows", "(II)V"⟩, 21) := ⟨⟨by decide +kernel, by decide +kernel⟩, List.mem_of_getElem? (i := 372) (by decide +kernel), List.mem_of_getElem? (i := 540) (by decide +kernel), List.mem_of_getElem? (i := 541) (by decide +kernel)⟩
theorem lw_p21 : lw_okq (⟨"WaySignsModel", "nextWalk", "(II)I"⟩, 21) := ⟨⟨by decide +kernel, by decide +kernel⟩, List.mem_of_getElem? (i := 372) (by decide +kernel), List.mem_of_getElem? (i := 544) (by decide +kernel), List.mem_of_getElem? (i := 545) (by decide +kernel)⟩
theorem lw_p22 : lw_okq (⟨"WaySignsModel", "onlyWalk", "(II)I"⟩, 21) := ⟨⟨by decide +kernel, by decide +kernel⟩, List.mem_of_getElem? (i := 372) (by decide +kernel), List.mem_of_getElem? (i := 548) (by decide +kernel), List.mem_of_getElem? (i := 549) (by decide +kernel)⟩
theorem lw_p23 : lw_okq (⟨"WaySignsModel", "touches", "(II)Z"⟩, 21) := ⟨⟨by decide +kernel, by decide +kernel⟩, List.mem_of_getElem? (i := 372) (by decide +kernel), List.mem_of_getElem? (i := 552) (by decide +kernel), List.mem_of_getElem? (i := 553) (by decide +kernel)⟩
theorem lw_p24 : lw_okq (⟨"WaySignsModel", "manyEnd", "(II)I"⟩, 21) := ⟨⟨by decide +kernel, by decide +kernel⟩, List.mem_of_getElem? (i := 372) (by decide +kernel), List.mem_of_getElem? (i := 560) (by decide +kernel), List.mem_of_getElem? (i := 561) (by decide +kernel)⟩
theorem lw_p25 : lw_okq (⟨"WaySignsModel", "isIdle", "(II)Z"⟩, 21) := ⟨⟨by decide +kernel, by decide +kernel⟩, List.mem_of_getElem? (i := 372) (by decide +kernel), List.mem_of_getElem? (i := 572) (by decide +kernel), List.mem_of_getElem? (i := 573) (by decide +kernel)⟩
theorem lw_p26 : lw_okq (⟨"WaySignsModel", "keeps", "()V"⟩, 21) := ⟨⟨by decide +kernel, by decide +kernel⟩, List.mem_of_getElem? (i := 372) (by decide +kernel), List.mem_of_getElem? (i := 576) (by decide +kernel), List.mem_of_getElem? (i := 577) (by decide +kernel)⟩
theorem lw_p27 : lw_okq (⟨"WaySignsModel", "isAsKept", "()Z"⟩, 21) := ⟨⟨by decide +kernel, by decide +kernel⟩, List.mem_of_getElem? (i := 372) (by decide +kernel), List.mem_of_getElem? (i := 580) (by decide +kernel), List.mem_of_getElem? (i := 581) (by decide +kernel)⟩
theorem lw_p28 : lw_okq (⟨"WaySignsModel", "moreBy", "(II)I"⟩, 21) := ⟨⟨by decide +kernel, by decide +kernel⟩, List.mem_of_getElem? (i := 372) (by decide +kernel), List.mem_of_getElem? (i := 589) (by decide +kernel), List.mem_of_getElem? (i := 590) (by decide +kernel)⟩
theorem lw_p29 : lw_okq (⟨"WaySignsModel", "leadsTo", "(II)Z"⟩, 21) := ⟨⟨by decide +kernel, by decide +kernel⟩, List.mem_of_getElem? (i := 372) (by decide +kernel), List.mem_of_getElem? (i := 597) (by decide +kernel), List.mem_of_getElem? (i := 598) (by decide +kernel)⟩
theorem lw_p30 : lw_okq (⟨"WaySignsModel", "haveBest", "(I)I"⟩, 21) := ⟨⟨by decide +kernel, by decide +kernel⟩, List.mem_of_getElem? (i := 372) (by decide +kernel), List.mem_of_getElem? (i := 601) (by decide +kernel), List.mem_of_getElem? (i := 602) (by decide +kernel)⟩
theorem lw_p31 : lw_okq (⟨"WaySignsModel", "doLead", "(II)Z"⟩, 21) := ⟨⟨by decide +kernel, by decide +kernel⟩, List.mem_of_getElem? (i := 372) (by decide +kernel), List.mem_of_getElem? (i := 605) (by decide +kernel), List.mem_of_getElem? (i := 606) (by decide +kernel)⟩
def lw_privs_2 : List (MethodName × Nat) := [(⟨"WaySignsModel", "draws", "(III)V"⟩, 21), (⟨"WaySignsModel", "bestAt", "(I)I"⟩, 21), (⟨"WaySignsModel", "openBetween", "(II)I"⟩, 21), (⟨"WaySignsModel", "laysArrows", "(I)V"⟩, 21), (⟨"WaySignsModel", "follows", "(II)V"⟩, 21), (⟨"WaySignsModel", "nextWalk", "(II)I"⟩, 21), (⟨"WaySignsModel", "onlyWalk", "(II)I"⟩, 21), (⟨"WaySignsModel", "touches", "(II)Z"⟩, 21), (⟨"WaySignsModel", "manyEnd", "(II)I"⟩, 21), (⟨"WaySignsModel", "isIdle", "(II)Z"⟩, 21), (⟨"WaySignsModel", "keeps", "()V"⟩, 21), (⟨"WaySignsModel", "isAsKept", "()Z"⟩, 21), (⟨"WaySignsModel", "moreBy", "(II)I"⟩, 21), (⟨"WaySignsModel", "leadsTo", "(II)Z"⟩, 21), (⟨"WaySignsModel", "haveBest", "(I)I"⟩, 21), (⟨"WaySignsModel", "doLead", "(II)Z"⟩, 21)]
theorem lw_r2 : ∀ q ∈ lw_privs_2, lw_okq q := List.forall_mem_cons.mpr ⟨lw_p16, List.forall_mem_cons.mpr ⟨lw_p17, List.forall_mem_cons.mpr ⟨lw_p18, List.forall_mem_cons.mpr ⟨lw_p19, List.forall_mem_cons.mpr ⟨lw_p20, List.forall_mem_cons.mpr ⟨lw_p21, List.forall_mem_cons.mpr ⟨lw_p22, List.forall_mem_cons.mpr ⟨lw_p23, List.forall_mem_cons.mpr ⟨lw_p24, List.forall_mem_cons.mpr ⟨lw_p25, List.forall_mem_cons.mpr ⟨lw_p26, List.forall_mem_cons.mpr ⟨lw_p27, List.forall_mem_cons.mpr ⟨lw_p28, List.forall_mem_cons.mpr ⟨lw_p29, List.forall_mem_cons.mpr ⟨lw_p30, List.forall_mem_cons.mpr ⟨lw_p31, fun _ h => absurd h List.not_mem_nil⟩⟩⟩⟩⟩⟩⟩⟩⟩⟩⟩⟩⟩⟩⟩⟩
theorem lw_p32 : lw_okq (⟨"WaySignsModel", "manyOpen", "()I"⟩, 21) := ⟨⟨by decide +kernel, by decide +kernel⟩, List.mem_of_getElem? (i := 372) (by decide +kernel), List.mem_of_getElem? (i := 624) (by decide +kernel), List.mem_of_getElem? (i := 625) (by decide +kernel)⟩
theorem lw_p33 : lw_okq (⟨"WaySignsModel", "allBoards", "(Z)I"⟩, 21) := ⟨⟨by decide +kernel, by decide +kernel⟩, List.mem_of_getElem? (i := 372) (by decide +kernel), List.mem_of_getElem? (i := 628) (by decide +kernel), List.mem_of_getElem? (i := 629) (by decide +kernel)⟩
theorem lw_p34 : lw_okq (⟨"WaySignsModel", "manyBoards", "(I)I"⟩, 21) := ⟨⟨by decide +kernel, by decide +kernel⟩, List.mem_of_getElem? (i := 372) (by decide +kernel), List.mem_of_getElem? (i := 632) (by decide +kernel), List.mem_of_getElem? (i := 633) (by decide +kernel)⟩
def lw_privs_3 : List (MethodName × Nat) := [(⟨"WaySignsModel", "manyOpen", "()I"⟩, 21), (⟨"WaySignsModel", "allBoards", "(Z)I"⟩, 21), (⟨"WaySignsModel", "manyBoards", "(I)I"⟩, 21)]
theorem lw_r3 : ∀ q ∈ lw_privs_3, lw_okq q := List.forall_mem_cons.mpr ⟨lw_p32, List.forall_mem_cons.mpr ⟨lw_p33, List.forall_mem_cons.mpr ⟨lw_p34, fun _ h => absurd h List.not_mem_nil⟩⟩⟩
def lw_privs : List (MethodName × Nat) := lw_privs_1 ++ (lw_privs_2 ++ (lw_privs_3))
def lw_tbl : List Cond := k2_sels lw_privs ++ tables_1
theorem lw_privs_ok : ∀ q ∈ lw_privs, lw_okq q := by
  show ∀ q ∈ lw_privs_1 ++ (lw_privs_2 ++ (lw_privs_3)), lw_okq q
  exact List.forall_mem_append.mpr ⟨lw_r1, List.forall_mem_append.mpr ⟨lw_r2, lw_r3⟩⟩
def RX0 : String := "WaySigns$Building"
def TX0 : u_T := fun k => match k with
  | 0 => ("WaySigns$Building", "lesser", "[I", true)
  | 1 => ("WaySigns$Building", "greater", "[I", true)
  | 2 => ("WaySigns$Building", "lengths", "[I", true)
  | 3 => ("WaySigns$Building", "opened", "[Z", true)
  | 4 => ("WaySigns$Building", "near", "[I", true)
  | 5 => ("WaySigns$Building", "openLength", "[[I", true)
  | _ => ("WaySigns$Building", "count", "I", false)
def tyX0 : Nat → FieldType := fun k => match k with
  | 0 => .array .int
  | 1 => .array .int
  | 2 => .array .int
  | 3 => .array .boolean
  | 4 => .array .int
  | 5 => .array (.array .int)
  | _ => .int
theorem nmX0 : ∀ a, a < 7 → ∀ b, b < 7 → a ≠ b → (TX0 a).2.1 ≠ (TX0 b).2.1 := by decide +kernel
theorem tyX0_ok : ∀ k, k < 7 → parseFieldDescriptor (TX0 k).2.2.1 = some (tyX0 k) := by decide +kernel
abbrev cX0_init : ByteArray := prog_2_method_1_code
def yX0_init : MethodName := ⟨RX0, "<init>", "()V"⟩
abbrev cX0_has : ByteArray := prog_2_method_2_code
def yX0_has : MethodName := ⟨RX0, "has", "(I)Z"⟩
abbrev cX0_joins : ByteArray := prog_2_method_3_code
def yX0_joins : MethodName := ⟨RX0, "joins", "(II)Z"⟩
abbrev cX0_add : ByteArray := prog_2_method_4_code
def yX0_add : MethodName := ⟨RX0, "add", "(III)I"⟩
abbrev cX0_removeLast : ByteArray := prog_2_method_5_code
def yX0_removeLast : MethodName := ⟨RX0, "removeLast", "()I"⟩
abbrev cX0_turn : ByteArray := prog_2_method_6_code
def yX0_turn : MethodName := ⟨RX0, "turn", "(IZ)Z"⟩
abbrev cX0_countOpen : ByteArray := prog_2_method_7_code
def yX0_countOpen : MethodName := ⟨RX0, "countOpen", "()I"⟩
def RX1 : String := "WaySigns$Follower"
def TX1 : u_T := fun k => match k with
  | 0 => ("WaySigns$Follower", "way", "[I", true)
  | 1 => ("WaySigns$Follower", "came", "[I", true)
  | 2 => ("WaySigns$Follower", "steps", "I", false)
  | 3 => ("WaySigns$Follower", "total", "I", false)
  | _ => ("WaySigns$Follower", "ending", "I", false)
def tyX1 : Nat → FieldType := fun k => match k with
  | 0 => .array .int
  | 1 => .array .int
  | 2 => .int
  | 3 => .int
  | _ => .int
theorem nmX1 : ∀ a, a < 5 → ∀ b, b < 5 → a ≠ b → (TX1 a).2.1 ≠ (TX1 b).2.1 := by decide +kernel
theorem tyX1_ok : ∀ k, k < 5 → parseFieldDescriptor (TX1 k).2.2.1 = some (tyX1 k) := by decide +kernel
abbrev cX1_init : ByteArray := prog_3_method_1_code
def yX1_init : MethodName := ⟨RX1, "<init>", "()V"⟩
abbrev cX1_go : ByteArray := prog_3_method_2_code
def yX1_go : MethodName := ⟨RX1, "go", "(LWaySigns$Building;II[I)V"⟩
abbrev cX1_nextFrom : ByteArray := prog_3_method_3_code
def yX1_nextFrom : MethodName := ⟨RX1, "nextFrom", "(LWaySigns$Building;III)I"⟩
abbrev cX1_placeAt : ByteArray := prog_3_method_4_code
def yX1_placeAt : MethodName := ⟨RX1, "placeAt", "(I)I"⟩
abbrev cX1_wentLike : ByteArray := prog_3_method_5_code
def yX1_wentLike : MethodName := ⟨RX1, "wentLike", "(LWaySigns$Follower;)Z"⟩
def RX2 : String := "WaySigns$Guide"
def TX2 : u_T := fun k => match k with
  | 0 => ("WaySigns$Guide", "distance", "[[I", true)
  | 1 => ("WaySigns$Guide", "best", "[[I", true)
  | _ => ("WaySigns$Guide", "signable", "[I", true)
def tyX2 : Nat → FieldType := fun k => match k with
  | 0 => .array (.array .int)
  | 1 => .array (.array .int)
  | _ => .array .int
theorem nmX2 : ∀ a, a < 3 → ∀ b, b < 3 → a ≠ b → (TX2 a).2.1 ≠ (TX2 b).2.1 := by decide +kernel
theorem tyX2_ok : ∀ k, k < 3 → parseFieldDescriptor (TX2 k).2.2.1 = some (tyX2 k) := by decide +kernel
abbrev cX2_init : ByteArray := prog_4_method_1_code
def yX2_init : MethodName := ⟨RX2, "<init>", "()V"⟩
abbrev cX2_draw : ByteArray := prog_4_method_2_code
def yX2_draw : MethodName := ⟨RX2, "draw", "(LWaySigns$Building;II)V"⟩
abbrev cX2_measure : ByteArray := prog_4_method_3_code
def yX2_measure : MethodName := ⟨RX2, "measure", "(LWaySigns$Building;[II)V"⟩
abbrev cX2_shorten : ByteArray := prog_4_method_4_code
def yX2_shorten : MethodName := ⟨RX2, "shorten", "([IIII)Z"⟩
abbrev cX2_bestAt : ByteArray := prog_4_method_5_code
def yX2_bestAt : MethodName := ⟨RX2, "bestAt", "(LWaySigns$Building;[II)I"⟩
def RX3 : String := "WaySigns"
def TX3 : u_T := fun k => match k with
  | 0 => ("WaySigns", "building", "LWaySigns$Building;", true)
  | 1 => ("WaySigns", "guide", "LWaySigns$Guide;", true)
  | 2 => ("WaySigns", "follower", "LWaySigns$Follower;", true)
  | 3 => ("WaySigns", "other", "LWaySigns$Follower;", true)
  | 4 => ("WaySigns", "homes", "[I", true)
  | 5 => ("WaySigns", "boards", "[[I", true)
  | 6 => ("WaySigns", "trial", "[I", true)
  | 7 => ("WaySigns", "names", "I", false)
  | 8 => ("WaySigns", "entrances", "I", false)
  | 9 => ("WaySigns", "slack", "I", false)
  | 10 => ("WaySigns", "mendPlace", "I", false)
  | 11 => ("WaySigns", "mendName", "I", false)
  | _ => ("WaySigns", "mendArrived", "I", false)
def tyX3 : Nat → FieldType := fun k => match k with
  | 0 => .object "WaySigns$Building"
  | 1 => .object "WaySigns$Guide"
  | 2 => .object "WaySigns$Follower"
  | 3 => .object "WaySigns$Follower"
  | 4 => .array .int
  | 5 => .array (.array .int)
  | 6 => .array .int
  | 7 => .int
  | 8 => .int
  | 9 => .int
  | 10 => .int
  | 11 => .int
  | _ => .int
theorem nmX3 : ∀ a, a < 13 → ∀ b, b < 13 → a ≠ b → (TX3 a).2.1 ≠ (TX3 b).2.1 := by decide +kernel
theorem tyX3_ok : ∀ k, k < 13 → parseFieldDescriptor (TX3 k).2.2.1 = some (tyX3 k) := by decide +kernel
abbrev cX3_init : ByteArray := prog_1_method_1_code
def yX3_init : MethodName := ⟨RX3, "<init>", "()V"⟩
abbrev cX3_walk : ByteArray := prog_1_method_2_code
def yX3_walk : MethodName := ⟨RX3, "walk", "(III)I"⟩
abbrev cX3_unwalk : ByteArray := prog_1_method_3_code
def yX3_unwalk : MethodName := ⟨RX3, "unwalk", "()I"⟩
abbrev cX3_open : ByteArray := prog_1_method_4_code
def yX3_open : MethodName := ⟨RX3, "open", "(IZ)I"⟩
abbrev cX3_ofWalk : ByteArray := prog_1_method_5_code
def yX3_ofWalk : MethodName := ⟨RX3, "ofWalk", "(II)I"⟩
abbrev cX3_name : ByteArray := prog_1_method_6_code
def yX3_name : MethodName := ⟨RX3, "name", "(I)I"⟩
abbrev cX3_moves : ByteArray := prog_1_method_7_code
def yX3_moves : MethodName := ⟨RX3, "moves", "(II)I"⟩
abbrev cX3_entrance : ByteArray := prog_1_method_8_code
def yX3_entrance : MethodName := ⟨RX3, "entrance", "(IZ)I"⟩
abbrev cX3_detour : ByteArray := prog_1_method_9_code
def yX3_detour : MethodName := ⟨RX3, "detour", "(I)I"⟩
abbrev cX3_board : ByteArray := prog_1_method_10_code
def yX3_board : MethodName := ⟨RX3, "board", "(III)I"⟩
abbrev cX3_unboard : ByteArray := prog_1_method_11_code
def yX3_unboard : MethodName := ⟨RX3, "unboard", "(II)I"⟩
abbrev cX3_arrow : ByteArray := prog_1_method_12_code
def yX3_arrow : MethodName := ⟨RX3, "arrow", "(II)I"⟩
abbrev cX3_far : ByteArray := prog_1_method_13_code
def yX3_far : MethodName := ⟨RX3, "far", "(III)I"⟩
abbrev cX3_from : ByteArray := prog_1_method_14_code
def yX3_from : MethodName := ⟨RX3, "from", "(I)I"⟩
abbrev cX3_follow : ByteArray := prog_1_method_15_code
def yX3_follow : MethodName := ⟨RX3, "follow", "(III)I"⟩
abbrev cX3_ends : ByteArray := prog_1_method_16_code
def yX3_ends : MethodName := ⟨RX3, "ends", "(I)I"⟩
abbrev cX3_those : ByteArray := prog_1_method_17_code
def yX3_those : MethodName := ⟨RX3, "those", "(II)I"⟩
abbrev cX3_idle : ByteArray := prog_1_method_18_code
def yX3_idle : MethodName := ⟨RX3, "idle", "(I)I"⟩
abbrev cX3_mend : ByteArray := prog_1_method_19_code
def yX3_mend : MethodName := ⟨RX3, "mend", "(I)I"⟩
abbrev cX3_leads : ByteArray := prog_1_method_20_code
def yX3_leads : MethodName := ⟨RX3, "leads", "(II)I"⟩
abbrev cX3_fewest : ByteArray := prog_1_method_21_code
def yX3_fewest : MethodName := ⟨RX3, "fewest", "(I)I"⟩
abbrev cX3_posts : ByteArray := prog_1_method_22_code
def yX3_posts : MethodName := ⟨RX3, "posts", "()I"⟩
abbrev cX3_many : ByteArray := prog_1_method_23_code
def yX3_many : MethodName := ⟨RX3, "many", "(I)I"⟩
abbrev cX3_isPlace : ByteArray := prog_1_method_24_code
def yX3_isPlace : MethodName := ⟨RX3, "isPlace", "(I)Z"⟩
abbrev cX3_isEnding : ByteArray := prog_1_method_25_code
def yX3_isEnding : MethodName := ⟨RX3, "isEnding", "(I)Z"⟩
abbrev cX3_holds : ByteArray := prog_1_method_26_code
def yX3_holds : MethodName := ⟨RX3, "holds", "(II)Z"⟩
abbrev cX3_isName : ByteArray := prog_1_method_27_code
def yX3_isName : MethodName := ⟨RX3, "isName", "(I)Z"⟩
abbrev cX3_countBoards : ByteArray := prog_1_method_28_code
def yX3_countBoards : MethodName := ⟨RX3, "countBoards", "()I"⟩
abbrev cX3_boardedPlaces : ByteArray := prog_1_method_29_code
def yX3_boardedPlaces : MethodName := ⟨RX3, "boardedPlaces", "()I"⟩
abbrev cX3_boardedFor : ByteArray := prog_1_method_30_code
def yX3_boardedFor : MethodName := ⟨RX3, "boardedFor", "(I)I"⟩
abbrev cX3_countEndings : ByteArray := prog_1_method_31_code
def yX3_countEndings : MethodName := ⟨RX3, "countEndings", "(I[II)I"⟩
abbrev cX3_isIdle : ByteArray := prog_1_method_32_code
def yX3_isIdle : MethodName := ⟨RX3, "isIdle", "(II)Z"⟩
abbrev cX3_findMend : ByteArray := prog_1_method_33_code
def yX3_findMend : MethodName := ⟨RX3, "findMend", "()V"⟩
abbrev cX3_offerMend : ByteArray := prog_1_method_34_code
def yX3_offerMend : MethodName := ⟨RX3, "offerMend", "(III)V"⟩
abbrev cX3_wouldLead : ByteArray := prog_1_method_35_code
def yX3_wouldLead : MethodName := ⟨RX3, "wouldLead", "(II)Z"⟩
abbrev cX3_leastSet : ByteArray := prog_1_method_36_code
def yX3_leastSet : MethodName := ⟨RX3, "leastSet", "(II)I"⟩
abbrev cX3_choicesOnBestWays : ByteArray := prog_1_method_37_code
def yX3_choicesOnBestWays : MethodName := ⟨RX3, "choicesOnBestWays", "(I)I"⟩
abbrev cX3_choicesFrom : ByteArray := prog_1_method_38_code
def yX3_choicesFrom : MethodName := ⟨RX3, "choicesFrom", "(II)I"⟩
def RX4 : String := "WaySignsModel"
def TX4 : u_T := fun k => match k with
  | 0 => ("WaySignsModel", "walks", "I", false)
  | 1 => ("WaySignsModel", "fromOf", "[I", true)
  | 2 => ("WaySignsModel", "toOf", "[I", true)
  | 3 => ("WaySignsModel", "longOf", "[I", true)
  | 4 => ("WaySignsModel", "isOpen", "[Z", true)
  | 5 => ("WaySignsModel", "names", "I", false)
  | 6 => ("WaySignsModel", "placeOf", "[I", true)
  | 7 => ("WaySignsModel", "entrances", "I", false)
  | 8 => ("WaySignsModel", "detourNow", "I", false)
  | 9 => ("WaySignsModel", "arrowOf", "[I", true)
  | 10 => ("WaySignsModel", "farOf", "[I", true)
  | 11 => ("WaySignsModel", "arrowAt", "[I", true)
  | 12 => ("WaySignsModel", "hasCome", "[Z", true)
  | 13 => ("WaySignsModel", "ended", "I", false)
  | 14 => ("WaySignsModel", "steps", "I", false)
  | 15 => ("WaySignsModel", "gone", "I", false)
  | 16 => ("WaySignsModel", "way", "[I", true)
  | 17 => ("WaySignsModel", "keptSteps", "I", false)
  | 18 => ("WaySignsModel", "keptEnd", "I", false)
  | 19 => ("WaySignsModel", "keptWay", "[I", true)
  | _ => ("WaySignsModel", "doesLead", "[Z", true)
def tyX4 : Nat → FieldType := fun k => match k with
  | 0 => .int
  | 1 => .array .int
  | 2 => .array .int
  | 3 => .array .int
  | 4 => .array .boolean
  | 5 => .int
  | 6 => .array .int
  | 7 => .int
  | 8 => .int
  | 9 => .array .int
  | 10 => .array .int
  | 11 => .array .int
  | 12 => .array .boolean
  | 13 => .int
  | 14 => .int
  | 15 => .int
  | 16 => .array .int
  | 17 => .int
  | 18 => .int
  | 19 => .array .int
  | _ => .array .boolean
theorem nmX4 : ∀ a, a < 21 → ∀ b, b < 21 → a ≠ b → (TX4 a).2.1 ≠ (TX4 b).2.1 := by decide +kernel
theorem tyX4_ok : ∀ k, k < 21 → parseFieldDescriptor (TX4 k).2.2.1 = some (tyX4 k) := by decide +kernel
abbrev cX4_init : ByteArray := prog_6_method_1_code
def yX4_init : MethodName := ⟨RX4, "<init>", "()V"⟩
abbrev cX4_within : ByteArray := prog_6_method_2_code
def yX4_within : MethodName := ⟨RX4, "within", "(III)Z"⟩
abbrev cX4_isPlace : ByteArray := prog_6_method_3_code
def yX4_isPlace : MethodName := ⟨RX4, "isPlace", "(I)Z"⟩
abbrev cX4_isWalk : ByteArray := prog_6_method_4_code
def yX4_isWalk : MethodName := ⟨RX4, "isWalk", "(I)Z"⟩
abbrev cX4_isName : ByteArray := prog_6_method_5_code
def yX4_isName : MethodName := ⟨RX4, "isName", "(I)Z"⟩
abbrev cX4_walkBetween : ByteArray := prog_6_method_6_code
def yX4_walkBetween : MethodName := ⟨RX4, "walkBetween", "(II)I"⟩
abbrev cX4_openBetween : ByteArray := prog_6_method_7_code
def yX4_openBetween : MethodName := ⟨RX4, "openBetween", "(II)I"⟩
abbrev cX4_walk : ByteArray := prog_6_method_8_code
def yX4_walk : MethodName := ⟨RX4, "walk", "(III)I"⟩
abbrev cX4_unwalk : ByteArray := prog_6_method_9_code
def yX4_unwalk : MethodName := ⟨RX4, "unwalk", "()I"⟩
abbrev cX4_open : ByteArray := prog_6_method_10_code
def yX4_open : MethodName := ⟨RX4, "open", "(IZ)I"⟩
abbrev cX4_ofWalk : ByteArray := prog_6_method_11_code
def yX4_ofWalk : MethodName := ⟨RX4, "ofWalk", "(II)I"⟩
abbrev cX4_name : ByteArray := prog_6_method_12_code
def yX4_name : MethodName := ⟨RX4, "name", "(I)I"⟩
abbrev cX4_moves : ByteArray := prog_6_method_13_code
def yX4_moves : MethodName := ⟨RX4, "moves", "(II)I"⟩
abbrev cX4_isIn : ByteArray := prog_6_method_14_code
def yX4_isIn : MethodName := ⟨RX4, "isIn", "(II)Z"⟩
abbrev cX4_entrance : ByteArray := prog_6_method_15_code
def yX4_entrance : MethodName := ⟨RX4, "entrance", "(IZ)I"⟩
abbrev cX4_detour : ByteArray := prog_6_method_16_code
def yX4_detour : MethodName := ⟨RX4, "detour", "(I)I"⟩
abbrev cX4_board : ByteArray := prog_6_method_17_code
def yX4_board : MethodName := ⟨RX4, "board", "(III)I"⟩
abbrev cX4_unboard : ByteArray := prog_6_method_18_code
def yX4_unboard : MethodName := ⟨RX4, "unboard", "(II)I"⟩
abbrev cX4_arrow : ByteArray := prog_6_method_19_code
def yX4_arrow : MethodName := ⟨RX4, "arrow", "(II)I"⟩
abbrev cX4_draws : ByteArray := prog_6_method_20_code
def yX4_draws : MethodName := ⟨RX4, "draws", "(III)V"⟩
abbrev cX4_findFar : ByteArray := prog_6_method_21_code
def yX4_findFar : MethodName := ⟨RX4, "findFar", "(I)V"⟩
abbrev cX4_bestAt : ByteArray := prog_6_method_22_code
def yX4_bestAt : MethodName := ⟨RX4, "bestAt", "(I)I"⟩
abbrev cX4_far : ByteArray := prog_6_method_23_code
def yX4_far : MethodName := ⟨RX4, "far", "(III)I"⟩
abbrev cX4_from : ByteArray := prog_6_method_24_code
def yX4_from : MethodName := ⟨RX4, "from", "(I)I"⟩
abbrev cX4_laysArrows : ByteArray := prog_6_method_25_code
def yX4_laysArrows : MethodName := ⟨RX4, "laysArrows", "(I)V"⟩
abbrev cX4_touches : ByteArray := prog_6_method_26_code
def yX4_touches : MethodName := ⟨RX4, "touches", "(II)Z"⟩
abbrev cX4_onlyWalk : ByteArray := prog_6_method_27_code
def yX4_onlyWalk : MethodName := ⟨RX4, "onlyWalk", "(II)I"⟩
abbrev cX4_nextWalk : ByteArray := prog_6_method_28_code
def yX4_nextWalk : MethodName := ⟨RX4, "nextWalk", "(II)I"⟩
abbrev cX4_follows : ByteArray := prog_6_method_29_code
def yX4_follows : MethodName := ⟨RX4, "follows", "(II)V"⟩
abbrev cX4_follow : ByteArray := prog_6_method_30_code
def yX4_follow : MethodName := ⟨RX4, "follow", "(III)I"⟩
abbrev cX4_manyEnd : ByteArray := prog_6_method_31_code
def yX4_manyEnd : MethodName := ⟨RX4, "manyEnd", "(II)I"⟩
abbrev cX4_ends : ByteArray := prog_6_method_32_code
def yX4_ends : MethodName := ⟨RX4, "ends", "(I)I"⟩
abbrev cX4_those : ByteArray := prog_6_method_33_code
def yX4_those : MethodName := ⟨RX4, "those", "(II)I"⟩
abbrev cX4_keeps : ByteArray := prog_6_method_34_code
def yX4_keeps : MethodName := ⟨RX4, "keeps", "()V"⟩
abbrev cX4_isAsKept : ByteArray := prog_6_method_35_code
def yX4_isAsKept : MethodName := ⟨RX4, "isAsKept", "()Z"⟩
abbrev cX4_isIdle : ByteArray := prog_6_method_36_code
def yX4_isIdle : MethodName := ⟨RX4, "isIdle", "(II)Z"⟩
abbrev cX4_idle : ByteArray := prog_6_method_37_code
def yX4_idle : MethodName := ⟨RX4, "idle", "(I)I"⟩
abbrev cX4_moreBy : ByteArray := prog_6_method_38_code
def yX4_moreBy : MethodName := ⟨RX4, "moreBy", "(II)I"⟩
abbrev cX4_mend : ByteArray := prog_6_method_39_code
def yX4_mend : MethodName := ⟨RX4, "mend", "(I)I"⟩
abbrev cX4_haveBest : ByteArray := prog_6_method_40_code
def yX4_haveBest : MethodName := ⟨RX4, "haveBest", "(I)I"⟩
abbrev cX4_doLead : ByteArray := prog_6_method_41_code
def yX4_doLead : MethodName := ⟨RX4, "doLead", "(II)Z"⟩
abbrev cX4_leadsTo : ByteArray := prog_6_method_42_code
def yX4_leadsTo : MethodName := ⟨RX4, "leadsTo", "(II)Z"⟩
abbrev cX4_leads : ByteArray := prog_6_method_43_code
def yX4_leads : MethodName := ⟨RX4, "leads", "(II)I"⟩
abbrev cX4_manyOf : ByteArray := prog_6_method_44_code
def yX4_manyOf : MethodName := ⟨RX4, "manyOf", "(I)I"⟩
abbrev cX4_fewest : ByteArray := prog_6_method_45_code
def yX4_fewest : MethodName := ⟨RX4, "fewest", "(I)I"⟩
abbrev cX4_posts : ByteArray := prog_6_method_46_code
def yX4_posts : MethodName := ⟨RX4, "posts", "()I"⟩
abbrev cX4_manyBoards : ByteArray := prog_6_method_47_code
def yX4_manyBoards : MethodName := ⟨RX4, "manyBoards", "(I)I"⟩
abbrev cX4_allBoards : ByteArray := prog_6_method_48_code
def yX4_allBoards : MethodName := ⟨RX4, "allBoards", "(Z)I"⟩
abbrev cX4_many : ByteArray := prog_6_method_49_code
def yX4_many : MethodName := ⟨RX4, "many", "(I)I"⟩
abbrev cX4_manyOpen : ByteArray := prog_6_method_50_code
def yX4_manyOpen : MethodName := ⟨RX4, "manyOpen", "()I"⟩
def RJ6 : String := "java/lang/Integer"
def TJ6 : u_T := fun k => match k with
  | _ => ("", "", "", false)
def tyJ6 : Nat → FieldType := fun k => match k with
  | _ => .int
theorem nmJ6 : ∀ a, a < 0 → ∀ b, b < 0 → a ≠ b → (TJ6 a).2.1 ≠ (TJ6 b).2.1 := by decide +kernel
theorem tyJ6_ok : ∀ k, k < 0 → parseFieldDescriptor (TJ6 k).2.2.1 = some (tyJ6 k) := by decide +kernel
abbrev cJ6_bitCount_0f7a4 : ByteArray := prog_7_method_49_code
def yJ6_bitCount_0f7a4 : MethodName := ⟨RJ6, "bitCount", "(I)I"⟩
def RJ9 : String := "java/lang/Math"
def TJ9 : u_T := fun k => match k with
  | _ => ("", "", "", false)
def tyJ9 : Nat → FieldType := fun k => match k with
  | _ => .int
theorem nmJ9 : ∀ a, a < 0 → ∀ b, b < 0 → a ≠ b → (TJ9 a).2.1 ≠ (TJ9 b).2.1 := by decide +kernel
theorem tyJ9_ok : ∀ k, k < 0 → parseFieldDescriptor (TJ9 k).2.2.1 = some (tyJ9 k) := by decide +kernel
abbrev cJ9_max_7cf53 : ByteArray := prog_8_method_65_code
def yJ9_max_7cf53 : MethodName := ⟨RJ9, "max", "(II)I"⟩
abbrev cJ9_min_7cf53 : ByteArray := prog_8_method_69_code
def yJ9_min_7cf53 : MethodName := ⟨RJ9, "min", "(II)I"⟩
def RJ10 : String := "java/lang/System"
def TJ10 : u_T := fun k => match k with
  | _ => ("", "", "", false)
def tyJ10 : Nat → FieldType := fun k => match k with
  | _ => .int
theorem nmJ10 : ∀ a, a < 0 → ∀ b, b < 0 → a ≠ b → (TJ10 a).2.1 ≠ (TJ10 b).2.1 := by decide +kernel
theorem tyJ10_ok : ∀ k, k < 0 → parseFieldDescriptor (TJ10 k).2.2.1 = some (tyJ10 k) := by decide +kernel
def RJ7 : String := "java/util/Arrays"
def TJ7 : u_T := fun k => match k with
  | _ => ("", "", "", false)
def tyJ7 : Nat → FieldType := fun k => match k with
  | _ => .int
theorem nmJ7 : ∀ a, a < 0 → ∀ b, b < 0 → a ≠ b → (TJ7 a).2.1 ≠ (TJ7 b).2.1 := by decide +kernel
theorem tyJ7_ok : ∀ k, k < 0 → parseFieldDescriptor (TJ7 k).2.2.1 = some (tyJ7 k) := by decide +kernel
abbrev cJ7_fill_53178 : ByteArray := prog_10_method_103_code
def yJ7_fill_53178 : MethodName := ⟨RJ7, "fill", "([II)V"⟩
def RL : String := "WaySignsLaw"
abbrev cL_law : ByteArray := code
def yL_law : MethodName := ⟨RL, "law", "([I)Z"⟩
abbrev vwCl : List vw_C := [(RX0, TX0, 7), (RX1, TX1, 5), (RX2, TX2, 3), (RX3, TX3, 13), (RX4, TX4, 21)]
/-- a method: its name, its code, how many locals, what it answers, how deep its calls go -/
abbrev zY : Type := MethodName × ByteArray × Nat × Option FieldType × Nat
def mX3_init : zY := (yX3_init, cX3_init, 2, none, 1)
def mX0_init : zY := (yX0_init, cX0_init, 1, none, 0)
def mX2_init : zY := (yX2_init, cX2_init, 1, none, 0)
def mX1_init : zY := (yX1_init, cX1_init, 1, none, 0)
def mJ7_fill_53178 : zY := (yJ7_fill_53178, cJ7_fill_53178, 4, none, 0)
def mX3_walk : zY := (yX3_walk, cX3_walk, 4, some .int, 2)
def mX3_isPlace : zY := (yX3_isPlace, cX3_isPlace, 1, some .boolean, 0)
def mX0_joins : zY := (yX0_joins, cX0_joins, 6, some .boolean, 1)
def mJ9_min_7cf53 : zY := (yJ9_min_7cf53, cJ9_min_7cf53, 2, some .int, 0)
def mJ9_max_7cf53 : zY := (yJ9_max_7cf53, cJ9_max_7cf53, 2, some .int, 0)
def mX0_add : zY := (yX0_add, cX0_add, 5, some .int, 1)
def mX0_turn : zY := (yX0_turn, cX0_turn, 5, some .boolean, 0)
def mX3_unwalk : zY := (yX3_unwalk, cX3_unwalk, 1, some .int, 2)
def mX0_removeLast : zY := (yX0_removeLast, cX0_removeLast, 1, some .int, 1)
def mX3_open : zY := (yX3_open, cX3_open, 3, some .int, 1)
def mX0_has : zY := (yX0_has, cX0_has, 2, some .boolean, 0)
def mX3_ofWalk : zY := (yX3_ofWalk, cX3_ofWalk, 3, some .int, 1)
def mX3_name : zY := (yX3_name, cX3_name, 2, some .int, 1)
def mX3_moves : zY := (yX3_moves, cX3_moves, 4, some .int, 1)
def mX3_isName : zY := (yX3_isName, cX3_isName, 2, some .boolean, 0)
def mX3_entrance : zY := (yX3_entrance, cX3_entrance, 3, some .int, 1)
def mX3_holds : zY := (yX3_holds, cX3_holds, 2, some .boolean, 0)
def mX3_detour : zY := (yX3_detour, cX3_detour, 3, some .int, 0)
def mX3_board : zY := (yX3_board, cX3_board, 5, some .int, 2)
def mX3_unboard : zY := (yX3_unboard, cX3_unboard, 4, some .int, 1)
def mX3_arrow : zY := (yX3_arrow, cX3_arrow, 3, some .int, 1)
def mX3_far : zY := (yX3_far, cX3_far, 4, some .int, 3)
def mX2_draw : zY := (yX2_draw, cX2_draw, 5, none, 2)
def mX2_measure : zY := (yX2_measure, cX2_measure, 8, none, 1)
def mX2_shorten : zY := (yX2_shorten, cX2_shorten, 4, some .boolean, 0)
def mX2_bestAt : zY := (yX2_bestAt, cX2_bestAt, 5, some .int, 0)
def mX3_from : zY := (yX3_from, cX3_from, 2, some .int, 1)
def mX3_follow : zY := (yX3_follow, cX3_follow, 5, some .int, 3)
def mX1_go : zY := (yX1_go, cX1_go, 9, none, 2)
def mX1_nextFrom : zY := (yX1_nextFrom, cX1_nextFrom, 5, some .int, 1)
def mJ6_bitCount_0f7a4 : zY := (yJ6_bitCount_0f7a4, cJ6_bitCount_0f7a4, 1, some .int, 0)
def mX1_placeAt : zY := (yX1_placeAt, cX1_placeAt, 2, some .int, 0)
def mX3_ends : zY := (yX3_ends, cX3_ends, 4, some .int, 4)
def mX3_isEnding : zY := (yX3_isEnding, cX3_isEnding, 1, some .boolean, 0)
def mX3_countEndings : zY := (yX3_countEndings, cX3_countEndings, 6, some .int, 3)
def mX3_those : zY := (yX3_those, cX3_those, 5, some .int, 3)
def mX3_idle : zY := (yX3_idle, cX3_idle, 4, some .int, 4)
def mX3_isIdle : zY := (yX3_isIdle, cX3_isIdle, 4, some .boolean, 3)
def mX1_wentLike : zY := (yX1_wentLike, cX1_wentLike, 3, some .boolean, 0)
def mX3_mend : zY := (yX3_mend, cX3_mend, 2, some .int, 6)
def mX3_findMend : zY := (yX3_findMend, cX3_findMend, 6, none, 5)
def mX3_offerMend : zY := (yX3_offerMend, cX3_offerMend, 4, none, 0)
def mX3_leads : zY := (yX3_leads, cX3_leads, 3, some .int, 4)
def mX3_wouldLead : zY := (yX3_wouldLead, cX3_wouldLead, 4, some .boolean, 3)
def mX3_fewest : zY := (yX3_fewest, cX3_fewest, 2, some .int, 5)
def mX3_leastSet : zY := (yX3_leastSet, cX3_leastSet, 5, some .int, 4)
def mX3_choicesOnBestWays : zY := (yX3_choicesOnBestWays, cX3_choicesOnBestWays, 4, some .int, 2)
def mX3_choicesFrom : zY := (yX3_choicesFrom, cX3_choicesFrom, 7, some .int, 1)
def mX3_posts : zY := (yX3_posts, cX3_posts, 1, some .int, 5)
def mX3_many : zY := (yX3_many, cX3_many, 2, some .int, 2)
def mX0_countOpen : zY := (yX0_countOpen, cX0_countOpen, 3, some .int, 0)
def mX3_countBoards : zY := (yX3_countBoards, cX3_countBoards, 3, some .int, 1)
def mX3_boardedFor : zY := (yX3_boardedFor, cX3_boardedFor, 4, some .int, 0)
def mX3_boardedPlaces : zY := (yX3_boardedPlaces, cX3_boardedPlaces, 3, some .int, 1)
def mX4_init : zY := (yX4_init, cX4_init, 2, none, 0)
def mX4_walk : zY := (yX4_walk, cX4_walk, 4, some .int, 2)
def mX4_isPlace : zY := (yX4_isPlace, cX4_isPlace, 1, some .boolean, 1)
def mX4_within : zY := (yX4_within, cX4_within, 3, some .boolean, 0)
def mX4_walkBetween : zY := (yX4_walkBetween, cX4_walkBetween, 4, some .int, 0)
def mX4_unwalk : zY := (yX4_unwalk, cX4_unwalk, 1, some .int, 0)
def mX4_open : zY := (yX4_open, cX4_open, 3, some .int, 2)
def mX4_isWalk : zY := (yX4_isWalk, cX4_isWalk, 2, some .boolean, 1)
def mX4_ofWalk : zY := (yX4_ofWalk, cX4_ofWalk, 3, some .int, 2)
def mX4_name : zY := (yX4_name, cX4_name, 2, some .int, 2)
def mX4_moves : zY := (yX4_moves, cX4_moves, 4, some .int, 2)
def mX4_isName : zY := (yX4_isName, cX4_isName, 2, some .boolean, 1)
def mX4_entrance : zY := (yX4_entrance, cX4_entrance, 3, some .int, 2)
def mX4_isIn : zY := (yX4_isIn, cX4_isIn, 2, some .boolean, 0)
def mX4_detour : zY := (yX4_detour, cX4_detour, 3, some .int, 1)
def mX4_board : zY := (yX4_board, cX4_board, 5, some .int, 2)
def mX4_unboard : zY := (yX4_unboard, cX4_unboard, 4, some .int, 2)
def mX4_arrow : zY := (yX4_arrow, cX4_arrow, 3, some .int, 2)
def mX4_far : zY := (yX4_far, cX4_far, 4, some .int, 3)
def mX4_findFar : zY := (yX4_findFar, cX4_findFar, 4, none, 1)
def mX4_draws : zY := (yX4_draws, cX4_draws, 5, none, 0)
def mX4_bestAt : zY := (yX4_bestAt, cX4_bestAt, 4, some .int, 2)
def mX4_openBetween : zY := (yX4_openBetween, cX4_openBetween, 4, some .int, 1)
def mX4_from : zY := (yX4_from, cX4_from, 4, some .int, 2)
def mX4_follow : zY := (yX4_follow, cX4_follow, 4, some .int, 4)
def mX4_laysArrows : zY := (yX4_laysArrows, cX4_laysArrows, 3, none, 0)
def mX4_follows : zY := (yX4_follows, cX4_follows, 6, none, 3)
def mX4_nextWalk : zY := (yX4_nextWalk, cX4_nextWalk, 4, some .int, 2)
def mX4_onlyWalk : zY := (yX4_onlyWalk, cX4_onlyWalk, 5, some .int, 1)
def mX4_touches : zY := (yX4_touches, cX4_touches, 3, some .boolean, 0)
def mX4_ends : zY := (yX4_ends, cX4_ends, 4, some .int, 5)
def mX4_manyEnd : zY := (yX4_manyEnd, cX4_manyEnd, 5, some .int, 4)
def mX4_those : zY := (yX4_those, cX4_those, 5, some .int, 4)
def mX4_idle : zY := (yX4_idle, cX4_idle, 4, some .int, 5)
def mX4_isIdle : zY := (yX4_isIdle, cX4_isIdle, 6, some .boolean, 4)
def mX4_keeps : zY := (yX4_keeps, cX4_keeps, 2, none, 0)
def mX4_isAsKept : zY := (yX4_isAsKept, cX4_isAsKept, 3, some .boolean, 0)
def mX4_mend : zY := (yX4_mend, cX4_mend, 7, some .int, 6)
def mX4_moreBy : zY := (yX4_moreBy, cX4_moreBy, 5, some .int, 5)
def mX4_leads : zY := (yX4_leads, cX4_leads, 3, some .int, 6)
def mX4_leadsTo : zY := (yX4_leadsTo, cX4_leadsTo, 3, some .boolean, 5)
def mX4_haveBest : zY := (yX4_haveBest, cX4_haveBest, 4, some .int, 3)
def mX4_doLead : zY := (yX4_doLead, cX4_doLead, 4, some .boolean, 4)
def mX4_fewest : zY := (yX4_fewest, cX4_fewest, 6, some .int, 5)
def mX4_manyOf : zY := (yX4_manyOf, cX4_manyOf, 3, some .int, 0)
def mX4_posts : zY := (yX4_posts, cX4_posts, 4, some .int, 5)
def mX4_many : zY := (yX4_many, cX4_many, 2, some .int, 2)
def mX4_manyOpen : zY := (yX4_manyOpen, cX4_manyOpen, 3, some .int, 0)
def mX4_allBoards : zY := (yX4_allBoards, cX4_allBoards, 5, some .int, 1)
def mX4_manyBoards : zY := (yX4_manyBoards, cX4_manyBoards, 4, some .int, 0)
end
section
/-! THE CALCULUS: one world of 59 cells (places by the order in which they are made), its numbers as one memory; 'z_Ok': a method of the program, at a pc, with locals, stack and memory, comes to its end with a given end state. A row an instruction, over no machine's names. -/
abbrev zM : Type := Nat → Nat → Int32
abbrev zG : Type := (Nat → Nat) × ClassId × ClassId × ClassId × va_G
abbrev zS : Type := (Nat × List (Option Nat)) ⊕ (Nat × Nat) ⊕ (Nat × Nat)
/-- the shapes of the places: an object (its class; of each field the place that it names, or none: a number), a row of numbers (0 int, 1 boolean; its length), a row of rows (how many, the first one's place) -/
def z_sh : List zS := [
  .inl (3, [some 1, some 18, some 32, some 35, some 38, some 39, some 45, none, none, none, none, none, none]),
  .inl (0, [some 2, some 3, some 4, some 5, some 6, some 7, none]),
  .inr (.inl (0, 14)), .inr (.inl (0, 14)), .inr (.inl (0, 14)), .inr (.inl (1, 14)), .inr (.inl (0, 10)),
  .inr (.inr (10, 8)), .inr (.inl (0, 10)), .inr (.inl (0, 10)), .inr (.inl (0, 10)), .inr (.inl (0, 10)), .inr (.inl (0, 10)), .inr (.inl (0, 10)), .inr (.inl (0, 10)), .inr (.inl (0, 10)), .inr (.inl (0, 10)), .inr (.inl (0, 10)),
  .inl (2, [some 19, some 25, some 31]),
  .inr (.inr (5, 20)), .inr (.inl (0, 10)), .inr (.inl (0, 10)), .inr (.inl (0, 10)), .inr (.inl (0, 10)), .inr (.inl (0, 10)),
  .inr (.inr (5, 26)), .inr (.inl (0, 10)), .inr (.inl (0, 10)), .inr (.inl (0, 10)), .inr (.inl (0, 10)), .inr (.inl (0, 10)),
  .inr (.inl (0, 5)),
  .inl (1, [some 33, some 34, none, none, none]), .inr (.inl (0, 30)), .inr (.inl (0, 10)),
  .inl (1, [some 36, some 37, none, none, none]), .inr (.inl (0, 30)), .inr (.inl (0, 10)),
  .inr (.inl (0, 5)),
  .inr (.inr (5, 40)), .inr (.inl (0, 10)), .inr (.inl (0, 10)), .inr (.inl (0, 10)), .inr (.inl (0, 10)), .inr (.inl (0, 10)),
  .inr (.inl (0, 10)),
  .inl (4, [none, some 47, some 48, some 49, some 50, none, some 51, none, none, some 52, some 53, some 54, some 55, none, none, none, some 56, none, none, some 57, some 58]),
  .inr (.inl (0, 14)), .inr (.inl (0, 14)), .inr (.inl (0, 14)), .inr (.inl (1, 14)), .inr (.inl (0, 5)), .inr (.inl (0, 50)), .inr (.inl (0, 10)), .inr (.inl (0, 10)), .inr (.inl (1, 140)), .inr (.inl (0, 41)), .inr (.inl (0, 41)), .inr (.inl (1, 1024))]
def z_f1 (ad : Nat → Nat) (f : Nat → Int32) (k : Nat) (o : Option Nat) : Value := match o with
  | some r => .ref (ad r)
  | none => .int (f k)
def z_fld (ad : Nat → Nat) (f : Nat → Int32) (fs : List (Option Nat)) : List Value := fs.mapIdx (z_f1 ad f)
def z_cell (G : zG) (f : Nat → Int32) (x : zS) : va_E := match x with
  | .inl o => .inr (o.1, z_fld G.1 f o.2)
  | .inr (.inl (0, n)) => .inl (G.2.1, n, .inl f)
  | .inr (.inl (_ + 1, n)) => .inl (G.2.2.1, n, .inl f)
  | .inr (.inr r) => .inl (G.2.2.2.1, r.1, .inr (.inr (.inr (.inr (fun i => if i < r.1 then some (G.1 (r.2 + i)) else none)))))
def z_W (G : zG) (D : zM) : va_W := z_sh.mapIdx (fun q x => (G.1 q, z_cell G (D q) x))
theorem z_at {G : zG} {D : zM} {q : Nat} {x : zS} (h : z_sh[q]? = some x) : (z_W G D)[q]? = some (G.1 q, z_cell G (D q) x) := by
  unfold z_W
  rw [List.getElem?_mapIdx, h]
  rfl
theorem z_at_inv {G : zG} {D : zM} {q : Nat} {y : Nat × va_E} (h : (z_W G D)[q]? = some y) : q < 59 ∧ y.1 = G.1 q := by
  unfold z_W at h
  rw [List.getElem?_mapIdx] at h
  cases hx : z_sh[q]? with
  | none => rw [hx] at h; cases h
  | some x =>
    rw [hx] at h
    cases h
    exact ⟨(List.getElem?_eq_some_iff.mp hx).1, rfl⟩
def z_row (D : zM) (q : Nat) (f : Nat → Int32) : zM := fun p => if p = q then f else D p
theorem z_row_eq (D : zM) (q : Nat) (f : Nat → Int32) : z_row D q f q = f := if_pos rfl
theorem z_row_ne {D : zM} {q p : Nat} {f : Nat → Int32} (h : p ≠ q) : z_row D q f p = D p := if_neg h
def z_up (D : zM) (q k : Nat) (v : Int32) : zM := z_row D q (upd (D q) k v)
theorem z_up_eq (D : zM) (q k : Nat) (v : Int32) : z_up D q k v q k = v := by simp [z_up, z_row, upd]
theorem z_up_k {D : zM} {q k j : Nat} {v : Int32} (h : j ≠ k) : z_up D q k v q j = D q j := by simp [z_up, z_row, upd, h]
theorem z_up_ne {D : zM} {q p k : Nat} {v : Int32} (h : p ≠ q) : z_up D q k v p = D p := z_row_ne h
theorem z_W_row {G : zG} {D : zM} {q : Nat} {x : zS} {f : Nat → Int32} (h : z_sh[q]? = some x) : (z_W G D).set q (G.1 q, z_cell G f x) = z_W G (z_row D q f) := by
  apply List.ext_getElem?
  intro i
  by_cases hi : i = q
  · subst hi
    rw [List.getElem?_set_self (List.getElem?_eq_some_iff.mp (z_at (G := G) (D := D) h)).1, z_at h, z_row_eq]
  · rw [List.getElem?_set_ne (Ne.symm hi)]
    unfold z_W
    rw [List.getElem?_mapIdx, List.getElem?_mapIdx, z_row_ne hi]
theorem z_fld_set {ad : Nat → Nat} {f : Nat → Int32} {fs : List (Option Nat)} {k : Nat} {v : Int32} (h : fs[k]? = some none) : (z_fld ad f fs).set k (.int v) = z_fld ad (upd f k v) fs := by
  apply List.ext_getElem?
  intro i
  have hl : k < (z_fld ad f fs).length := by
    unfold z_fld
    rw [List.length_mapIdx]
    exact (List.getElem?_eq_some_iff.mp h).1
  by_cases hi : i = k
  · subst hi
    rw [List.getElem?_set_self hl]
    unfold z_fld
    rw [List.getElem?_mapIdx, h]
    simp [z_f1, upd]
  · rw [List.getElem?_set_ne (Ne.symm hi)]
    unfold z_fld
    rw [List.getElem?_mapIdx, List.getElem?_mapIdx]
    cases fs[i]? with
    | none => rfl
    | some o => cases o <;> simp [z_f1, upd, hi]
theorem z_fld_at {ad : Nat → Nat} {f : Nat → Int32} {fs : List (Option Nat)} {k : Nat} {o : Option Nat} (h : fs[k]? = some o) : (z_fld ad f fs)[k]? = some (z_f1 ad f k o) := by
  unfold z_fld
  rw [List.getElem?_mapIdx, h]
  rfl
/-- the addresses are apart -/
def z_inj (G : zG) : Prop := ∀ i j : Nat, i < 59 → j < 59 → G.1 i = G.1 j → i = j
def z_A (G : zG) : Nat → Prop := fun q => ∃ k, k < 59 ∧ G.1 k = q
theorem z_D {G : zG} (h : z_inj G) (D : zM) : va_D (z_A G) (z_W G D) := by
  refine ⟨fun i j x y hx hy hxy => ?_, fun k q hk => ?_⟩
  · obtain ⟨a1, a2⟩ := z_at_inv hx
    obtain ⟨b1, b2⟩ := z_at_inv hy
    exact h i j a1 b1 (a2.symm.trans (hxy.trans b2))
  · obtain ⟨a1, a2⟩ := z_at_inv hk
    exact ⟨k, a1, a2.symm⟩
/-- a value of the program: a reference names a place -/
def z_v (G : zG) (v : Value) : Value := match v with
  | .ref k => .ref (G.1 k)
  | w => w
theorem z_v_cat (G : zG) (v : Value) : (z_v G v).category = v.category := by cases v <;> rfl
/-- the words that hold in every method -/
def z_T : List Cond := lw_tbl.filter goodWord
theorem z_mem {w : Cond} (i : Nat) (h : lw_tbl[i]? = some w) (hg : goodWord w = true) : w ∈ z_T := List.mem_filter.mpr ⟨List.mem_of_getElem? h, hg⟩
def z_wd (Y : zY) : List Cond := .code Y.1 Y.2.1 Y.2.2.1 Y.2.2.2.1 :: z_T
theorem z_good {Y : zY} (h : Cond.code Y.1 Y.2.1 Y.2.2.1 Y.2.2.2.1 ∈ z_T) : GoodIn z_T (z_wd Y) := by
  intro w hw
  have hm : w ∈ z_T := (List.mem_cons.mp hw).elim (fun e => e ▸ h) id
  exact ⟨hm, good_of_word (List.mem_filter.mp hm).2⟩
def z_rm (n : Nat) : Room := { frames := n, cells := 0, slots := 0, locals := 30 * n }
def z_nest : Cond := .methodLinkNest RX1 47 yX3_holds RX3
def z_tys (G : zG) : List (ClassId × FieldType) := [(G.2.1, .int), (G.2.2.1, .boolean), (G.2.2.2.1, .array .int)]
/-- what the tables say, at a state -/
def z_St (G : zG) (U : State) : Prop := va_K G.2.2.2.2 vwCl (z_tys G) U ∧ va_Nw z_nest U ∧ z_inj G
theorem z_St.warm {G : zG} {s U : State} (hW : s.WarmedH U.vm) (h : z_St G s) : z_St G U := ⟨va_K.moved hW.alike h.1, va_Nw.warmM hW h.2.1, h.2.2⟩
def z_Cx (Y : zY) (G : zG) (p : Program) (s : State) (m : MethodId) (args : Array Value) (meth : Method) (c : Code) : Prop :=
  p.tables.exec = Jvm.exec ∧ c.code = Y.2.1 ∧ meth.sig.returnType = Y.2.2.2.1 ∧ c.maxLocals = Y.2.2.1 ∧ s.vm.findClass Y.1.cls = some m.cls ∧ (∀ w ∈ z_T, w.before args s = true) ∧ meth.locks = false ∧ z_St G s
def z_Hp (G : zG) (s : State) (D : zM) (H : Heap) (locs : List Loc) : Prop := va_P G.2.2.2.2 vwCl (z_W G D) H ∧ va_S (z_A G) s.heap H locs
def z_l1 (G : zG) (i : Nat) (o : Option Value) : Option (Nat × Value) := o.map (fun v => (i, z_v G v))
def z_ll (G : zG) (lv : List (Option Value)) : List (Nat × Value) := (lv.mapIdx (z_l1 G)).filterMap id
theorem z_ll_mem {G : zG} {lv : List (Option Value)} {q : Nat × Value} : q ∈ z_ll G lv ↔ ∃ w, lv[q.1]? = some (some w) ∧ q.2 = z_v G w := by
  unfold z_ll
  rw [List.mem_filterMap]
  constructor
  · rintro ⟨o, h1, h2⟩
    obtain ⟨i, hi⟩ := List.getElem?_of_mem h1
    rw [List.getElem?_mapIdx] at hi
    cases hx : lv[i]? with
    | none => rw [hx] at hi; cases hi
    | some x =>
      rw [hx] at hi
      cases x with
      | none =>
        have : o = none := (Option.some.inj hi).symm
        rw [this] at h2
        cases h2
      | some w =>
        have : o = some (i, z_v G w) := (Option.some.inj hi).symm
        rw [this] at h2
        have h3 : (i, z_v G w) = q := Option.some.inj h2
        rw [← h3]
        exact ⟨w, hx, rfl⟩
  · rintro ⟨w, h1, h2⟩
    refine ⟨some q, ?_, rfl⟩
    apply List.mem_of_getElem? (i := q.1)
    rw [List.getElem?_mapIdx, h1]
    show some (some (q.1, z_v G w)) = some (some q)
    rw [← h2]
def z_Lv (G : zG) (la : Array Slot) (n : Nat) (lv : List (Option Value)) : Prop := lv_has la n (z_ll G lv) ∧ ∀ q ∈ z_ll G lv, q.2.category = 1
theorem z_Lv.at {G : zG} {la : Array Slot} {n i : Nat} {lv : List (Option Value)} {v : Value} (h : z_Lv G la n lv) (hi : lv[i]? = some (some v)) : la[i]? = some (.val (z_v G v)) := h.1.2.2 (i, z_v G v) (z_ll_mem.mpr ⟨v, hi, rfl⟩)
theorem z_Lv.set {G : zG} {la la' : Array Slot} {n i : Nat} {lv : List (Option Value)} {v : Value} (h : z_Lv G la n lv) (hc : v.category = 1)
    (h' : lv_has la' n ((i, z_v G v) :: (z_ll G lv).filter (fun q => !(q.1 == i) && !(q.1 + 1 == i && q.2.category == 2)))) : z_Lv G la' n (lv.set i (some v)) := by
  have key : ∀ q ∈ z_ll G (lv.set i (some v)), q = (i, z_v G v) ∨ (q.1 ≠ i ∧ q ∈ z_ll G lv) := by
    intro q hq
    obtain ⟨w, h1, h2⟩ := z_ll_mem.mp hq
    by_cases e : q.1 = i
    · left
      have hl : i < lv.length := by
        have := (List.getElem?_eq_some_iff.mp h1).1
        rw [List.length_set] at this
        omega
      rw [e, List.getElem?_set_self hl] at h1
      have : w = v := (Option.some.inj (Option.some.inj h1)).symm
      rw [this] at h2
      exact Prod.ext e h2
    · right
      rw [List.getElem?_set_ne (Ne.symm e)] at h1
      exact ⟨e, z_ll_mem.mpr ⟨w, h1, h2⟩⟩
  refine ⟨⟨h'.1, h'.2.1, fun q hq => ?_⟩, fun q hq => ?_⟩
  · rcases key q hq with rfl | ⟨e, hm⟩
    · exact h'.2.2 _ List.mem_cons_self
    · refine h'.2.2 q (List.mem_cons_of_mem _ (List.mem_filter.mpr ⟨hm, ?_⟩))
      have hc1 := h.2 q hm
      simp [e, hc1]
  · rcases key q hq with rfl | ⟨e, hm⟩
    · rw [z_v_cat]; exact hc
    · exact h.2 q hm
/-- a method's end -/
def z_Q (G : zG) (P : Option Int32 → zM → Prop) : Array Value → State → Outcome → State → Prop := fun _ st oc t =>
  (∃ (r : Option Int32) (D : zM), oc = .returned (r.map Value.int) ∧ P r D ∧ va_P G.2.2.2.2 vwCl (z_W G D) t.heap) ∧ va_F (z_A G) st t
def z_Ok (Y : zY) (pc : Nat) (lv : List (Option Value)) (st : List Value) (D : zM) (P : Option Int32 → zM → Prop) : Prop :=
  ∀ (G : zG) (p : Program) (l : Launch) (e : Env) (s : State) (m : MethodId) (args : Array Value) (below : List Frame) (meth : Method) (c : Code) (H : Heap) (locs : List Loc) (la : Array Slot),
    z_Cx Y G p s m args meth c → z_Hp G s D H locs → z_Lv G la Y.2.2.1 lv →
    W p l e (z_rm Y.2.2.2.2) s m args below meth c H locs 0 0 (MQ below (z_Q G P) args s 0 0 (z_A G)) (F0 m pc la (st.map (z_v G)))
/-- a contract: what a method does with these arguments in this memory -/
def z_en (Y : zY) (as : List Value) : List (Option Value) := as.map some ++ List.replicate (Y.2.2.1 - as.length) none
def z_C (Y : zY) (as : List Value) (D : zM) (P : Option Int32 → zM → Prop) : Prop := z_Ok Y 0 (z_en Y as) [] D P
def z_pi (Q : Int32 → zM → Prop) : Option Int32 → zM → Prop := fun o D => match o with
  | some r => Q r D
  | none => False
def z_pv (Q : zM → Prop) : Option Int32 → zM → Prop := fun o D => match o with
  | some _ => False
  | none => Q D
abbrev z_Ci (Y : zY) (as : List Value) (D : zM) (Q : Int32 → zM → Prop) : Prop := z_C Y as D (z_pi Q)
abbrev z_Cv (Y : zY) (as : List Value) (D : zM) (Q : zM → Prop) : Prop := z_C Y as D (z_pv Q)
end
