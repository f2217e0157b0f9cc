section
-- ===== PART A: goes FIRST, ahead of the names: the tables' words, and 'selects' of the private methods out of them =====
/-- a private method of a class that the tables say can be made, by its rows of tables_1 -/
def lw_okq (q : MethodName × Nat) : Prop := (q.1.cls ≠ "java/lang/invoke/MethodHandle" ∧ q.1.cls ≠ "java/lang/invoke/VarHandle") ∧ Cond.instantiable q.1.cls q.2 ∈ tables_1 ∧ Cond.privateMethod q.1 ∈ tables_1 ∧ Cond.instanceMethod q.1 ∈ tables_1
theorem lw_p0 : lw_okq (⟨"WaySigns", "isName", "(I)Z"⟩, 13) := ⟨⟨by decide +kernel, by decide +kernel⟩, List.mem_of_getElem? (i := 11) (by decide +kernel), List.mem_of_getElem? (i := 208) (by decide +kernel), List.mem_of_getElem? (i := 209) (by decide +kernel)⟩
theorem lw_p1 : lw_okq (⟨"WaySigns", "countEndings", "(I[II)I"⟩, 13) := ⟨⟨by decide +kernel, by decide +kernel⟩, List.mem_of_getElem? (i := 11) (by decide +kernel), List.mem_of_getElem? (i := 287) (by decide +kernel), List.mem_of_getElem? (i := 288) (by decide +kernel)⟩
theorem lw_p2 : lw_okq (⟨"WaySigns", "isIdle", "(II)Z"⟩, 13) := ⟨⟨by decide +kernel, by decide +kernel⟩, List.mem_of_getElem? (i := 11) (by decide +kernel), List.mem_of_getElem? (i := 299) (by decide +kernel), List.mem_of_getElem? (i := 300) (by decide +kernel)⟩
theorem lw_p3 : lw_okq (⟨"WaySigns", "findMend", "()V"⟩, 13) := ⟨⟨by decide +kernel, by decide +kernel⟩, List.mem_of_getElem? (i := 11) (by decide +kernel), List.mem_of_getElem? (i := 314) (by decide +kernel), List.mem_of_getElem? (i := 315) (by decide +kernel)⟩
theorem lw_p4 : lw_okq (⟨"WaySigns", "offerMend", "(III)V"⟩, 13) := ⟨⟨by decide +kernel, by decide +kernel⟩, List.mem_of_getElem? (i := 11) (by decide +kernel), List.mem_of_getElem? (i := 319) (by decide +kernel), List.mem_of_getElem? (i := 320) (by decide +kernel)⟩
theorem lw_p5 : lw_okq (⟨"WaySigns", "wouldLead", "(II)Z"⟩, 13) := ⟨⟨by decide +kernel, by decide +kernel⟩, List.mem_of_getElem? (i := 11) (by decide +kernel), List.mem_of_getElem? (i := 327) (by decide +kernel), List.mem_of_getElem? (i := 328) (by decide +kernel)⟩
theorem lw_p6 : lw_okq (⟨"WaySigns", "leastSet", "(II)I"⟩, 13) := ⟨⟨by decide +kernel, by decide +kernel⟩, List.mem_of_getElem? (i := 11) (by decide +kernel), List.mem_of_getElem? (i := 335) (by decide +kernel), List.mem_of_getElem? (i := 336) (by decide +kernel)⟩
theorem lw_p7 : lw_okq (⟨"WaySigns", "choicesOnBestWays", "(I)I"⟩, 13) := ⟨⟨by decide +kernel, by decide +kernel⟩, List.mem_of_getElem? (i := 11) (by decide +kernel), List.mem_of_getElem? (i := 339) (by decide +kernel), List.mem_of_getElem? (i := 340) (by decide +kernel)⟩
theorem lw_p8 : lw_okq (⟨"WaySigns", "choicesFrom", "(II)I"⟩, 13) := ⟨⟨by decide +kernel, by decide +kernel⟩, List.mem_of_getElem? (i := 11) (by decide +kernel), List.mem_of_getElem? (i := 343) (by decide +kernel), List.mem_of_getElem? (i := 344) (by decide +kernel)⟩
theorem lw_p9 : lw_okq (⟨"WaySigns", "countBoards", "()I"⟩, 13) := ⟨⟨by decide +kernel, by decide +kernel⟩, List.mem_of_getElem? (i := 11) (by decide +kernel), List.mem_of_getElem? (i := 360) (by decide +kernel), List.mem_of_getElem? (i := 361) (by decide +kernel)⟩
theorem lw_p10 : lw_okq (⟨"WaySigns", "boardedFor", "(I)I"⟩, 13) := ⟨⟨by decide +kernel, by decide +kernel⟩, List.mem_of_getElem? (i := 11) (by decide +kernel), List.mem_of_getElem? (i := 364) (by decide +kernel), List.mem_of_getElem? (i := 365) (by decide +kernel)⟩
theorem lw_p11 : lw_okq (⟨"WaySigns", "boardedPlaces", "()I"⟩, 13) := ⟨⟨by decide +kernel, by decide +kernel⟩, List.mem_of_getElem? (i := 11) (by decide +kernel), List.mem_of_getElem? (i := 368) (by decide +kernel), List.mem_of_getElem? (i := 369) (by decide +kernel)⟩
theorem lw_p12 : lw_okq (⟨"WaySignsModel", "walkBetween", "(II)I"⟩, 21) := ⟨⟨by decide +kernel, by decide +kernel⟩, List.mem_of_getElem? (i := 372) (by decide +kernel), List.mem_of_getElem? (i := 452) (by decide +kernel), List.mem_of_getElem? (i := 453) (by decide +kernel)⟩
theorem lw_p13 : lw_okq (⟨"WaySignsModel", "isWalk", "(I)Z"⟩, 21) := ⟨⟨by decide +kernel, by decide +kernel⟩, List.mem_of_getElem? (i := 372) (by decide +kernel), List.mem_of_getElem? (i := 464) (by decide +kernel), List.mem_of_getElem? (i := 465) (by decide +kernel)⟩
theorem lw_p14 : lw_okq (⟨"WaySignsModel", "isName", "(I)Z"⟩, 21) := ⟨⟨by decide +kernel, by decide +kernel⟩, List.mem_of_getElem? (i := 372) (by decide +kernel), List.mem_of_getElem? (i := 480) (by decide +kernel), List.mem_of_getElem? (i := 481) (by decide +kernel)⟩
theorem lw_p15 : lw_okq (⟨"WaySignsModel", "findFar", "(I)V"⟩, 21) := ⟨⟨by decide +kernel, by decide +kernel⟩, List.mem_of_getElem? (i := 372) (by decide +kernel), List.mem_of_getElem? (i := 511) (by decide +kernel), List.mem_of_getElem? (i := 512) (by decide +kernel)⟩
def lw_privs_1 : List (MethodName × Nat) := [(⟨"WaySigns", "isName", "(I)Z"⟩, 13), (⟨"WaySigns", "countEndings", "(I[II)I"⟩, 13), (⟨"WaySigns", "isIdle", "(II)Z"⟩, 13), (⟨"WaySigns", "findMend", "()V"⟩, 13), (⟨"WaySigns", "offerMend", "(III)V"⟩, 13), (⟨"WaySigns", "wouldLead", "(II)Z"⟩, 13), (⟨"WaySigns", "leastSet", "(II)I"⟩, 13), (⟨"WaySigns", "choicesOnBestWays", "(I)I"⟩, 13), (⟨"WaySigns", "choicesFrom", "(II)I"⟩, 13), (⟨"WaySigns", "countBoards", "()I"⟩, 13), (⟨"WaySigns", "boardedFor", "(I)I"⟩, 13), (⟨"WaySigns", "boardedPlaces", "()I"⟩, 13), (⟨"WaySignsModel", "walkBetween", "(II)I"⟩, 21), (⟨"WaySignsModel", "isWalk", "(I)Z"⟩, 21), (⟨"WaySignsModel", "isName", "(I)Z"⟩, 21), (⟨"WaySignsModel", "findFar", "(I)V"⟩, 21)]
theorem lw_r1 : ∀ q ∈ lw_privs_1, lw_okq q := List.forall_mem_cons.mpr ⟨lw_p0, List.forall_mem_cons.mpr ⟨lw_p1, List.forall_mem_cons.mpr ⟨lw_p2, List.forall_mem_cons.mpr ⟨lw_p3, List.forall_mem_cons.mpr ⟨lw_p4, List.forall_mem_cons.mpr ⟨lw_p5, List.forall_mem_cons.mpr ⟨lw_p6, List.forall_mem_cons.mpr ⟨lw_p7, List.forall_mem_cons.mpr ⟨lw_p8, List.forall_mem_cons.mpr ⟨lw_p9, List.forall_mem_cons.mpr ⟨lw_p10, List.forall_mem_cons.mpr ⟨lw_p11, List.forall_mem_cons.mpr ⟨lw_p12, List.forall_mem_cons.mpr ⟨lw_p13, List.forall_mem_cons.mpr ⟨lw_p14, List.forall_mem_cons.mpr ⟨lw_p15, fun _ h => absurd h List.not_mem_nil⟩⟩⟩⟩⟩⟩⟩⟩⟩⟩⟩⟩⟩⟩⟩⟩
theorem lw_p16 : lw_okq (⟨"WaySignsModel", "draws", "(III)V"⟩, 21) := ⟨⟨by decide +kernel, by decide +kernel⟩, List.mem_of_getElem? (i := 372) (by decide +kernel), List.mem_of_getElem? (i := 516) (by decide +kernel), List.mem_of_getElem? (i := 517) (by decide +kernel)⟩
theorem lw_p17 : lw_okq (⟨"WaySignsModel", "bestAt", "(I)I"⟩, 21) := ⟨⟨by decide +kernel, by decide +kernel⟩, List.mem_of_getElem? (i := 372) (by decide +kernel), List.mem_of_getElem? (i := 520) (by decide +kernel), List.mem_of_getElem? (i := 521) (by decide +kernel)⟩
theorem lw_p18 : lw_okq (⟨"WaySignsModel", "openBetween", "(II)I"⟩, 21) := ⟨⟨by decide +kernel, by decide +kernel⟩, List.mem_of_getElem? (i := 372) (by decide +kernel), List.mem_of_getElem? (i := 524) (by decide +kernel), List.mem_of_getElem? (i := 525) (by decide +kernel)⟩
theorem lw_p19 : lw_okq (⟨"WaySignsModel", "laysArrows", "(I)V"⟩, 21) := ⟨⟨by decide +kernel, by decide +kernel⟩, List.mem_of_getElem? (i := 372) (by decide +kernel), List.mem_of_getElem? (i := 536) (by decide +kernel), List.mem_of_getElem? (i := 537) (by decide +kernel)⟩
theorem lw_p20 : lw_okq (⟨"WaySignsModel", "follows", "(II)V"⟩, 21) := ⟨⟨by decide +kernel, by decide +kernel⟩, List.mem_of_getElem? (i := 372) (by decide +kernel), List.mem_of_getElem? (i := 540) (by decide +kernel), List.mem_of_getElem? (i := 541) (by decide +kernel)⟩
theorem lw_p21 : lw_okq (⟨"WaySignsModel", "nextWalk", "(II)I"⟩, 21) := ⟨⟨by decide +kernel, by decide +kernel⟩, List.mem_of_getElem? (i := 372) (by decide +kernel), List.mem_of_getElem? (i := 544) (by decide +kernel), List.mem_of_getElem? (i := 545) (by decide +kernel)⟩
theorem lw_p22 : lw_okq (⟨"WaySignsModel", "onlyWalk", "(II)I"⟩, 21) := ⟨⟨by decide +kernel, by decide +kernel⟩, List.mem_of_getElem? (i := 372) (by decide +kernel), List.mem_of_getElem? (i := 548) (by decide +kernel), List.mem_of_getElem? (i := 549) (by decide +kernel)⟩
theorem lw_p23 : lw_okq (⟨"WaySignsModel", "touches", "(II)Z"⟩, 21) := ⟨⟨by decide +kernel, by decide +kernel⟩, List.mem_of_getElem? (i := 372) (by decide +kernel), List.mem_of_getElem? (i := 552) (by decide +kernel), List.mem_of_getElem? (i := 553) (by decide +kernel)⟩
theorem lw_p24 : lw_okq (⟨"WaySignsModel", "manyEnd", "(II)I"⟩, 21) := ⟨⟨by decide +kernel, by decide +kernel⟩, List.mem_of_getElem? (i := 372) (by decide +kernel), List.mem_of_getElem? (i := 560) (by decide +kernel), List.mem_of_getElem? (i := 561) (by decide +kernel)⟩
theorem lw_p25 : lw_okq (⟨"WaySignsModel", "isIdle", "(II)Z"⟩, 21) := ⟨⟨by decide +kernel, by decide +kernel⟩, List.mem_of_getElem? (i := 372) (by decide +kernel), List.mem_of_getElem? (i := 572) (by decide +kernel), List.mem_of_getElem? (i := 573) (by decide +kernel)⟩
theorem lw_p26 : lw_okq (⟨"WaySignsModel", "keeps", "()V"⟩, 21) := ⟨⟨by decide +kernel, by decide +kernel⟩, List.mem_of_getElem? (i := 372) (by decide +kernel), List.mem_of_getElem? (i := 576) (by decide +kernel), List.mem_of_getElem? (i := 577) (by decide +kernel)⟩
theorem lw_p27 : lw_okq (⟨"WaySignsModel", "isAsKept", "()Z"⟩, 21) := ⟨⟨by decide +kernel, by decide +kernel⟩, List.mem_of_getElem? (i := 372) (by decide +kernel), List.mem_of_getElem? (i := 580) (by decide +kernel), List.mem_of_getElem? (i := 581) (by decide +kernel)⟩
theorem lw_p28 : lw_okq (⟨"WaySignsModel", "moreBy", "(II)I"⟩, 21) := ⟨⟨by decide +kernel, by decide +kernel⟩, List.mem_of_getElem? (i := 372) (by decide +kernel), List.mem_of_getElem? (i := 589) (by decide +kernel), List.mem_of_getElem? (i := 590) (by decide +kernel)⟩
theorem lw_p29 : lw_okq (⟨"WaySignsModel", "leadsTo", "(II)Z"⟩, 21) := ⟨⟨by decide +kernel, by decide +kernel⟩, List.mem_of_getElem? (i := 372) (by decide +kernel), List.mem_of_getElem? (i := 597) (by decide +kernel), List.mem_of_getElem? (i := 598) (by decide +kernel)⟩
theorem lw_p30 : lw_okq (⟨"WaySignsModel", "haveBest", "(I)I"⟩, 21) := ⟨⟨by decide +kernel, by decide +kernel⟩, List.mem_of_getElem? (i := 372) (by decide +kernel), List.mem_of_getElem? (i := 601) (by decide +kernel), List.mem_of_getElem? (i := 602) (by decide +kernel)⟩
theorem lw_p31 : lw_okq (⟨"WaySignsModel", "doLead", "(II)Z"⟩, 21) := ⟨⟨by decide +kernel, by decide +kernel⟩, List.mem_of_getElem? (i := 372) (by decide +kernel), List.mem_of_getElem? (i := 605) (by decide +kernel), List.mem_of_getElem? (i := 606) (by decide +kernel)⟩
def lw_privs_2 : List (MethodName × Nat) := [(⟨"WaySignsModel", "draws", "(III)V"⟩, 21), (⟨"WaySignsModel", "bestAt", "(I)I"⟩, 21), (⟨"WaySignsModel", "openBetween", "(II)I"⟩, 21), (⟨"WaySignsModel", "laysArrows", "(I)V"⟩, 21), (⟨"WaySignsModel", "follows", "(II)V"⟩, 21), (⟨"WaySignsModel", "nextWalk", "(II)I"⟩, 21), (⟨"WaySignsModel", "onlyWalk", "(II)I"⟩, 21), (⟨"WaySignsModel", "touches", "(II)Z"⟩, 21), (⟨"WaySignsModel", "manyEnd", "(II)I"⟩, 21), (⟨"WaySignsModel", "isIdle", "(II)Z"⟩, 21), (⟨"WaySignsModel", "keeps", "()V"⟩, 21), (⟨"WaySignsModel", "isAsKept", "()Z"⟩, 21), (⟨"WaySignsModel", "moreBy", "(II)I"⟩, 21), (⟨"WaySignsModel", "leadsTo", "(II)Z"⟩, 21), (⟨"WaySignsModel", "haveBest", "(I)I"⟩, 21), (⟨"WaySignsModel", "doLead", "(II)Z"⟩, 21)]
theorem lw_r2 : ∀ q ∈ lw_privs_2, lw_okq q := List.forall_mem_cons.mpr ⟨lw_p16, List.forall_mem_cons.mpr ⟨lw_p17, List.forall_mem_cons.mpr ⟨lw_p18, List.forall_mem_cons.mpr ⟨lw_p19, List.forall_mem_cons.mpr ⟨lw_p20, List.forall_mem_cons.mpr ⟨lw_p21, List.forall_mem_cons.mpr ⟨lw_p22, List.forall_mem_cons.mpr ⟨lw_p23, List.forall_mem_cons.mpr ⟨lw_p24, List.forall_mem_cons.mpr ⟨lw_p25, List.forall_mem_cons.mpr ⟨lw_p26, List.forall_mem_cons.mpr ⟨lw_p27, List.forall_mem_cons.mpr ⟨lw_p28, List.forall_mem_cons.mpr ⟨lw_p29, List.forall_mem_cons.mpr ⟨lw_p30, List.forall_mem_cons.mpr ⟨lw_p31, fun _ h => absurd h List.not_mem_nil⟩⟩⟩⟩⟩⟩⟩⟩⟩⟩⟩⟩⟩⟩⟩⟩
theorem lw_p32 : lw_okq (⟨"WaySignsModel", "manyOpen", "()I"⟩, 21) := ⟨⟨by decide +kernel, by decide +kernel⟩, List.mem_of_getElem? (i := 372) (by decide +kernel), List.mem_of_getElem? (i := 624) (by decide +kernel), List.mem_of_getElem? (i := 625) (by decide +kernel)⟩
theorem lw_p33 : lw_okq (⟨"WaySignsModel", "allBoards", "(Z)I"⟩, 21) := ⟨⟨by decide +kernel, by decide +kernel⟩, List.mem_of_getElem? (i := 372) (by decide +kernel), List.mem_of_getElem? (i := 628) (by decide +kernel), List.mem_of_getElem? (i := 629) (by decide +kernel)⟩
theorem lw_p34 : lw_okq (⟨"WaySignsModel", "manyBoards", "(I)I"⟩, 21) := ⟨⟨by decide +kernel, by decide +kernel⟩, List.mem_of_getElem? (i := 372) (by decide +kernel), List.mem_of_getElem? (i := 632) (by decide +kernel), List.mem_of_getElem? (i := 633) (by decide +kernel)⟩
def lw_privs_3 : List (MethodName × Nat) := [(⟨"WaySignsModel", "manyOpen", "()I"⟩, 21), (⟨"WaySignsModel", "allBoards", "(Z)I"⟩, 21), (⟨"WaySignsModel", "manyBoards", "(I)I"⟩, 21)]
theorem lw_r3 : ∀ q ∈ lw_privs_3, lw_okq q := List.forall_mem_cons.mpr ⟨lw_p32, List.forall_mem_cons.mpr ⟨lw_p33, List.forall_mem_cons.mpr ⟨lw_p34, fun _ h => absurd h List.not_mem_nil⟩⟩⟩
def lw_privs : List (MethodName × Nat) := lw_privs_1 ++ (lw_privs_2 ++ (lw_privs_3))
def lw_tbl : List Cond := k2_sels lw_privs ++ tables_1
theorem lw_privs_ok : ∀ q ∈ lw_privs, lw_okq q := by
  show ∀ q ∈ lw_privs_1 ++ (lw_privs_2 ++ (lw_privs_3)), lw_okq q
  exact List.forall_mem_append.mpr ⟨lw_r1, List.forall_mem_append.mpr ⟨lw_r2, lw_r3⟩⟩
def RX0 : String := "WaySigns$Building"
def TX0 : u_T := fun k => match k with
  | 0 => ("WaySigns$Building", "lesser", "[I", true)
  | 1 => ("WaySigns$Building", "greater", "[I", true)
  | 2 => ("WaySigns$Building", "lengths", "[I", true)
  | 3 => ("WaySigns$Building", "opened", "[Z", true)
  | 4 => ("WaySigns$Building", "near", "[I", true)
  | 5 => ("WaySigns$Building", "openLength", "[[I", true)
  | _ => ("WaySigns$Building", "count", "I", false)
def tyX0 : Nat → FieldType := fun k => match k with
  | 0 => .array .int
  | 1 => .array .int
  | 2 => .array .int
  | 3 => .array .boolean
  | 4 => .array .int
  | 5 => .array (.array .int)
  | _ => .int
theorem nmX0 : ∀ a, a < 7 → ∀ b, b < 7 → a ≠ b → (TX0 a).2.1 ≠ (TX0 b).2.1 := by decide +kernel
theorem tyX0_ok : ∀ k, k < 7 → parseFieldDescriptor (TX0 k).2.2.1 = some (tyX0 k) := by decide +kernel
abbrev cX0_init : ByteArray := prog_2_method_1_code
def yX0_init : MethodName := ⟨RX0, "<init>", "()V"⟩
abbrev cX0_has : ByteArray := prog_2_method_2_code
def yX0_has : MethodName := ⟨RX0, "has", "(I)Z"⟩
abbrev cX0_joins : ByteArray := prog_2_method_3_code
def yX0_joins : MethodName := ⟨RX0, "joins", "(II)Z"⟩
abbrev cX0_add : ByteArray := prog_2_method_4_code
def yX0_add : MethodName := ⟨RX0, "add", "(III)I"⟩
abbrev cX0_removeLast : ByteArray := prog_2_method_5_code
def yX0_removeLast : MethodName := ⟨RX0, "removeLast", "()I"⟩
abbrev cX0_turn : ByteArray := prog_2_method_6_code
def yX0_turn : MethodName := ⟨RX0, "turn", "(IZ)Z"⟩
abbrev cX0_countOpen : ByteArray := prog_2_method_7_code
def yX0_countOpen : MethodName := ⟨RX0, "countOpen", "()I"⟩
def RX1 : String := "WaySigns$Follower"
def TX1 : u_T := fun k => match k with
  | 0 => ("WaySigns$Follower", "way", "[I", true)
  | 1 => ("WaySigns$Follower", "came", "[I", true)
  | 2 => ("WaySigns$Follower", "steps", "I", false)
  | 3 => ("WaySigns$Follower", "total", "I", false)
  | _ => ("WaySigns$Follower", "ending", "I", false)
def tyX1 : Nat → FieldType := fun k => match k with
  | 0 => .array .int
  | 1 => .array .int
  | 2 => .int
  | 3 => .int
  | _ => .int
theorem nmX1 : ∀ a, a < 5 → ∀ b, b < 5 → a ≠ b → (TX1 a).2.1 ≠ (TX1 b).2.1 := by decide +kernel
theorem tyX1_ok : ∀ k, k < 5 → parseFieldDescriptor (TX1 k).2.2.1 = some (tyX1 k) := by decide +kernel
abbrev cX1_init : ByteArray := prog_3_method_1_code
def yX1_init : MethodName := ⟨RX1, "<init>", "()V"⟩
abbrev cX1_go : ByteArray := prog_3_method_2_code
def yX1_go : MethodName := ⟨RX1, "go", "(LWaySigns$Building;II[I)V"⟩
abbrev cX1_nextFrom : ByteArray := prog_3_method_3_code
def yX1_nextFrom : MethodName := ⟨RX1, "nextFrom", "(LWaySigns$Building;III)I"⟩
abbrev cX1_placeAt : ByteArray := prog_3_method_4_code
def yX1_placeAt : MethodName := ⟨RX1, "placeAt", "(I)I"⟩
abbrev cX1_wentLike : ByteArray := prog_3_method_5_code
def yX1_wentLike : MethodName := ⟨RX1, "wentLike", "(LWaySigns$Follower;)Z"⟩
def RX2 : String := "WaySigns$Guide"
def TX2 : u_T := fun k => match k with
  | 0 => ("WaySigns$Guide", "distance", "[[I", true)
  | 1 => ("WaySigns$Guide", "best", "[[I", true)
  | _ => ("WaySigns$Guide", "signable", "[I", true)
def tyX2 : Nat → FieldType := fun k => match k with
  | 0 => .array (.array .int)
  | 1 => .array (.array .int)
  | _ => .array .int
theorem nmX2 : ∀ a, a < 3 → ∀ b, b < 3 → a ≠ b → (TX2 a).2.1 ≠ (TX2 b).2.1 := by decide +kernel
theorem tyX2_ok : ∀ k, k < 3 → parseFieldDescriptor (TX2 k).2.2.1 = some (tyX2 k) := by decide +kernel
abbrev cX2_init : ByteArray := prog_4_method_1_code
def yX2_init : MethodName := ⟨RX2, "<init>", "()V"⟩
abbrev cX2_draw : ByteArray := prog_4_method_2_code
def yX2_draw : MethodName := ⟨RX2, "draw", "(LWaySigns$Building;II)V"⟩
abbrev cX2_measure : ByteArray := prog_4_method_3_code
def yX2_measure : MethodName := ⟨RX2, "measure", "(LWaySigns$Building;[II)V"⟩
abbrev cX2_shorten : ByteArray := prog_4_method_4_code
def yX2_shorten : MethodName := ⟨RX2, "shorten", "([IIII)Z"⟩
abbrev cX2_bestAt : ByteArray := prog_4_method_5_code
def yX2_bestAt : MethodName := ⟨RX2, "bestAt", "(LWaySigns$Building;[II)I"⟩
def RX3 : String := "WaySigns"
def TX3 : u_T := fun k => match k with
  | 0 => ("WaySigns", "building", "LWaySigns$Building;", true)
  | 1 => ("WaySigns", "guide", "LWaySigns$Guide;", true)
  | 2 => ("WaySigns", "follower", "LWaySigns$Follower;", true)
  | 3 => ("WaySigns", "other", "LWaySigns$Follower;", true)
  | 4 => ("WaySigns", "homes", "[I", true)
  | 5 => ("WaySigns", "boards", "[[I", true)
  | 6 => ("WaySigns", "trial", "[I", true)
  | 7 => ("WaySigns", "names", "I", false)
  | 8 => ("WaySigns", "entrances", "I", false)
  | 9 => ("WaySigns", "slack", "I", false)
  | 10 => ("WaySigns", "mendPlace", "I", false)
  | 11 => ("WaySigns", "mendName", "I", false)
  | _ => ("WaySigns", "mendArrived", "I", false)
def tyX3 : Nat → FieldType := fun k => match k with
  | 0 => .object "WaySigns$Building"
  | 1 => .object "WaySigns$Guide"
  | 2 => .object "WaySigns$Follower"
  | 3 => .object "WaySigns$Follower"
  | 4 => .array .int
  | 5 => .array (.array .int)
  | 6 => .array .int
  | 7 => .int
  | 8 => .int
  | 9 => .int
  | 10 => .int
  | 11 => .int
  | _ => .int
theorem nmX3 : ∀ a, a < 13 → ∀ b, b < 13 → a ≠ b → (TX3 a).2.1 ≠ (TX3 b).2.1 := by decide +kernel
theorem tyX3_ok : ∀ k, k < 13 → parseFieldDescriptor (TX3 k).2.2.1 = some (tyX3 k) := by decide +kernel
abbrev cX3_init : ByteArray := prog_1_method_1_code
def yX3_init : MethodName := ⟨RX3, "<init>", "()V"⟩
abbrev cX3_walk : ByteArray := prog_1_method_2_code
def yX3_walk : MethodName := ⟨RX3, "walk", "(III)I"⟩
abbrev cX3_unwalk : ByteArray := prog_1_method_3_code
def yX3_unwalk : MethodName := ⟨RX3, "unwalk", "()I"⟩
abbrev cX3_open : ByteArray := prog_1_method_4_code
def yX3_open : MethodName := ⟨RX3, "open", "(IZ)I"⟩
abbrev cX3_ofWalk : ByteArray := prog_1_method_5_code
def yX3_ofWalk : MethodName := ⟨RX3, "ofWalk", "(II)I"⟩
abbrev cX3_name : ByteArray := prog_1_method_6_code
def yX3_name : MethodName := ⟨RX3, "name", "(I)I"⟩
abbrev cX3_moves : ByteArray := prog_1_method_7_code
def yX3_moves : MethodName := ⟨RX3, "moves", "(II)I"⟩
abbrev cX3_entrance : ByteArray := prog_1_method_8_code
def yX3_entrance : MethodName := ⟨RX3, "entrance", "(IZ)I"⟩
abbrev cX3_detour : ByteArray := prog_1_method_9_code
def yX3_detour : MethodName := ⟨RX3, "detour", "(I)I"⟩
abbrev cX3_board : ByteArray := prog_1_method_10_code
def yX3_board : MethodName := ⟨RX3, "board", "(III)I"⟩
abbrev cX3_unboard : ByteArray := prog_1_method_11_code
def yX3_unboard : MethodName := ⟨RX3, "unboard", "(II)I"⟩
abbrev cX3_arrow : ByteArray := prog_1_method_12_code
def yX3_arrow : MethodName := ⟨RX3, "arrow", "(II)I"⟩
abbrev cX3_far : ByteArray := prog_1_method_13_code
def yX3_far : MethodName := ⟨RX3, "far", "(III)I"⟩
abbrev cX3_from : ByteArray := prog_1_method_14_code
def yX3_from : MethodName := ⟨RX3, "from", "(I)I"⟩
abbrev cX3_follow : ByteArray := prog_1_method_15_code
def yX3_follow : MethodName := ⟨RX3, "follow", "(III)I"⟩
abbrev cX3_ends : ByteArray := prog_1_method_16_code
def yX3_ends : MethodName := ⟨RX3, "ends", "(I)I"⟩
abbrev cX3_those : ByteArray := prog_1_method_17_code
def yX3_those : MethodName := ⟨RX3, "those", "(II)I"⟩
abbrev cX3_idle : ByteArray := prog_1_method_18_code
def yX3_idle : MethodName := ⟨RX3, "idle", "(I)I"⟩
abbrev cX3_mend : ByteArray := prog_1_method_19_code
def yX3_mend : MethodName := ⟨RX3, "mend", "(I)I"⟩
abbrev cX3_leads : ByteArray := prog_1_method_20_code
def yX3_leads : MethodName := ⟨RX3, "leads", "(II)I"⟩
abbrev cX3_fewest : ByteArray := prog_1_method_21_code
def yX3_fewest : MethodName := ⟨RX3, "fewest", "(I)I"⟩
abbrev cX3_posts : ByteArray := prog_1_method_22_code
def yX3_posts : MethodName := ⟨RX3, "posts", "()I"⟩
abbrev cX3_many : ByteArray := prog_1_method_23_code
def yX3_many : MethodName := ⟨RX3, "many", "(I)I"⟩
abbrev cX3_isPlace : ByteArray := prog_1_method_24_code
def yX3_isPlace : MethodName := ⟨RX3, "isPlace", "(I)Z"⟩
abbrev cX3_isEnding : ByteArray := prog_1_method_25_code
def yX3_isEnding : MethodName := ⟨RX3, "isEnding", "(I)Z"⟩
abbrev cX3_holds : ByteArray := prog_1_method_26_code
def yX3_holds : MethodName := ⟨RX3, "holds", "(II)Z"⟩
abbrev cX3_isName : ByteArray := prog_1_method_27_code
def yX3_isName : MethodName := ⟨RX3, "isName", "(I)Z"⟩
abbrev cX3_countBoards : ByteArray := prog_1_method_28_code
def yX3_countBoards : MethodName := ⟨RX3, "countBoards", "()I"⟩
abbrev cX3_boardedPlaces : ByteArray := prog_1_method_29_code
def yX3_boardedPlaces : MethodName := ⟨RX3, "boardedPlaces", "()I"⟩
abbrev cX3_boardedFor : ByteArray := prog_1_method_30_code
def yX3_boardedFor : MethodName := ⟨RX3, "boardedFor", "(I)I"⟩
abbrev cX3_countEndings : ByteArray := prog_1_method_31_code
def yX3_countEndings : MethodName := ⟨RX3, "countEndings", "(I[II)I"⟩
abbrev cX3_isIdle : ByteArray := prog_1_method_32_code
def yX3_isIdle : MethodName := ⟨RX3, "isIdle", "(II)Z"⟩
abbrev cX3_findMend : ByteArray := prog_1_method_33_code
def yX3_findMend : MethodName := ⟨RX3, "findMend", "()V"⟩
abbrev cX3_offerMend : ByteArray := prog_1_method_34_code
def yX3_offerMend : MethodName := ⟨RX3, "offerMend", "(III)V"⟩
abbrev cX3_wouldLead : ByteArray := prog_1_method_35_code
def yX3_wouldLead : MethodName := ⟨RX3, "wouldLead", "(II)Z"⟩
abbrev cX3_leastSet : ByteArray := prog_1_method_36_code
def yX3_leastSet : MethodName := ⟨RX3, "leastSet", "(II)I"⟩
abbrev cX3_choicesOnBestWays : ByteArray := prog_1_method_37_code
def yX3_choicesOnBestWays : MethodName := ⟨RX3, "choicesOnBestWays", "(I)I"⟩
abbrev cX3_choicesFrom : ByteArray := prog_1_method_38_code
def yX3_choicesFrom : MethodName := ⟨RX3, "choicesFrom", "(II)I"⟩
def RX4 : String := "WaySignsModel"
def TX4 : u_T := fun k => match k with
  | 0 => ("WaySignsModel", "walks", "I", false)
  | 1 => ("WaySignsModel", "fromOf", "[I", true)
  | 2 => ("WaySignsModel", "toOf", "[I", true)
  | 3 => ("WaySignsModel", "longOf", "[I", true)
  | 4 => ("WaySignsModel", "isOpen", "[Z", true)
  | 5 => ("WaySignsModel", "names", "I", false)
  | 6 => ("WaySignsModel", "placeOf", "[I", true)
  | 7 => ("WaySignsModel", "entrances", "I", false)
  | 8 => ("WaySignsModel", "detourNow", "I", false)
  | 9 => ("WaySignsModel", "arrowOf", "[I", true)
  | 10 => ("WaySignsModel", "farOf", "[I", true)
  | 11 => ("WaySignsModel", "arrowAt", "[I", true)
  | 12 => ("WaySignsModel", "hasCome", "[Z", true)
  | 13 => ("WaySignsModel", "ended", "I", false)
  | 14 => ("WaySignsModel", "steps", "I", false)
  | 15 => ("WaySignsModel", "gone", "I", false)
  | 16 => ("WaySignsModel", "way", "[I", true)
  | 17 => ("WaySignsModel", "keptSteps", "I", false)
  | 18 => ("WaySignsModel", "keptEnd", "I", false)
  | 19 => ("WaySignsModel", "keptWay", "[I", true)
  | _ => ("WaySignsModel", "doesLead", "[Z", true)
def tyX4 : Nat → FieldType := fun k => match k with
  | 0 => .int
  | 1 => .array .int
  | 2 => .array .int
  | 3 => .array .int
  | 4 => .array .boolean
  | 5 => .int
  | 6 => .array .int
  | 7 => .int
  | 8 => .int
  | 9 => .array .int
  | 10 => .array .int
  | 11 => .array .int
  | 12 => .array .boolean
  | 13 => .int
  | 14 => .int
  | 15 => .int
  | 16 => .array .int
  | 17 => .int
  | 18 => .int
  | 19 => .array .int
  | _ => .array .boolean
theorem nmX4 : ∀ a, a < 21 → ∀ b, b < 21 → a ≠ b → (TX4 a).2.1 ≠ (TX4 b).2.1 := by decide +kernel
theorem tyX4_ok : ∀ k, k < 21 → parseFieldDescriptor (TX4 k).2.2.1 = some (tyX4 k) := by decide +kernel
abbrev cX4_init : ByteArray := prog_6_method_1_code
def yX4_init : MethodName := ⟨RX4, "<init>", "()V"⟩
abbrev cX4_within : ByteArray := prog_6_method_2_code
def yX4_within : MethodName := ⟨RX4, "within", "(III)Z"⟩
abbrev cX4_isPlace : ByteArray := prog_6_method_3_code
def yX4_isPlace : MethodName := ⟨RX4, "isPlace", "(I)Z"⟩
abbrev cX4_isWalk : ByteArray := prog_6_method_4_code
def yX4_isWalk : MethodName := ⟨RX4, "isWalk", "(I)Z"⟩
abbrev cX4_isName : ByteArray := prog_6_method_5_code
def yX4_isName : MethodName := ⟨RX4, "isName", "(I)Z"⟩
abbrev cX4_walkBetween : ByteArray := prog_6_method_6_code
def yX4_walkBetween : MethodName := ⟨RX4, "walkBetween", "(II)I"⟩
abbrev cX4_openBetween : ByteArray := prog_6_method_7_code
def yX4_openBetween : MethodName := ⟨RX4, "openBetween", "(II)I"⟩
abbrev cX4_walk : ByteArray := prog_6_method_8_code
def yX4_walk : MethodName := ⟨RX4, "walk", "(III)I"⟩
abbrev cX4_unwalk : ByteArray := prog_6_method_9_code
def yX4_unwalk : MethodName := ⟨RX4, "unwalk", "()I"⟩
abbrev cX4_open : ByteArray := prog_6_method_10_code
def yX4_open : MethodName := ⟨RX4, "open", "(IZ)I"⟩
abbrev cX4_ofWalk : ByteArray := prog_6_method_11_code
def yX4_ofWalk : MethodName := ⟨RX4, "ofWalk", "(II)I"⟩
abbrev cX4_name : ByteArray := prog_6_method_12_code
def yX4_name : MethodName := ⟨RX4, "name", "(I)I"⟩
abbrev cX4_moves : ByteArray := prog_6_method_13_code
def yX4_moves : MethodName := ⟨RX4, "moves", "(II)I"⟩
abbrev cX4_isIn : ByteArray := prog_6_method_14_code
def yX4_isIn : MethodName := ⟨RX4, "isIn", "(II)Z"⟩
abbrev cX4_entrance : ByteArray := prog_6_method_15_code
def yX4_entrance : MethodName := ⟨RX4, "entrance", "(IZ)I"⟩
abbrev cX4_detour : ByteArray := prog_6_method_16_code
def yX4_detour : MethodName := ⟨RX4, "detour", "(I)I"⟩
abbrev cX4_board : ByteArray := prog_6_method_17_code
def yX4_board : MethodName := ⟨RX4, "board", "(III)I"⟩
abbrev cX4_unboard : ByteArray := prog_6_method_18_code
def yX4_unboard : MethodName := ⟨RX4, "unboard", "(II)I"⟩
abbrev cX4_arrow : ByteArray := prog_6_method_19_code
def yX4_arrow : MethodName := ⟨RX4, "arrow", "(II)I"⟩
abbrev cX4_draws : ByteArray := prog_6_method_20_code
def yX4_draws : MethodName := ⟨RX4, "draws", "(III)V"⟩
abbrev cX4_findFar : ByteArray := prog_6_method_21_code
def yX4_findFar : MethodName := ⟨RX4, "findFar", "(I)V"⟩
abbrev cX4_bestAt : ByteArray := prog_6_method_22_code
def yX4_bestAt : MethodName := ⟨RX4, "bestAt", "(I)I"⟩
abbrev cX4_far : ByteArray := prog_6_method_23_code
def yX4_far : MethodName := ⟨RX4, "far", "(III)I"⟩
abbrev cX4_from : ByteArray := prog_6_method_24_code
def yX4_from : MethodName := ⟨RX4, "from", "(I)I"⟩
abbrev cX4_laysArrows : ByteArray := prog_6_method_25_code
def yX4_laysArrows : MethodName := ⟨RX4, "laysArrows", "(I)V"⟩
abbrev cX4_touches : ByteArray := prog_6_method_26_code
def yX4_touches : MethodName := ⟨RX4, "touches", "(II)Z"⟩
abbrev cX4_onlyWalk : ByteArray := prog_6_method_27_code
def yX4_onlyWalk : MethodName := ⟨RX4, "onlyWalk", "(II)I"⟩
abbrev cX4_nextWalk : ByteArray := prog_6_method_28_code
def yX4_nextWalk : MethodName := ⟨RX4, "nextWalk", "(II)I"⟩
abbrev cX4_follows : ByteArray := prog_6_method_29_code
def yX4_follows : MethodName := ⟨RX4, "follows", "(II)V"⟩
abbrev cX4_follow : ByteArray := prog_6_method_30_code
def yX4_follow : MethodName := ⟨RX4, "follow", "(III)I"⟩
abbrev cX4_manyEnd : ByteArray := prog_6_method_31_code
def yX4_manyEnd : MethodName := ⟨RX4, "manyEnd", "(II)I"⟩
abbrev cX4_ends : ByteArray := prog_6_method_32_code
def yX4_ends : MethodName := ⟨RX4, "ends", "(I)I"⟩
abbrev cX4_those : ByteArray := prog_6_method_33_code
def yX4_those : MethodName := ⟨RX4, "those", "(II)I"⟩
abbrev cX4_keeps : ByteArray := prog_6_method_34_code
def yX4_keeps : MethodName := ⟨RX4, "keeps", "()V"⟩
abbrev cX4_isAsKept : ByteArray := prog_6_method_35_code
def yX4_isAsKept : MethodName := ⟨RX4, "isAsKept", "()Z"⟩
abbrev cX4_isIdle : ByteArray := prog_6_method_36_code
def yX4_isIdle : MethodName := ⟨RX4, "isIdle", "(II)Z"⟩
abbrev cX4_idle : ByteArray := prog_6_method_37_code
def yX4_idle : MethodName := ⟨RX4, "idle", "(I)I"⟩
abbrev cX4_moreBy : ByteArray := prog_6_method_38_code
def yX4_moreBy : MethodName := ⟨RX4, "moreBy", "(II)I"⟩
abbrev cX4_mend : ByteArray := prog_6_method_39_code
def yX4_mend : MethodName := ⟨RX4, "mend", "(I)I"⟩
abbrev cX4_haveBest : ByteArray := prog_6_method_40_code
def yX4_haveBest : MethodName := ⟨RX4, "haveBest", "(I)I"⟩
abbrev cX4_doLead : ByteArray := prog_6_method_41_code
def yX4_doLead : MethodName := ⟨RX4, "doLead", "(II)Z"⟩
abbrev cX4_leadsTo : ByteArray := prog_6_method_42_code
def yX4_leadsTo : MethodName := ⟨RX4, "leadsTo", "(II)Z"⟩
abbrev cX4_leads : ByteArray := prog_6_method_43_code
def yX4_leads : MethodName := ⟨RX4, "leads", "(II)I"⟩
abbrev cX4_manyOf : ByteArray := prog_6_method_44_code
def yX4_manyOf : MethodName := ⟨RX4, "manyOf", "(I)I"⟩
abbrev cX4_fewest : ByteArray := prog_6_method_45_code
def yX4_fewest : MethodName := ⟨RX4, "fewest", "(I)I"⟩
abbrev cX4_posts : ByteArray := prog_6_method_46_code
def yX4_posts : MethodName := ⟨RX4, "posts", "()I"⟩
abbrev cX4_manyBoards : ByteArray := prog_6_method_47_code
def yX4_manyBoards : MethodName := ⟨RX4, "manyBoards", "(I)I"⟩
abbrev cX4_allBoards : ByteArray := prog_6_method_48_code
def yX4_allBoards : MethodName := ⟨RX4, "allBoards", "(Z)I"⟩
abbrev cX4_many : ByteArray := prog_6_method_49_code
def yX4_many : MethodName := ⟨RX4, "many", "(I)I"⟩
abbrev cX4_manyOpen : ByteArray := prog_6_method_50_code
def yX4_manyOpen : MethodName := ⟨RX4, "manyOpen", "()I"⟩
def RJ6 : String := "java/lang/Integer"
def TJ6 : u_T := fun k => match k with
  | _ => ("", "", "", false)
def tyJ6 : Nat → FieldType := fun k => match k with
  | _ => .int
theorem nmJ6 : ∀ a, a < 0 → ∀ b, b < 0 → a ≠ b → (TJ6 a).2.1 ≠ (TJ6 b).2.1 := by decide +kernel
theorem tyJ6_ok : ∀ k, k < 0 → parseFieldDescriptor (TJ6 k).2.2.1 = some (tyJ6 k) := by decide +kernel
abbrev cJ6_bitCount_0f7a4 : ByteArray := prog_7_method_49_code
def yJ6_bitCount_0f7a4 : MethodName := ⟨RJ6, "bitCount", "(I)I"⟩
def RJ9 : String := "java/lang/Math"
def TJ9 : u_T := fun k => match k with
  | _ => ("", "", "", false)
def tyJ9 : Nat → FieldType := fun k => match k with
  | _ => .int
theorem nmJ9 : ∀ a, a < 0 → ∀ b, b < 0 → a ≠ b → (TJ9 a).2.1 ≠ (TJ9 b).2.1 := by decide +kernel
theorem tyJ9_ok : ∀ k, k < 0 → parseFieldDescriptor (TJ9 k).2.2.1 = some (tyJ9 k) := by decide +kernel
abbrev cJ9_max_7cf53 : ByteArray := prog_8_method_65_code
def yJ9_max_7cf53 : MethodName := ⟨RJ9, "max", "(II)I"⟩
abbrev cJ9_min_7cf53 : ByteArray := prog_8_method_69_code
def yJ9_min_7cf53 : MethodName := ⟨RJ9, "min", "(II)I"⟩
def RJ10 : String := "java/lang/System"
def TJ10 : u_T := fun k => match k with
  | _ => ("", "", "", false)
def tyJ10 : Nat → FieldType := fun k => match k with
  | _ => .int
theorem nmJ10 : ∀ a, a < 0 → ∀ b, b < 0 → a ≠ b → (TJ10 a).2.1 ≠ (TJ10 b).2.1 := by decide +kernel
theorem tyJ10_ok : ∀ k, k < 0 → parseFieldDescriptor (TJ10 k).2.2.1 = some (tyJ10 k) := by decide +kernel
def RJ7 : String := "java/util/Arrays"
def TJ7 : u_T := fun k => match k with
  | _ => ("", "", "", false)
def tyJ7 : Nat → FieldType := fun k => match k with
  | _ => .int
theorem nmJ7 : ∀ a, a < 0 → ∀ b, b < 0 → a ≠ b → (TJ7 a).2.1 ≠ (TJ7 b).2.1 := by decide +kernel
theorem tyJ7_ok : ∀ k, k < 0 → parseFieldDescriptor (TJ7 k).2.2.1 = some (tyJ7 k) := by decide +kernel
abbrev cJ7_fill_53178 : ByteArray := prog_10_method_103_code
def yJ7_fill_53178 : MethodName := ⟨RJ7, "fill", "([II)V"⟩
def RL : String := "WaySignsLaw"
abbrev cL_law : ByteArray := code
def yL_law : MethodName := ⟨RL, "law", "([I)Z"⟩
abbrev vwCl : List vw_C := [(RX0, TX0, 7), (RX1, TX1, 5), (RX2, TX2, 3), (RX3, TX3, 13), (RX4, TX4, 21)]
/-- a method: its name, its code, how many locals, what it answers, how deep its calls go -/
abbrev zY : Type := MethodName × ByteArray × Nat × Option FieldType × Nat
def mX3_init : zY := (yX3_init, cX3_init, 2, none, 1)
def mX0_init : zY := (yX0_init, cX0_init, 1, none, 0)
def mX2_init : zY := (yX2_init, cX2_init, 1, none, 0)
def mX1_init : zY := (yX1_init, cX1_init, 1, none, 0)
def mJ7_fill_53178 : zY := (yJ7_fill_53178, cJ7_fill_53178, 4, none, 0)
def mX3_walk : zY := (yX3_walk, cX3_walk, 4, some .int, 2)
def mX3_isPlace : zY := (yX3_isPlace, cX3_isPlace, 1, some .boolean, 0)
def mX0_joins : zY := (yX0_joins, cX0_joins, 6, some .boolean, 1)
def mJ9_min_7cf53 : zY := (yJ9_min_7cf53, cJ9_min_7cf53, 2, some .int, 0)
def mJ9_max_7cf53 : zY := (yJ9_max_7cf53, cJ9_max_7cf53, 2, some .int, 0)
def mX0_add : zY := (yX0_add, cX0_add, 5, some .int, 1)
def mX0_turn : zY := (yX0_turn, cX0_turn, 5, some .boolean, 0)
def mX3_unwalk : zY := (yX3_unwalk, cX3_unwalk, 1, some .int, 2)
def mX0_removeLast : zY := (yX0_removeLast, cX0_removeLast, 1, some .int, 1)
def mX3_open : zY := (yX3_open, cX3_open, 3, some .int, 1)
def mX0_has : zY := (yX0_has, cX0_has, 2, some .boolean, 0)
def mX3_ofWalk : zY := (yX3_ofWalk, cX3_ofWalk, 3, some .int, 1)
def mX3_name : zY := (yX3_name, cX3_name, 2, some .int, 1)
def mX3_moves : zY := (yX3_moves, cX3_moves, 4, some .int, 1)
def mX3_isName : zY := (yX3_isName, cX3_isName, 2, some .boolean, 0)
def mX3_entrance : zY := (yX3_entrance, cX3_entrance, 3, some .int, 1)
def mX3_holds : zY := (yX3_holds, cX3_holds, 2, some .boolean, 0)
def mX3_detour : zY := (yX3_detour, cX3_detour, 3, some .int, 0)
def mX3_board : zY := (yX3_board, cX3_board, 5, some .int, 2)
def mX3_unboard : zY := (yX3_unboard, cX3_unboard, 4, some .int, 1)
def mX3_arrow : zY := (yX3_arrow, cX3_arrow, 3, some .int, 1)
def mX3_far : zY := (yX3_far, cX3_far, 4, some .int, 3)
def mX2_draw : zY := (yX2_draw, cX2_draw, 5, none, 2)
def mX2_measure : zY := (yX2_measure, cX2_measure, 8, none, 1)
def mX2_shorten : zY := (yX2_shorten, cX2_shorten, 4, some .boolean, 0)
def mX2_bestAt : zY := (yX2_bestAt, cX2_bestAt, 5, some .int, 0)
def mX3_from : zY := (yX3_from, cX3_from, 2, some .int, 1)
def mX3_follow : zY := (yX3_follow, cX3_follow, 5, some .int, 3)
def mX1_go : zY := (yX1_go, cX1_go, 9, none, 2)
def mX1_nextFrom : zY := (yX1_nextFrom, cX1_nextFrom, 5, some .int, 1)
def mJ6_bitCount_0f7a4 : zY := (yJ6_bitCount_0f7a4, cJ6_bitCount_0f7a4, 1, some .int, 0)
def mX1_placeAt : zY := (yX1_placeAt, cX1_placeAt, 2, some .int, 0)
def mX3_ends : zY := (yX3_ends, cX3_ends, 4, some .int, 4)
def mX3_isEnding : zY := (yX3_isEnding, cX3_isEnding, 1, some .boolean, 0)
def mX3_countEndings : zY := (yX3_countEndings, cX3_countEndings, 6, some .int, 3)
def mX3_those : zY := (yX3_those, cX3_those, 5, some .int, 3)
def mX3_idle : zY := (yX3_idle, cX3_idle, 4, some .int, 4)
def mX3_isIdle : zY := (yX3_isIdle, cX3_isIdle, 4, some .boolean, 3)
def mX1_wentLike : zY := (yX1_wentLike, cX1_wentLike, 3, some .boolean, 0)
def mX3_mend : zY := (yX3_mend, cX3_mend, 2, some .int, 6)
def mX3_findMend : zY := (yX3_findMend, cX3_findMend, 6, none, 5)
def mX3_offerMend : zY := (yX3_offerMend, cX3_offerMend, 4, none, 0)
def mX3_leads : zY := (yX3_leads, cX3_leads, 3, some .int, 4)
def mX3_wouldLead : zY := (yX3_wouldLead, cX3_wouldLead, 4, some .boolean, 3)
def mX3_fewest : zY := (yX3_fewest, cX3_fewest, 2, some .int, 5)
def mX3_leastSet : zY := (yX3_leastSet, cX3_leastSet, 5, some .int, 4)
def mX3_choicesOnBestWays : zY := (yX3_choicesOnBestWays, cX3_choicesOnBestWays, 4, some .int, 2)
def mX3_choicesFrom : zY := (yX3_choicesFrom, cX3_choicesFrom, 7, some .int, 1)
def mX3_posts : zY := (yX3_posts, cX3_posts, 1, some .int, 5)
def mX3_many : zY := (yX3_many, cX3_many, 2, some .int, 2)
def mX0_countOpen : zY := (yX0_countOpen, cX0_countOpen, 3, some .int, 0)
def mX3_countBoards : zY := (yX3_countBoards, cX3_countBoards, 3, some .int, 1)
def mX3_boardedFor : zY := (yX3_boardedFor, cX3_boardedFor, 4, some .int, 0)
def mX3_boardedPlaces : zY := (yX3_boardedPlaces, cX3_boardedPlaces, 3, some .int, 1)
def mX4_init : zY := (yX4_init, cX4_init, 2, none, 0)
def mX4_walk : zY := (yX4_walk, cX4_walk, 4, some .int, 2)
def mX4_isPlace : zY := (yX4_isPlace, cX4_isPlace, 1, some .boolean, 1)
def mX4_within : zY := (yX4_within, cX4_within, 3, some .boolean, 0)
def mX4_walkBetween : zY := (yX4_walkBetween, cX4_walkBetween, 4, some .int, 0)
def mX4_unwalk : zY := (yX4_unwalk, cX4_unwalk, 1, some .int, 0)
def mX4_open : zY := (yX4_open, cX4_open, 3, some .int, 2)
def mX4_isWalk : zY := (yX4_isWalk, cX4_isWalk, 2, some .boolean, 1)
def mX4_ofWalk : zY := (yX4_ofWalk, cX4_ofWalk, 3, some .int, 2)
def mX4_name : zY := (yX4_name, cX4_name, 2, some .int, 2)
def mX4_moves : zY := (yX4_moves, cX4_moves, 4, some .int, 2)
def mX4_isName : zY := (yX4_isName, cX4_isName, 2, some .boolean, 1)
def mX4_entrance : zY := (yX4_entrance, cX4_entrance, 3, some .int, 2)
def mX4_isIn : zY := (yX4_isIn, cX4_isIn, 2, some .boolean, 0)
def mX4_detour : zY := (yX4_detour, cX4_detour, 3, some .int, 1)
def mX4_board : zY := (yX4_board, cX4_board, 5, some .int, 2)
def mX4_unboard : zY := (yX4_unboard, cX4_unboard, 4, some .int, 2)
def mX4_arrow : zY := (yX4_arrow, cX4_arrow, 3, some .int, 2)
def mX4_far : zY := (yX4_far, cX4_far, 4, some .int, 3)
def mX4_findFar : zY := (yX4_findFar, cX4_findFar, 4, none, 1)
def mX4_draws : zY := (yX4_draws, cX4_draws, 5, none, 0)
def mX4_bestAt : zY := (yX4_bestAt, cX4_bestAt, 4, some .int, 2)
def mX4_openBetween : zY := (yX4_openBetween, cX4_openBetween, 4, some .int, 1)
def mX4_from : zY := (yX4_from, cX4_from, 4, some .int, 2)
def mX4_follow : zY := (yX4_follow, cX4_follow, 4, some .int, 4)
def mX4_laysArrows : zY := (yX4_laysArrows, cX4_laysArrows, 3, none, 0)
def mX4_follows : zY := (yX4_follows, cX4_follows, 6, none, 3)
def mX4_nextWalk : zY := (yX4_nextWalk, cX4_nextWalk, 4, some .int, 2)
def mX4_onlyWalk : zY := (yX4_onlyWalk, cX4_onlyWalk, 5, some .int, 1)
def mX4_touches : zY := (yX4_touches, cX4_touches, 3, some .boolean, 0)
def mX4_ends : zY := (yX4_ends, cX4_ends, 4, some .int, 5)
def mX4_manyEnd : zY := (yX4_manyEnd, cX4_manyEnd, 5, some .int, 4)
def mX4_those : zY := (yX4_those, cX4_those, 5, some .int, 4)
def mX4_idle : zY := (yX4_idle, cX4_idle, 4, some .int, 5)
def mX4_isIdle : zY := (yX4_isIdle, cX4_isIdle, 6, some .boolean, 4)
def mX4_keeps : zY := (yX4_keeps, cX4_keeps, 2, none, 0)
def mX4_isAsKept : zY := (yX4_isAsKept, cX4_isAsKept, 3, some .boolean, 0)
def mX4_mend : zY := (yX4_mend, cX4_mend, 7, some .int, 6)
def mX4_moreBy : zY := (yX4_moreBy, cX4_moreBy, 5, some .int, 5)
def mX4_leads : zY := (yX4_leads, cX4_leads, 3, some .int, 6)
def mX4_leadsTo : zY := (yX4_leadsTo, cX4_leadsTo, 3, some .boolean, 5)
def mX4_haveBest : zY := (yX4_haveBest, cX4_haveBest, 4, some .int, 3)
def mX4_doLead : zY := (yX4_doLead, cX4_doLead, 4, some .boolean, 4)
def mX4_fewest : zY := (yX4_fewest, cX4_fewest, 6, some .int, 5)
def mX4_manyOf : zY := (yX4_manyOf, cX4_manyOf, 3, some .int, 0)
def mX4_posts : zY := (yX4_posts, cX4_posts, 4, some .int, 5)
def mX4_many : zY := (yX4_many, cX4_many, 2, some .int, 2)
def mX4_manyOpen : zY := (yX4_manyOpen, cX4_manyOpen, 3, some .int, 0)
def mX4_allBoards : zY := (yX4_allBoards, cX4_allBoards, 5, some .int, 1)
def mX4_manyBoards : zY := (yX4_manyBoards, cX4_manyBoards, 4, some .int, 0)
end
section
/-! THE CALCULUS: one world of 59 cells (places by the order in which they are made), its numbers as one memory; 'z_Ok': a method of the program, at a pc, with locals, stack and memory, comes to its end with a given end state. A row an instruction, over no machine's names. -/
abbrev zM : Type := Nat → Nat → Int32
abbrev zG : Type := (Nat → Nat) × ClassId × ClassId × ClassId × va_G
abbrev zS : Type := (Nat × List (Option Nat)) ⊕ (Nat × Nat) ⊕ (Nat × Nat)
/-- the shapes of the places: an object (its class; of each field the place that it names, or none: a number), a row of numbers (0 int, 1 boolean; its length), a row of rows (how many, the first one's place) -/
def z_sh : List zS := [
  .inl (3, [some 1, some 18, some 32, some 35, some 38, some 39, some 45, none, none, none, none, none, none]),
  .inl (0, [some 2, some 3, some 4, some 5, some 6, some 7, none]),
  .inr (.inl (0, 14)), .inr (.inl (0, 14)), .inr (.inl (0, 14)), .inr (.inl (1, 14)), .inr (.inl (0, 10)),
  .inr (.inr (10, 8)), .inr (.inl (0, 10)), .inr (.inl (0, 10)), .inr (.inl (0, 10)), .inr (.inl (0, 10)), .inr (.inl (0, 10)), .inr (.inl (0, 10)), .inr (.inl (0, 10)), .inr (.inl (0, 10)), .inr (.inl (0, 10)), .inr (.inl (0, 10)),
  .inl (2, [some 19, some 25, some 31]),
  .inr (.inr (5, 20)), .inr (.inl (0, 10)), .inr (.inl (0, 10)), .inr (.inl (0, 10)), .inr (.inl (0, 10)), .inr (.inl (0, 10)),
  .inr (.inr (5, 26)), .inr (.inl (0, 10)), .inr (.inl (0, 10)), .inr (.inl (0, 10)), .inr (.inl (0, 10)), .inr (.inl (0, 10)),
  .inr (.inl (0, 5)),
  .inl (1, [some 33, some 34, none, none, none]), .inr (.inl (0, 30)), .inr (.inl (0, 10)),
  .inl (1, [some 36, some 37, none, none, none]), .inr (.inl (0, 30)), .inr (.inl (0, 10)),
  .inr (.inl (0, 5)),
  .inr (.inr (5, 40)), .inr (.inl (0, 10)), .inr (.inl (0, 10)), .inr (.inl (0, 10)), .inr (.inl (0, 10)), .inr (.inl (0, 10)),
  .inr (.inl (0, 10)),
  .inl (4, [none, some 47, some 48, some 49, some 50, none, some 51, none, none, some 52, some 53, some 54, some 55, none, none, none, some 56, none, none, some 57, some 58]),
  .inr (.inl (0, 14)), .inr (.inl (0, 14)), .inr (.inl (0, 14)), .inr (.inl (1, 14)), .inr (.inl (0, 5)), .inr (.inl (0, 50)), .inr (.inl (0, 10)), .inr (.inl (0, 10)), .inr (.inl (1, 140)), .inr (.inl (0, 41)), .inr (.inl (0, 41)), .inr (.inl (1, 1024))]
def z_f1 (ad : Nat → Nat) (f : Nat → Int32) (k : Nat) (o : Option Nat) : Value := match o with
  | some r => .ref (ad r)
  | none => .int (f k)
def z_fld (ad : Nat → Nat) (f : Nat → Int32) (fs : List (Option Nat)) : List Value := fs.mapIdx (z_f1 ad f)
def z_cell (G : zG) (f : Nat → Int32) (x : zS) : va_E := match x with
  | .inl o => .inr (o.1, z_fld G.1 f o.2)
  | .inr (.inl (0, n)) => .inl (G.2.1, n, .inl f)
  | .inr (.inl (_ + 1, n)) => .inl (G.2.2.1, n, .inl f)
  | .inr (.inr r) => .inl (G.2.2.2.1, r.1, .inr (.inr (.inr (.inr (fun i => if i < r.1 then some (G.1 (r.2 + i)) else none)))))
def z_W (G : zG) (D : zM) : va_W := z_sh.mapIdx (fun q x => (G.1 q, z_cell G (D q) x))
theorem z_at {G : zG} {D : zM} {q : Nat} {x : zS} (h : z_sh[q]? = some x) : (z_W G D)[q]? = some (G.1 q, z_cell G (D q) x) := by
  unfold z_W
  rw [List.getElem?_mapIdx, h]
  rfl
theorem z_at_inv {G : zG} {D : zM} {q : Nat} {y : Nat × va_E} (h : (z_W G D)[q]? = some y) : q < 59 ∧ y.1 = G.1 q := by
  unfold z_W at h
  rw [List.getElem?_mapIdx] at h
  cases hx : z_sh[q]? with
  | none => rw [hx] at h; cases h
  | some x =>
    rw [hx] at h
    cases h
    exact ⟨(List.getElem?_eq_some_iff.mp hx).1, rfl⟩
def z_row (D : zM) (q : Nat) (f : Nat → Int32) : zM := fun p => if p = q then f else D p
theorem z_row_eq (D : zM) (q : Nat) (f : Nat → Int32) : z_row D q f q = f := if_pos rfl
theorem z_row_ne {D : zM} {q p : Nat} {f : Nat → Int32} (h : p ≠ q) : z_row D q f p = D p := if_neg h
def z_up (D : zM) (q k : Nat) (v : Int32) : zM := z_row D q (upd (D q) k v)
theorem z_up_eq (D : zM) (q k : Nat) (v : Int32) : z_up D q k v q k = v := by simp [z_up, z_row, upd]
theorem z_up_k {D : zM} {q k j : Nat} {v : Int32} (h : j ≠ k) : z_up D q k v q j = D q j := by simp [z_up, z_row, upd, h]
theorem z_up_ne {D : zM} {q p k : Nat} {v : Int32} (h : p ≠ q) : z_up D q k v p = D p := z_row_ne h
theorem z_W_row {G : zG} {D : zM} {q : Nat} {x : zS} {f : Nat → Int32} (h : z_sh[q]? = some x) : (z_W G D).set q (G.1 q, z_cell G f x) = z_W G (z_row D q f) := by
  apply List.ext_getElem?
  intro i
  by_cases hi : i = q
  · subst hi
    rw [List.getElem?_set_self (List.getElem?_eq_some_iff.mp (z_at (G := G) (D := D) h)).1, z_at h, z_row_eq]
  · rw [List.getElem?_set_ne (Ne.symm hi)]
    unfold z_W
    rw [List.getElem?_mapIdx, List.getElem?_mapIdx, z_row_ne hi]
theorem z_fld_set {ad : Nat → Nat} {f : Nat → Int32} {fs : List (Option Nat)} {k : Nat} {v : Int32} (h : fs[k]? = some none) : (z_fld ad f fs).set k (.int v) = z_fld ad (upd f k v) fs := by
  apply List.ext_getElem?
  intro i
  have hl : k < (z_fld ad f fs).length := by
    unfold z_fld
    rw [List.length_mapIdx]
    exact (List.getElem?_eq_some_iff.mp h).1
  by_cases hi : i = k
  · subst hi
    rw [List.getElem?_set_self hl]
    unfold z_fld
    rw [List.getElem?_mapIdx, h]
    simp [z_f1, upd]
  · rw [List.getElem?_set_ne (Ne.symm hi)]
    unfold z_fld
    rw [List.getElem?_mapIdx, List.getElem?_mapIdx]
    cases fs[i]? with
    | none => rfl
    | some o => cases o <;> simp [z_f1, upd, hi]
theorem z_fld_at {ad : Nat → Nat} {f : Nat → Int32} {fs : List (Option Nat)} {k : Nat} {o : Option Nat} (h : fs[k]? = some o) : (z_fld ad f fs)[k]? = some (z_f1 ad f k o) := by
  unfold z_fld
  rw [List.getElem?_mapIdx, h]
  rfl
/-- the addresses are apart -/
def z_inj (G : zG) : Prop := ∀ i j : Nat, i < 59 → j < 59 → G.1 i = G.1 j → i = j
def z_A (G : zG) : Nat → Prop := fun q => ∃ k, k < 59 ∧ G.1 k = q
theorem z_D {G : zG} (h : z_inj G) (D : zM) : va_D (z_A G) (z_W G D) := by
  refine ⟨fun i j x y hx hy hxy => ?_, fun k q hk => ?_⟩
  · obtain ⟨a1, a2⟩ := z_at_inv hx
    obtain ⟨b1, b2⟩ := z_at_inv hy
    exact h i j a1 b1 (a2.symm.trans (hxy.trans b2))
  · obtain ⟨a1, a2⟩ := z_at_inv hk
    exact ⟨k, a1, a2.symm⟩
/-- a value of the program: a reference names a place -/
def z_v (G : zG) (v : Value) : Value := match v with
  | .ref k => .ref (G.1 k)
  | w => w
theorem z_v_cat (G : zG) (v : Value) : (z_v G v).category = v.category := by cases v <;> rfl
/-- the words that hold in every method -/
def z_T : List Cond := lw_tbl.filter goodWord
theorem z_mem {w : Cond} (i : Nat) (h : lw_tbl[i]? = some w) (hg : goodWord w = true) : w ∈ z_T := List.mem_filter.mpr ⟨List.mem_of_getElem? h, hg⟩
def z_wd (Y : zY) : List Cond := .code Y.1 Y.2.1 Y.2.2.1 Y.2.2.2.1 :: z_T
theorem z_good {Y : zY} (h : Cond.code Y.1 Y.2.1 Y.2.2.1 Y.2.2.2.1 ∈ z_T) : GoodIn z_T (z_wd Y) := by
  intro w hw
  have hm : w ∈ z_T := (List.mem_cons.mp hw).elim (fun e => e ▸ h) id
  exact ⟨hm, good_of_word (List.mem_filter.mp hm).2⟩
def z_rm (n : Nat) : Room := { frames := n, cells := 0, slots := 0, locals := 30 * n }
def z_nest : Cond := .methodLinkNest RX1 47 yX3_holds RX3
def z_tys (G : zG) : List (ClassId × FieldType) := [(G.2.1, .int), (G.2.2.1, .boolean), (G.2.2.2.1, .array .int)]
/-- what the tables say, at a state -/
def z_St (G : zG) (U : State) : Prop := va_K G.2.2.2.2 vwCl (z_tys G) U ∧ va_Nw z_nest U ∧ z_inj G
theorem z_St.warm {G : zG} {s U : State} (hW : s.WarmedH U.vm) (h : z_St G s) : z_St G U := ⟨va_K.moved hW.alike h.1, va_Nw.warmM hW h.2.1, h.2.2⟩
def z_Cx (Y : zY) (G : zG) (p : Program) (s : State) (m : MethodId) (args : Array Value) (meth : Method) (c : Code) : Prop :=
  p.tables.exec = Jvm.exec ∧ c.code = Y.2.1 ∧ meth.sig.returnType = Y.2.2.2.1 ∧ c.maxLocals = Y.2.2.1 ∧ s.vm.findClass Y.1.cls = some m.cls ∧ (∀ w ∈ z_T, w.before args s = true) ∧ meth.locks = false ∧ z_St G s
def z_Hp (G : zG) (s : State) (D : zM) (H : Heap) (locs : List Loc) : Prop := va_P G.2.2.2.2 vwCl (z_W G D) H ∧ va_S (z_A G) s.heap H locs
def z_l1 (G : zG) (i : Nat) (o : Option Value) : Option (Nat × Value) := o.map (fun v => (i, z_v G v))
def z_ll (G : zG) (lv : List (Option Value)) : List (Nat × Value) := (lv.mapIdx (z_l1 G)).filterMap id
theorem z_ll_mem {G : zG} {lv : List (Option Value)} {q : Nat × Value} : q ∈ z_ll G lv ↔ ∃ w, lv[q.1]? = some (some w) ∧ q.2 = z_v G w := by
  unfold z_ll
  rw [List.mem_filterMap]
  constructor
  · rintro ⟨o, h1, h2⟩
    obtain ⟨i, hi⟩ := List.getElem?_of_mem h1
    rw [List.getElem?_mapIdx] at hi
    cases hx : lv[i]? with
    | none => rw [hx] at hi; cases hi
    | some x =>
      rw [hx] at hi
      cases x with
      | none =>
        have : o = none := (Option.some.inj hi).symm
        rw [this] at h2
        cases h2
      | some w =>
        have : o = some (i, z_v G w) := (Option.some.inj hi).symm
        rw [this] at h2
        have h3 : (i, z_v G w) = q := Option.some.inj h2
        rw [← h3]
        exact ⟨w, hx, rfl⟩
  · rintro ⟨w, h1, h2⟩
    refine ⟨some q, ?_, rfl⟩
    apply List.mem_of_getElem? (i := q.1)
    rw [List.getElem?_mapIdx, h1]
    show some (some (q.1, z_v G w)) = some (some q)
    rw [← h2]
def z_Lv (G : zG) (la : Array Slot) (n : Nat) (lv : List (Option Value)) : Prop := lv_has la n (z_ll G lv) ∧ ∀ q ∈ z_ll G lv, q.2.category = 1
theorem z_Lv.at {G : zG} {la : Array Slot} {n i : Nat} {lv : List (Option Value)} {v : Value} (h : z_Lv G la n lv) (hi : lv[i]? = some (some v)) : la[i]? = some (.val (z_v G v)) := h.1.2.2 (i, z_v G v) (z_ll_mem.mpr ⟨v, hi, rfl⟩)
theorem z_Lv.set {G : zG} {la la' : Array Slot} {n i : Nat} {lv : List (Option Value)} {v : Value} (h : z_Lv G la n lv) (hc : v.category = 1)
    (h' : lv_has la' n ((i, z_v G v) :: (z_ll G lv).filter (fun q => !(q.1 == i) && !(q.1 + 1 == i && q.2.category == 2)))) : z_Lv G la' n (lv.set i (some v)) := by
  have key : ∀ q ∈ z_ll G (lv.set i (some v)), q = (i, z_v G v) ∨ (q.1 ≠ i ∧ q ∈ z_ll G lv) := by
    intro q hq
    obtain ⟨w, h1, h2⟩ := z_ll_mem.mp hq
    by_cases e : q.1 = i
    · left
      have hl : i < lv.length := by
        have := (List.getElem?_eq_some_iff.mp h1).1
        rw [List.length_set] at this
        omega
      rw [e, List.getElem?_set_self hl] at h1
      have : w = v := (Option.some.inj (Option.some.inj h1)).symm
      rw [this] at h2
      exact Prod.ext e h2
    · right
      rw [List.getElem?_set_ne (Ne.symm e)] at h1
      exact ⟨e, z_ll_mem.mpr ⟨w, h1, h2⟩⟩
  refine ⟨⟨h'.1, h'.2.1, fun q hq => ?_⟩, fun q hq => ?_⟩
  · rcases key q hq with rfl | ⟨e, hm⟩
    · exact h'.2.2 _ List.mem_cons_self
    · refine h'.2.2 q (List.mem_cons_of_mem _ (List.mem_filter.mpr ⟨hm, ?_⟩))
      have hc1 := h.2 q hm
      simp [e, hc1]
  · rcases key q hq with rfl | ⟨e, hm⟩
    · rw [z_v_cat]; exact hc
    · exact h.2 q hm
/-- a method's end -/
def z_Q (G : zG) (P : Option Int32 → zM → Prop) : Array Value → State → Outcome → State → Prop := fun _ st oc t =>
  (∃ (r : Option Int32) (D : zM), oc = .returned (r.map Value.int) ∧ P r D ∧ va_P G.2.2.2.2 vwCl (z_W G D) t.heap) ∧ va_F (z_A G) st t
def z_Ok (Y : zY) (pc : Nat) (lv : List (Option Value)) (st : List Value) (D : zM) (P : Option Int32 → zM → Prop) : Prop :=
  ∀ (G : zG) (p : Program) (l : Launch) (e : Env) (s : State) (m : MethodId) (args : Array Value) (below : List Frame) (meth : Method) (c : Code) (H : Heap) (locs : List Loc) (la : Array Slot),
    z_Cx Y G p s m args meth c → z_Hp G s D H locs → z_Lv G la Y.2.2.1 lv →
    W p l e (z_rm Y.2.2.2.2) s m args below meth c H locs 0 0 (MQ below (z_Q G P) args s 0 0 (z_A G)) (F0 m pc la (st.map (z_v G)))
/-- a contract: what a method does with these arguments in this memory -/
def z_en (Y : zY) (as : List Value) : List (Option Value) := as.map some ++ List.replicate (Y.2.2.1 - as.length) none
def z_C (Y : zY) (as : List Value) (D : zM) (P : Option Int32 → zM → Prop) : Prop := z_Ok Y 0 (z_en Y as) [] D P
def z_pi (Q : Int32 → zM → Prop) : Option Int32 → zM → Prop := fun o D => match o with
  | some r => Q r D
  | none => False
def z_pv (Q : zM → Prop) : Option Int32 → zM → Prop := fun o D => match o with
  | some _ => False
  | none => Q D
abbrev z_Ci (Y : zY) (as : List Value) (D : zM) (Q : Int32 → zM → Prop) : Prop := z_C Y as D (z_pi Q)
abbrev z_Cv (Y : zY) (as : List Value) (D : zM) (Q : zM → Prop) : Prop := z_C Y as D (z_pv Q)
end
section
/-! THE RULES: a row an instruction -/
section ZR
variable {Y : zY} {pc : Nat} {lv : List (Option Value)} {st : List Value} {D : zM} {P : Option Int32 → zM → Prop}
theorem z_iconst {n : Int} {v : Int32} (hd : decode Y.2.1 pc = .ok (.iconst n, 1)) (hv : Int32.ofInt n = v) (k : z_Ok Y (pc + 1) lv (.int v :: st) D P) : z_Ok Y pc lv st D P := by
  intro G p l e s m args below meth c H locs la C hp hl
  exact lv_iconst C.1 C.2.1 hd hv (k G p l e s m args below meth c H locs la C hp hl)
theorem z_bipush {n : Int} {v : Int32} (hd : decode Y.2.1 pc = .ok (.bipush n, 2)) (hv : (Int8.ofInt n).toInt32 = v) (k : z_Ok Y (pc + 2) lv (.int v :: st) D P) : z_Ok Y pc lv st D P := by
  intro G p l e s m args below meth c H locs la C hp hl
  exact lv_bipush C.1 C.2.1 hd hv (k G p l e s m args below meth c H locs la C hp hl)
theorem z_sipush {n : Int} {v : Int32} (hd : decode Y.2.1 pc = .ok (.sipush n, 3)) (hv : (Int16.ofInt n).toInt32 = v) (k : z_Ok Y (pc + 3) lv (.int v :: st) D P) : z_Ok Y pc lv st D P := by
  intro G p l e s m args below meth c H locs la C hp hl
  exact lv_sipush C.1 C.2.1 hd hv (k G p l e s m args below meth c H locs la C hp hl)
theorem z_ldc {i : Nat} {v : Int32} (hd : decode Y.2.1 pc = .ok (.ldc i, 2)) (hw : Cond.constant Y.1.cls i v ∈ z_T) (k : z_Ok Y (pc + 2) lv (.int v :: st) D P) : z_Ok Y pc lv st D P := by
  intro G p l e s m args below meth c H locs la C hp hl
  exact lv_ldc C.1 C.2.1 C.2.2.2.2.1 (C.2.2.2.2.2.1 _ hw) hd (k G p l e s m args below meth c H locs la C hp hl)
theorem z_ldcw {i : Nat} {v : Int32} (hd : decode Y.2.1 pc = .ok (.ldc_w i, 3)) (hw : Cond.constant Y.1.cls i v ∈ z_T) (k : z_Ok Y (pc + 3) lv (.int v :: st) D P) : z_Ok Y pc lv st D P := by
  intro G p l e s m args below meth c H locs la C hp hl
  exact lv_ldcw C.1 C.2.1 C.2.2.2.2.1 (C.2.2.2.2.2.1 _ hw) hd (k G p l e s m args below meth c H locs la C hp hl)
theorem z_iload_n {q : Fin 4} (i : Nat) {x : Int32} (hd : decode Y.2.1 pc = .ok (.iload_n q, 1)) (hi : (q : Nat) = i) (hx : lv[i]? = some (some (.int x))) (k : z_Ok Y (pc + 1) lv (.int x :: st) D P) : z_Ok Y pc lv st D P := by
  intro G p l e s m args below meth c H locs la C hp hl
  exact lv_iload_n C.1 C.2.1 hd hi (hl.at hx) (k G p l e s m args below meth c H locs la C hp hl)
theorem z_iload {i : Nat} {x : Int32} (hd : decode Y.2.1 pc = .ok (.iload i, 2)) (hx : lv[i]? = some (some (.int x))) (k : z_Ok Y (pc + 2) lv (.int x :: st) D P) : z_Ok Y pc lv st D P := by
  intro G p l e s m args below meth c H locs la C hp hl
  exact lv_iload C.1 C.2.1 hd (hl.at hx) (k G p l e s m args below meth c H locs la C hp hl)
theorem z_aload_n {q : Fin 4} (i : Nat) {x : Nat} (hd : decode Y.2.1 pc = .ok (.aload_n q, 1)) (hi : (q : Nat) = i) (hx : lv[i]? = some (some (.ref x))) (k : z_Ok Y (pc + 1) lv (.ref x :: st) D P) : z_Ok Y pc lv st D P := by
  intro G p l e s m args below meth c H locs la C hp hl
  exact lv_aload_n C.1 C.2.1 hd hi (hl.at hx) (k G p l e s m args below meth c H locs la C hp hl)
theorem z_aload {i : Nat} {x : Nat} (hd : decode Y.2.1 pc = .ok (.aload i, 2)) (hx : lv[i]? = some (some (.ref x))) (k : z_Ok Y (pc + 2) lv (.ref x :: st) D P) : z_Ok Y pc lv st D P := by
  intro G p l e s m args below meth c H locs la C hp hl
  exact lv_aload C.1 C.2.1 hd (hl.at hx) (k G p l e s m args below meth c H locs la C hp hl)
theorem z_istore_n {q : Fin 4} (i : Nat) {x : Int32} (hd : decode Y.2.1 pc = .ok (.istore_n q, 1)) (hi : (q : Nat) = i) (hn : Nat.blt i Y.2.2.1 = true) (k : z_Ok Y (pc + 1) (lv.set i (some (.int x))) st D P) : z_Ok Y pc lv (.int x :: st) D P := by
  intro G p l e s m args below meth c H locs la C hp hl
  exact lv_istore_n C.1 C.2.1 hd hi hl.1 (Nat.le_of_ble_eq_true hn) rfl (fun la' h' => k G p l e s m args below meth c H locs la' C hp (hl.set (v := .int x) rfl h'))
theorem z_istore {i : Nat} {x : Int32} (hd : decode Y.2.1 pc = .ok (.istore i, 2)) (hn : Nat.blt i Y.2.2.1 = true) (k : z_Ok Y (pc + 2) (lv.set i (some (.int x))) st D P) : z_Ok Y pc lv (.int x :: st) D P := by
  intro G p l e s m args below meth c H locs la C hp hl
  exact lv_istore C.1 C.2.1 hd hl.1 (Nat.le_of_ble_eq_true hn) rfl (fun la' h' => k G p l e s m args below meth c H locs la' C hp (hl.set (v := .int x) rfl h'))
theorem z_iinc {i : Nat} {n : Int} {x v : Int32} (hd : decode Y.2.1 pc = .ok (.iinc i n, 3)) (hx : lv[i]? = some (some (.int x))) (hv : x + Int32.ofInt n = v) (hn : Nat.blt i Y.2.2.1 = true) (k : z_Ok Y (pc + 3) (lv.set i (some (.int v))) st D P) : z_Ok Y pc lv st D P := by
  intro G p l e s m args below meth c H locs la C hp hl
  obtain ⟨j, hj⟩ := List.getElem?_of_mem (z_ll_mem (G := G) (lv := lv) (q := (i, .int x)) |>.mpr ⟨.int x, hx, rfl⟩)
  exact lv_iinc C.1 C.2.1 hd hl.1 hj hv (Nat.le_of_ble_eq_true hn) rfl (fun la' h' => k G p l e s m args below meth c H locs la' C hp (hl.set (v := .int v) rfl h'))
theorem z_iadd {x y : Int32} (hd : decode Y.2.1 pc = .ok (.iadd, 1)) (k : z_Ok Y (pc + 1) lv (.int (x + y) :: st) D P) : z_Ok Y pc lv (.int y :: .int x :: st) D P := by
  intro G p l e s m args below meth c H locs la C hp hl
  exact lv_iadd C.1 C.2.1 hd (k G p l e s m args below meth c H locs la C hp hl)
theorem z_isub {x y : Int32} (hd : decode Y.2.1 pc = .ok (.isub, 1)) (k : z_Ok Y (pc + 1) lv (.int (x - y) :: st) D P) : z_Ok Y pc lv (.int y :: .int x :: st) D P := by
  intro G p l e s m args below meth c H locs la C hp hl
  exact lv_isub C.1 C.2.1 hd (k G p l e s m args below meth c H locs la C hp hl)
theorem z_imul {x y : Int32} (hd : decode Y.2.1 pc = .ok (.imul, 1)) (k : z_Ok Y (pc + 1) lv (.int (x * y) :: st) D P) : z_Ok Y pc lv (.int y :: .int x :: st) D P := by
  intro G p l e s m args below meth c H locs la C hp hl
  exact lv_imul C.1 C.2.1 hd (k G p l e s m args below meth c H locs la C hp hl)
theorem z_iand {x y : Int32} (hd : decode Y.2.1 pc = .ok (.iand, 1)) (k : z_Ok Y (pc + 1) lv (.int (x &&& y) :: st) D P) : z_Ok Y pc lv (.int y :: .int x :: st) D P := by
  intro G p l e s m args below meth c H locs la C hp hl
  exact lv_iand C.1 C.2.1 hd (k G p l e s m args below meth c H locs la C hp hl)
theorem z_ior {x y : Int32} (hd : decode Y.2.1 pc = .ok (.ior, 1)) (k : z_Ok Y (pc + 1) lv (.int (x ||| y) :: st) D P) : z_Ok Y pc lv (.int y :: .int x :: st) D P := by
  intro G p l e s m args below meth c H locs la C hp hl
  exact lv_ior C.1 C.2.1 hd (k G p l e s m args below meth c H locs la C hp hl)
theorem z_ixor {x y : Int32} (hd : decode Y.2.1 pc = .ok (.ixor, 1)) (k : z_Ok Y (pc + 1) lv (.int (x ^^^ y) :: st) D P) : z_Ok Y pc lv (.int y :: .int x :: st) D P := by
  intro G p l e s m args below meth c H locs la C hp hl
  exact lv_ixor C.1 C.2.1 hd (k G p l e s m args below meth c H locs la C hp hl)
theorem z_ishl {x y : Int32} (hd : decode Y.2.1 pc = .ok (.ishl, 1)) (k : z_Ok Y (pc + 1) lv (.int (x <<< (y &&& 31)) :: st) D P) : z_Ok Y pc lv (.int y :: .int x :: st) D P := by
  intro G p l e s m args below meth c H locs la C hp hl
  exact lv_ishl C.1 C.2.1 hd (k G p l e s m args below meth c H locs la C hp hl)
theorem z_ishr {x y : Int32} (hd : decode Y.2.1 pc = .ok (.ishr, 1)) (k : z_Ok Y (pc + 1) lv (.int (x >>> (y &&& 31)) :: st) D P) : z_Ok Y pc lv (.int y :: .int x :: st) D P := by
  intro G p l e s m args below meth c H locs la C hp hl
  exact lv_ishr C.1 C.2.1 hd (k G p l e s m args below meth c H locs la C hp hl)
theorem z_iushr {x y : Int32} (hd : decode Y.2.1 pc = .ok (.iushr, 1)) (k : z_Ok Y (pc + 1) lv (.int ((x.toUInt32 >>> (y.toUInt32 &&& Int32.toUInt32 31)).toInt32) :: st) D P) : z_Ok Y pc lv (.int y :: .int x :: st) D P := by
  intro G p l e s m args below meth c H locs la C hp hl
  exact lv_iushr C.1 C.2.1 hd rfl (k G p l e s m args below meth c H locs la C hp hl)
theorem z_ineg {x : Int32} (hd : decode Y.2.1 pc = .ok (.ineg, 1)) (k : z_Ok Y (pc + 1) lv (.int (-x) :: st) D P) : z_Ok Y pc lv (.int x :: st) D P := by
  intro G p l e s m args below meth c H locs la C hp hl
  exact lv_ineg C.1 C.2.1 hd (k G p l e s m args below meth c H locs la C hp hl)
theorem z_idiv {x y : Int32} (hd : decode Y.2.1 pc = .ok (.idiv, 1)) (hne : ¬ y = 0) (k : z_Ok Y (pc + 1) lv (.int (x / y) :: st) D P) : z_Ok Y pc lv (.int y :: .int x :: st) D P := by
  intro G p l e s m args below meth c H locs la C hp hl
  exact lv_idiv C.1 C.2.1 hd hne (k G p l e s m args below meth c H locs la C hp hl)
theorem z_irem {x y : Int32} (hd : decode Y.2.1 pc = .ok (.irem, 1)) (hne : ¬ y = 0) (k : z_Ok Y (pc + 1) lv (.int (x - x / y * y) :: st) D P) : z_Ok Y pc lv (.int y :: .int x :: st) D P := by
  intro G p l e s m args below meth c H locs la C hp hl
  exact lv_irem C.1 C.2.1 hd hne (k G p l e s m args below meth c H locs la C hp hl)
theorem z_dup {v : Value} (hd : decode Y.2.1 pc = .ok (.dup, 1)) (hc : v.category = 1) (k : z_Ok Y (pc + 1) lv (v :: v :: st) D P) : z_Ok Y pc lv (v :: st) D P := by
  intro G p l e s m args below meth c H locs la C hp hl
  exact lv_dup C.1 C.2.1 hd ((z_v_cat G v).trans hc) (k G p l e s m args below meth c H locs la C hp hl)
theorem z_dup2 {v w : Value} (hd : decode Y.2.1 pc = .ok (.dup2, 1)) (hc : v.category = 1) (hw : w.category = 1) (k : z_Ok Y (pc + 1) lv (v :: w :: v :: w :: st) D P) : z_Ok Y pc lv (v :: w :: st) D P := by
  intro G p l e s m args below meth c H locs la C hp hl
  exact lv_dup2_11 C.1 C.2.1 hd ((z_v_cat G v).trans hc) ((z_v_cat G w).trans hw) (k G p l e s m args below meth c H locs la C hp hl)
theorem z_pop {v : Value} (hd : decode Y.2.1 pc = .ok (.pop, 1)) (hc : v.category = 1) (k : z_Ok Y (pc + 1) lv st D P) : z_Ok Y pc lv (v :: st) D P := by
  intro G p l e s m args below meth c H locs la C hp hl
  exact lv_pop C.1 C.2.1 hd ((z_v_cat G v).trans hc) (k G p l e s m args below meth c H locs la C hp hl)
theorem z_goto {off : Int} (tgt : Nat) (hd : decode Y.2.1 pc = .ok (.goto off, 3)) (ht : (pc : Int) + off = (tgt : Int)) (k : z_Ok Y tgt lv st D P) : z_Ok Y pc lv st D P := by
  intro G p l e s m args below meth c H locs la C hp hl
  exact lv_goto C.1 C.2.1 hd ht (k G p l e s m args below meth c H locs la C hp hl)
theorem z_if_eq {x : Int32} {off : Int} (tgt : Nat) (hd : decode Y.2.1 pc = .ok (.ifCond .eq off, 3)) (ht : (pc : Int) + off = (tgt : Int)) (kt : x = 0 → z_Ok Y tgt lv st D P) (kf : ¬ x = 0 → z_Ok Y (pc + 3) lv st D P) : z_Ok Y pc lv (.int x :: st) D P := by
  intro G p l e s m args below meth c H locs la C hp hl
  exact lv_if_eq C.1 C.2.1 hd ht (fun h => kt h G p l e s m args below meth c H locs la C hp hl) (fun h => kf h G p l e s m args below meth c H locs la C hp hl)
theorem z_if_ne {x : Int32} {off : Int} (tgt : Nat) (hd : decode Y.2.1 pc = .ok (.ifCond .ne off, 3)) (ht : (pc : Int) + off = (tgt : Int)) (kt : ¬ x = 0 → z_Ok Y tgt lv st D P) (kf : x = 0 → z_Ok Y (pc + 3) lv st D P) : z_Ok Y pc lv (.int x :: st) D P := by
  intro G p l e s m args below meth c H locs la C hp hl
  exact lv_if_ne C.1 C.2.1 hd ht (fun h => kt h G p l e s m args below meth c H locs la C hp hl) (fun h => kf h G p l e s m args below meth c H locs la C hp hl)
theorem z_if_lt {x : Int32} {off : Int} (tgt : Nat) (hd : decode Y.2.1 pc = .ok (.ifCond .lt off, 3)) (ht : (pc : Int) + off = (tgt : Int)) (kt : x < 0 → z_Ok Y tgt lv st D P) (kf : ¬ x < 0 → z_Ok Y (pc + 3) lv st D P) : z_Ok Y pc lv (.int x :: st) D P := by
  intro G p l e s m args below meth c H locs la C hp hl
  exact lv_if_lt C.1 C.2.1 hd ht (fun h => kt h G p l e s m args below meth c H locs la C hp hl) (fun h => kf h G p l e s m args below meth c H locs la C hp hl)
theorem z_if_ge {x : Int32} {off : Int} (tgt : Nat) (hd : decode Y.2.1 pc = .ok (.ifCond .ge off, 3)) (ht : (pc : Int) + off = (tgt : Int)) (kt : 0 ≤ x → z_Ok Y tgt lv st D P) (kf : ¬ 0 ≤ x → z_Ok Y (pc + 3) lv st D P) : z_Ok Y pc lv (.int x :: st) D P := by
  intro G p l e s m args below meth c H locs la C hp hl
  exact lv_if_ge C.1 C.2.1 hd ht (fun h => kt h G p l e s m args below meth c H locs la C hp hl) (fun h => kf h G p l e s m args below meth c H locs la C hp hl)
theorem z_if_gt {x : Int32} {off : Int} (tgt : Nat) (hd : decode Y.2.1 pc = .ok (.ifCond .gt off, 3)) (ht : (pc : Int) + off = (tgt : Int)) (kt : 0 < x → z_Ok Y tgt lv st D P) (kf : ¬ 0 < x → z_Ok Y (pc + 3) lv st D P) : z_Ok Y pc lv (.int x :: st) D P := by
  intro G p l e s m args below meth c H locs la C hp hl
  exact lv_if_gt C.1 C.2.1 hd ht (fun h => kt h G p l e s m args below meth c H locs la C hp hl) (fun h => kf h G p l e s m args below meth c H locs la C hp hl)
theorem z_if_le {x : Int32} {off : Int} (tgt : Nat) (hd : decode Y.2.1 pc = .ok (.ifCond .le off, 3)) (ht : (pc : Int) + off = (tgt : Int)) (kt : x ≤ 0 → z_Ok Y tgt lv st D P) (kf : ¬ x ≤ 0 → z_Ok Y (pc + 3) lv st D P) : z_Ok Y pc lv (.int x :: st) D P := by
  intro G p l e s m args below meth c H locs la C hp hl
  exact lv_if_le C.1 C.2.1 hd ht (fun h => kt h G p l e s m args below meth c H locs la C hp hl) (fun h => kf h G p l e s m args below meth c H locs la C hp hl)
theorem z_icmp_eq {x y : Int32} {off : Int} (tgt : Nat) (hd : decode Y.2.1 pc = .ok (.if_icmp .eq off, 3)) (ht : (pc : Int) + off = (tgt : Int)) (kt : x = y → z_Ok Y tgt lv st D P) (kf : ¬ x = y → z_Ok Y (pc + 3) lv st D P) : z_Ok Y pc lv (.int y :: .int x :: st) D P := by
  intro G p l e s m args below meth c H locs la C hp hl
  exact lv_icmp_eq C.1 C.2.1 hd ht (fun h => kt h G p l e s m args below meth c H locs la C hp hl) (fun h => kf h G p l e s m args below meth c H locs la C hp hl)
theorem z_icmp_ne {x y : Int32} {off : Int} (tgt : Nat) (hd : decode Y.2.1 pc = .ok (.if_icmp .ne off, 3)) (ht : (pc : Int) + off = (tgt : Int)) (kt : ¬ x = y → z_Ok Y tgt lv st D P) (kf : x = y → z_Ok Y (pc + 3) lv st D P) : z_Ok Y pc lv (.int y :: .int x :: st) D P := by
  intro G p l e s m args below meth c H locs la C hp hl
  exact lv_icmp_ne C.1 C.2.1 hd ht (fun h => kt h G p l e s m args below meth c H locs la C hp hl) (fun h => kf h G p l e s m args below meth c H locs la C hp hl)
theorem z_icmp_lt {x y : Int32} {off : Int} (tgt : Nat) (hd : decode Y.2.1 pc = .ok (.if_icmp .lt off, 3)) (ht : (pc : Int) + off = (tgt : Int)) (kt : x < y → z_Ok Y tgt lv st D P) (kf : ¬ x < y → z_Ok Y (pc + 3) lv st D P) : z_Ok Y pc lv (.int y :: .int x :: st) D P := by
  intro G p l e s m args below meth c H locs la C hp hl
  exact lv_icmp_lt C.1 C.2.1 hd ht (fun h => kt h G p l e s m args below meth c H locs la C hp hl) (fun h => kf h G p l e s m args below meth c H locs la C hp hl)
theorem z_icmp_ge {x y : Int32} {off : Int} (tgt : Nat) (hd : decode Y.2.1 pc = .ok (.if_icmp .ge off, 3)) (ht : (pc : Int) + off = (tgt : Int)) (kt : y ≤ x → z_Ok Y tgt lv st D P) (kf : ¬ y ≤ x → z_Ok Y (pc + 3) lv st D P) : z_Ok Y pc lv (.int y :: .int x :: st) D P := by
  intro G p l e s m args below meth c H locs la C hp hl
  exact lv_icmp_ge C.1 C.2.1 hd ht (fun h => kt h G p l e s m args below meth c H locs la C hp hl) (fun h => kf h G p l e s m args below meth c H locs la C hp hl)
theorem z_icmp_gt {x y : Int32} {off : Int} (tgt : Nat) (hd : decode Y.2.1 pc = .ok (.if_icmp .gt off, 3)) (ht : (pc : Int) + off = (tgt : Int)) (kt : y < x → z_Ok Y tgt lv st D P) (kf : ¬ y < x → z_Ok Y (pc + 3) lv st D P) : z_Ok Y pc lv (.int y :: .int x :: st) D P := by
  intro G p l e s m args below meth c H locs la C hp hl
  exact lv_icmp_gt C.1 C.2.1 hd ht (fun h => kt h G p l e s m args below meth c H locs la C hp hl) (fun h => kf h G p l e s m args below meth c H locs la C hp hl)
theorem z_icmp_le {x y : Int32} {off : Int} (tgt : Nat) (hd : decode Y.2.1 pc = .ok (.if_icmp .le off, 3)) (ht : (pc : Int) + off = (tgt : Int)) (kt : x ≤ y → z_Ok Y tgt lv st D P) (kf : ¬ x ≤ y → z_Ok Y (pc + 3) lv st D P) : z_Ok Y pc lv (.int y :: .int x :: st) D P := by
  intro G p l e s m args below meth c H locs la C hp hl
  exact lv_icmp_le C.1 C.2.1 hd ht (fun h => kt h G p l e s m args below meth c H locs la C hp hl) (fun h => kf h G p l e s m args below meth c H locs la C hp hl)
theorem z_tabOut {dflt lo hi : Int} {offs : Array Int} {len : Nat} {x : Int32} (tgt : Nat) (hd : decode Y.2.1 pc = .ok (.tableswitch dflt lo hi offs, len)) (h : x.toInt < lo ∨ hi < x.toInt) (ht : (pc : Int) + dflt = (tgt : Int)) (k : z_Ok Y tgt lv st D P) : z_Ok Y pc lv (.int x :: st) D P := by
  intro G p l e s m args below meth c H locs la C hp hl
  exact lv_tableOut C.1 C.2.1 hd h ht (k G p l e s m args below meth c H locs la C hp hl)
theorem z_tabIn {dflt lo hi : Int} {offs : Array Int} {len : Nat} {x : Int32} {off : Int} (tgt : Nat) (hd : decode Y.2.1 pc = .ok (.tableswitch dflt lo hi offs, len)) (h1 : ¬ x.toInt < lo) (h2 : ¬ hi < x.toInt) (ho : offs[(x.toInt - lo).toNat]? = some off) (ht : (pc : Int) + off = (tgt : Int)) (k : z_Ok Y tgt lv st D P) : z_Ok Y pc lv (.int x :: st) D P := by
  intro G p l e s m args below meth c H locs la C hp hl
  exact lv_tableIn C.1 C.2.1 hd h1 h2 ho ht (k G p l e s m args below meth c H locs la C hp hl)
theorem z_look {dflt : Int} {ps : Array (Int × Int)} {len : Nat} {x : Int32} {off : Int} (tgt : Nat) (hd : decode Y.2.1 pc = .ok (.lookupswitch dflt ps, len)) (hp : (ps.toList.zip (ps.toList.drop 1)).all (fun (a, next) => a.1 < next.1) = true) (ho : Op.lookupswitch.offset ps.toList dflt x.toInt = off) (ht : (pc : Int) + off = (tgt : Int)) (k : z_Ok Y tgt lv st D P) : z_Ok Y pc lv (.int x :: st) D P := by
  intro G p l e s m args below meth c H locs la C hp' hl
  exact lv_lookup C.1 C.2.1 hd hp ho ht (k G p l e s m args below meth c H locs la C hp' hl)
/-- a field's word: the class's number, its table, the field's number -/
def z_F (own : String) (idx : Nat) (ci : Nat) (k : Nat) : Prop := ∃ (C : String) (T : u_T) (N : Nat), vwCl[ci]? = some (C, T, N) ∧ k < N ∧ (∀ w ∈ u_ws C T N, w ∈ z_T) ∧ Cond.fieldLink own idx (T k).1 (T k).2.1 (T k).2.2.1 ∈ z_T
theorem z_getr {idx q ci : Nat} {fs : List (Option Nat)} (k r : Nat) (hd : decode Y.2.1 pc = .ok (.getfield idx, 3)) (hF : z_F Y.1.cls idx ci k) (hs : z_sh[q]? = some (.inl (ci, fs))) (hk : fs[k]? = some (some r)) (kk : z_Ok Y (pc + 3) lv (.ref r :: st) D P) : z_Ok Y pc lv (.ref q :: st) D P := by
  intro G p l e s m args below meth c H locs la C hp hl
  obtain ⟨CN, T, N, h1, h2, h3, h4⟩ := hF
  exact va_get (D := G.2.2.2.2) (ci := ci) (v := .ref (G.1 r)) C.1 C.2.1 C.2.2.2.2.2.1 h3 C.2.2.2.2.1 C.2.2.2.2.2.2.2.1 hp.1 q (z_at hs) h1 k h2 (C.2.2.2.2.2.1 _ h4) (fun _ h => h) (z_fld_at hk) hd (kk G p l e s m args below meth c H locs la C hp hl)
theorem z_geti {idx q ci : Nat} {fs : List (Option Nat)} (k : Nat) (hd : decode Y.2.1 pc = .ok (.getfield idx, 3)) (hF : z_F Y.1.cls idx ci k) (hs : z_sh[q]? = some (.inl (ci, fs))) (hk : fs[k]? = some none) (kk : z_Ok Y (pc + 3) lv (.int (D q k) :: st) D P) : z_Ok Y pc lv (.ref q :: st) D P := by
  intro G p l e s m args below meth c H locs la C hp hl
  obtain ⟨CN, T, N, h1, h2, h3, h4⟩ := hF
  exact va_get (D := G.2.2.2.2) (ci := ci) (v := .int (D q k)) C.1 C.2.1 C.2.2.2.2.2.1 h3 C.2.2.2.2.1 C.2.2.2.2.2.2.2.1 hp.1 q (z_at hs) h1 k h2 (C.2.2.2.2.2.1 _ h4) (fun _ h => h) (z_fld_at hk) hd (kk G p l e s m args below meth c H locs la C hp hl)
/-- a number's field can be written: its type is int, it isn't final -/
def z_P (own : String) (idx : Nat) (ci : Nat) (k : Nat) : Prop := ∃ (C : String) (T : u_T) (N : Nat) (ty : Nat → FieldType), vwCl[ci]? = some (C, T, N) ∧ k < N ∧ (∀ w ∈ u_ws C T N, w ∈ z_T) ∧ Cond.fieldLink own idx (T k).1 (T k).2.1 (T k).2.2.1 ∈ z_T ∧ (∀ k, k < N → parseFieldDescriptor (T k).2.2.1 = some (ty k)) ∧ (∀ a, a < N → ∀ b, b < N → a ≠ b → (T a).2.1 ≠ (T b).2.1) ∧ (T k).2.2.2 = false ∧ ty k = .int
theorem z_put {idx q ci : Nat} {fs : List (Option Nat)} (k : Nat) {v : Int32} (hd : decode Y.2.1 pc = .ok (.putfield idx, 3)) (hF : z_P Y.1.cls idx ci k) (hs : z_sh[q]? = some (.inl (ci, fs))) (hk : fs[k]? = some none) (kk : z_Ok Y (pc + 3) lv st (z_up D q k v) P) : z_Ok Y pc lv (.int v :: .ref q :: st) D P := by
  intro G p l e s m args below meth c H locs la C hp hl
  obtain ⟨CN, T, N, ty, h1, h2, h3, h4, h5, h6, h7, h8⟩ := hF
  have hln : k < (z_fld G.1 (D q) fs).length := by
    unfold z_fld
    rw [List.length_mapIdx]
    exact (List.getElem?_eq_some_iff.mp hk).1
  refine va_put (D := G.2.2.2.2) (ci := ci) (v := .int v) (ty := .int) C.1 C.2.1 C.2.2.2.2.2.1 h3 ty h5 h6 C.2.2.2.2.1 C.2.2.2.2.2.2.2.1 hp.1 (z_D C.2.2.2.2.2.2.2.2.2 D) hp.2 q (z_at hs) h1 k h2 (C.2.2.2.2.2.1 _ h4) (fun _ h => h) h7 (by rw [h5 k h2, h8]) rfl rfl hln hd (fun H1 locs1 hP _ hS => ?_)
  refine kk G p l e s m args below meth c H1 locs1 la C ⟨?_, hS⟩ hl
  have e1 := z_W_row (G := G) (D := D) (q := q) (f := upd (D q) k v) hs
  have e2 : z_cell G (upd (D q) k v) (.inl (ci, fs)) = .inr (ci, (z_fld G.1 (D q) fs).set k (.int v)) := by
    show (Sum.inr (ci, z_fld G.1 (upd (D q) k v) fs) : va_E) = _
    rw [z_fld_set hk]
  rw [e2] at e1
  rw [e1] at hP
  exact hP
theorem z_iald {q n : Nat} {i : Int32} (hd : decode Y.2.1 pc = .ok (.iaload, 1)) (hs : z_sh[q]? = some (.inr (.inl (0, n)))) (hi : vp_in i n) (kk : z_Ok Y (pc + 1) lv (.int (D q i.toNatClampNeg) :: st) D P) : z_Ok Y pc lv (.int i :: .ref q :: st) D P := by
  intro G p l e s m args below meth c H locs la C hp hl
  exact va_iald C.1 C.2.1 C.2.2.2.2.2.2.2.1 hp.1 q 0 (z_at hs) rfl hi hd (kk G p l e s m args below meth c H locs la C hp hl)
theorem z_bald {q n : Nat} {i : Int32} (hd : decode Y.2.1 pc = .ok (.baload, 1)) (hs : z_sh[q]? = some (.inr (.inl (1, n)))) (hi : vp_in i n) (kk : z_Ok Y (pc + 1) lv (.int (D q i.toNatClampNeg) :: st) D P) : z_Ok Y pc lv (.int i :: .ref q :: st) D P := by
  intro G p l e s m args below meth c H locs la C hp hl
  exact va_zald C.1 C.2.1 C.2.2.2.2.2.2.2.1 hp.1 q 1 (z_at hs) rfl hi hd (kk G p l e s m args below meth c H locs la C hp hl)
theorem z_iast {q n : Nat} {i x : Int32} (hd : decode Y.2.1 pc = .ok (.iastore, 1)) (hs : z_sh[q]? = some (.inr (.inl (0, n)))) (hi : vp_in i n) (kk : z_Ok Y (pc + 1) lv st (z_up D q i.toNatClampNeg x) P) : z_Ok Y pc lv (.int x :: .int i :: .ref q :: st) D P := by
  intro G p l e s m args below meth c H locs la C hp hl
  refine va_iast C.1 C.2.1 C.2.2.2.2.2.2.2.1 hp.1 (z_D C.2.2.2.2.2.2.2.2.2 D) hp.2 q 0 (z_at hs) rfl hi hd (fun H1 locs1 hP _ hS => ?_)
  refine kk G p l e s m args below meth c H1 locs1 la C ⟨?_, hS⟩ hl
  have e1 := z_W_row (G := G) (D := D) (q := q) (f := upd (D q) i.toNatClampNeg x) hs
  exact e1 ▸ hP
theorem z_bast {q n : Nat} {i x : Int32} (hd : decode Y.2.1 pc = .ok (.bastore, 1)) (hs : z_sh[q]? = some (.inr (.inl (1, n)))) (hi : vp_in i n) (hn : vp_nar .boolean x = x) (kk : z_Ok Y (pc + 1) lv st (z_up D q i.toNatClampNeg x) P) : z_Ok Y pc lv (.int x :: .int i :: .ref q :: st) D P := by
  intro G p l e s m args below meth c H locs la C hp hl
  refine va_zast C.1 C.2.1 C.2.2.2.2.2.2.2.1 hp.1 (z_D C.2.2.2.2.2.2.2.2.2 D) hp.2 q 1 (z_at hs) rfl hi hd (fun H1 locs1 hP _ hS => ?_)
  refine kk G p l e s m args below meth c H1 locs1 la C ⟨?_, hS⟩ hl
  have e1 := z_W_row (G := G) (D := D) (q := q) (f := upd (D q) i.toNatClampNeg x) hs
  rw [hn] at hP
  exact e1 ▸ hP
theorem z_aald {q n b : Nat} {i : Int32} (hd : decode Y.2.1 pc = .ok (.aaload, 1)) (hs : z_sh[q]? = some (.inr (.inr (n, b)))) (hi : vp_in i n) (kk : z_Ok Y (pc + 1) lv (.ref (b + i.toNatClampNeg) :: st) D P) : z_Ok Y pc lv (.int i :: .ref q :: st) D P := by
  intro G p l e s m args below meth c H locs la C hp hl
  have hlt : i.toNatClampNeg < n := Nat.not_le.mp fun q => hi (Or.inr q)
  have hc := hp.1 q _ (z_at hs)
  have hK := (C.2.2.2.2.2.2.2.1.2 2 _ rfl).1 n (fun j => va_rf (if j < n then some (G.1 (b + j)) else none))
  refine W.aald (v := .ref (G.1 (b + i.toNatClampNeg))) (ty := .array .int) C.1 C.2.1 hc hK rfl (fun q => by cases q) (by show ¬ (i < 0 ∨ (arrV _ _ _).slots.size ≤ _); rw [arrV_size]; exact hi) (by show (arrV _ _ _).slots[_]? = _; rw [arrV_read _ _ hlt]; simp [hlt, va_rf]) rfl rfl hd (kk G p l e s m args below meth c H locs la C hp hl)
theorem z_alen {q t n : Nat} {v : Int32} (hd : decode Y.2.1 pc = .ok (.arraylength, 1)) (hs : z_sh[q]? = some (.inr (.inl (t, n)))) (ht : t = 0) (hv : Int32.ofNat n = v) (kk : z_Ok Y (pc + 1) lv (.int v :: st) D P) : z_Ok Y pc lv (.ref q :: st) D P := by
  intro G p l e s m args below meth c H locs la C hp hl
  subst ht
  exact va_alen C.1 C.2.1 C.2.2.2.2.2.2.2.1 hp.1 q 0 (z_at hs) (ty := .int) rfl hv hd (kk G p l e s m args below meth c H locs la C hp hl)
theorem z_ret {v : Int32} {ty : FieldType} (hd : decode Y.2.1 pc = .ok (.ireturn, 1)) (hr : Y.2.2.2.1 = some ty) (hn : narrow ty (.int v) = .int v) (hP : P (some v) D) : z_Ok Y pc lv [.int v] D P := by
  intro G p l e s m args below meth c H locs la C hp hl
  exact W.zret (v := v) C.1 C.2.1 (C.2.2.1.trans hr) hn (fun t ht _ => ⟨⟨some v, D, rfl, hP, by rw [ht]; exact hp.1⟩, hp.2.F ht⟩) hp.2.2.2 hd C.2.2.2.2.2.2.1
theorem z_vret (hd : decode Y.2.1 pc = .ok (.return_, 1)) (hr : Y.2.2.2.1 = none) (hP : P none D) : z_Ok Y pc lv [] D P := by
  intro G p l e s m args below meth c H locs la C hp hl
  exact W.vret C.1 C.2.1 (C.2.2.1.trans hr) (fun t ht _ => ⟨⟨none, D, rfl, hP, by rw [ht]; exact hp.1⟩, hp.2.F ht⟩) hp.2.2.2 hd C.2.2.2.2.2.2.1
theorem z_weak {P' : Option Int32 → zM → Prop} (h : z_Ok Y pc lv st D P) (hP : ∀ r D', P r D' → P' r D') : z_Ok Y pc lv st D P' := by
  intro G p l e s m args below meth c H locs la C hp hl T hT X
  obtain ⟨t, h1, o, h2, h3, h4, h5⟩ := h G p l e s m args below meth c H locs la C hp hl T hT X
  obtain ⟨⟨r, D', a1, a2, a3⟩, a4⟩ := h4
  exact ⟨t, h1, o, h2, h3, ⟨⟨r, D', a1, hP r D' a2, a3⟩, a4⟩, h5⟩
end ZR
end
section
/-! CALLS: a contract is used at a call; the machine's own copy -/
section ZC
variable {Y : zY} {pc : Nat} {lv : List (Option Value)} {st : List Value} {D : zM} {P : Option Int32 → zM → Prop}
theorem z_ar_mem {G : zG} : ∀ (vs : List Value) (i : Nat), (∀ v ∈ vs, v.category = 1) → ∀ (j : Nat) (w : Value), vs[j]? = some w → (i + j, z_v G w) ∈ lv_args i (vs.map (z_v G))
  | [], _, _, j, w, h => by simp at h
  | v :: vs, i, hc, 0, w, h => by
    have e : v = w := by simpa using h
    subst e
    simp [lv_args]
  | v :: vs, i, hc, j + 1, w, h => by
    have e : ((z_v G v).category = 2) = False := by
      rw [z_v_cat, hc v List.mem_cons_self]
      simp
    simp only [List.map_cons, lv_args, e, if_false]
    refine List.mem_cons_of_mem _ ?_
    have := z_ar_mem (G := G) vs (i + 1) (fun x hx => hc x (List.mem_cons_of_mem _ hx)) j w (by simpa using h)
    rw [show i + (j + 1) = i + 1 + j by omega]
    exact this
theorem z_sl_len {G : zG} : ∀ (vs : List Value), (∀ v ∈ vs, v.category = 1) → (lg_sl (vs.map (z_v G))).length = vs.length
  | [], _ => rfl
  | v :: vs, hc => by
    have e : ((z_v G v).category = 2) = False := by
      rw [z_v_cat, hc v List.mem_cons_self]
      simp
    have := z_sl_len (G := G) vs (fun x hx => hc x (List.mem_cons_of_mem _ hx))
    simp only [lg_sl, List.map_cons, List.flatMap_cons, e, if_false, List.length_append, List.length_cons, List.length_nil] at this ⊢
    omega
theorem z_entryL {G : zG} {as : List Value} {n : Nat} (hn : as.length ≤ n) (hc : ∀ v ∈ as, v.category = 1) : z_Lv G ((lg_sl (as.map (z_v G)) ++ List.replicate (n - (lg_sl (as.map (z_v G))).length) Slot.unset).toArray) n (as.map some ++ List.replicate (n - as.length) none) := by
  have hl := lv_entry (as.map (z_v G)) (n := n) (by rw [z_sl_len as hc]; exact hn)
  have key : ∀ q ∈ z_ll G (as.map some ++ List.replicate (n - as.length) none), ∃ w, as[q.1]? = some w ∧ q.2 = z_v G w := by
    intro q hq
    obtain ⟨w, h1, h2⟩ := z_ll_mem.mp hq
    by_cases h : q.1 < as.length
    · rw [List.getElem?_append_left (by simpa using h), List.getElem?_map] at h1
      cases hx : as[q.1]? with
      | none => rw [hx] at h1; cases h1
      | some x =>
        rw [hx] at h1
        cases h1
        exact ⟨w, rfl, h2⟩
    · rw [List.getElem?_append_right (by simpa using h), List.getElem?_replicate] at h1
      split at h1
      · cases h1
      · cases h1
  refine ⟨⟨hl.1, hl.2.1, fun q hq => ?_⟩, fun q hq => ?_⟩
  · obtain ⟨w, h1, h2⟩ := key q hq
    have h3 := z_ar_mem (G := G) as 0 hc q.1 w h1
    rw [Nat.zero_add, ← h2] at h3
    exact hl.2.2 q h3
  · obtain ⟨w, h1, h2⟩ := key q hq
    rw [h2, z_v_cat]
    exact hc w (List.mem_of_getElem? h1)
/-- what a contract asks of the state in which the method begins -/
def z_Pr (G : zG) (D : zM) (U : State) : Prop := z_St G U ∧ va_P G.2.2.2.2 vwCl (z_W G D) U.heap
/-- a method that can be called: its words -/
def z_Mt (Y : zY) : Prop := Cond.code Y.1 Y.2.1 Y.2.2.1 Y.2.2.2.1 ∈ z_T ∧ Cond.initialized Y.1.cls ∈ z_T ∧ plainName Y.1.cls = true ∧ Y.1.cls ≠ "java/lang/invoke/MethodHandle" ∧ Y.1.cls ≠ "java/lang/invoke/VarHandle" ∧ Y.2.2.1 ≤ 9
theorem z_met {as : List Value} (hM : z_Mt Y) (hlen : as.length ≤ Y.2.2.1) (hcat : ∀ v ∈ as, v.category = 1) (hc : z_C Y as D P) (G : zG) (l : Launch) :
    Met l Y.1 (z_wd Y) (z_rm Y.2.2.2.2) (va_Pc (as.map (z_v G)) (z_Pr G D)) (z_Q G P) 0 0 (z_A G) := by
  refine Met.ofW (cc := Y.2.1) (maxL := Y.2.2.1) (ret := Y.2.2.2.1) hM.2.2.1 rfl ?_
  intro p e s m args below meth c s₁ B hml hv
  obtain ⟨rfl, hst, hP⟩ := hv
  have hts := atoms_spec (ws := z_wd Y) B.pre
  rw [lg_entry_eq]
  exact hc G p l e s m _ below meth c s.heap [] _ ⟨B.exec, B.bytes, B.returns, hml, findClass_of_methodNamed B.named, fun w hw => hts w (List.mem_cons_of_mem _ hw), B.notSynchronized, hst⟩ ⟨hP, va_S.rf⟩ (z_entryL hlen hcat)
theorem z_blind {as : List Value} {G : zG} {D : zM} : FrameBlind (va_Pc as (z_Pr G D)) := by
  intro a U g mk h
  obtain ⟨h1, h2, h3⟩ := h
  exact ⟨h1, ⟨va_K.moved (u := U) (U := U.calling g mk a) (Vm.Alike.refl U.vm) h2.1, va_Nw.same rfl rfl h2.2.1, h2.2.2⟩, h3⟩
theorem z_after {G : zG} {p : Program} {l : Launch} {e : Env} {R : Room} {s : State} {m : MethodId} {args : Array Value} {below : List Frame} {meth : Method} {c : Code} {H H0 : Heap} {locs : List Loc} {cells slots : Nat} {Q : State → Prop} {A0 : Nat → Prop} {pc : Nat} {ls : Array Slot} {rest st0 : List Value} {a : Array Value}
    (hr : va_Run p l e R s m args below meth c H locs cells slots 0 0 (F0 m pc ls st0) rest (z_Q G P a) (z_A G)) (hS : va_S A0 H0 H locs) (hA : ∀ q, z_A G q → A0 q)
    (kk : ∀ (r : Option Int32) (D' : zM) (H1 : Heap) (locs1 : List Loc), P r D' → va_P G.2.2.2.2 vwCl (z_W G D') H1 → va_S A0 H0 H1 locs1 → (∀ q : Nat, q < H.size → ¬ z_A G q → H1[q]? = H[q]?) → H.size ≤ H1.size → W p l e R s m args below meth c H1 locs1 cells slots Q (F0 m (pc + 3) ls ((r.map Value.int).toList ++ rest))) : W p l e R s m args below meth c H locs cells slots Q (F0 m pc ls st0) := by
  intro T hT X
  obtain ⟨v, st₀, t, T', L, h0, X', hL, e1, e2, ⟨⟨r, D', hv, hp, hb⟩, hz, hk⟩, st⟩ := hr T hT X
  cases hv
  rw [h0] at hz hk
  obtain ⟨t2, a1, b1⟩ := kk r D' T'.heap (locs ++ L) hp (by rw [e1]; exact hb)
    ⟨Nat.le_trans hS.1 (by rw [e1]; exact hz), fun q h1 h2 => by rw [e1, hk q (Nat.lt_of_lt_of_le h1 hS.1) (fun z => h2 (hA q z))]; exact hS.2.1 q h1 h2, fun q hq => by
      rcases List.mem_append.mp hq with h | h
      · exact hS.2.2 q h
      · exact hA _ (hL q h)⟩ (fun q h1 h2 => by rw [e1]; exact hk q h1 h2) (by rw [e1]; exact hz) T' rfl X'
  exact ⟨t2, st t2 a1, b1⟩
/-- the stack behind a call -/
def z_psh (r : Option Int32) (rest : List Value) : List Value := (r.map Value.int).toList ++ rest
theorem z_psh_v {G : zG} (r : Option Int32) (rest : List Value) : (z_psh r rest).map (z_v G) = (r.map Value.int).toList ++ rest.map (z_v G) := by
  cases r <;> rfl
theorem z_room8 {G : zG} {m : MethodId} {pc : Nat} {ls : Array Slot} {st0 rest : List Value} (h : (rest.map fun v => v.category).sum ≤ 8) : 2 * (F0 m pc ls st0).monitorRoom + ((rest.map (z_v G)).map fun v => v.category).sum ≤ 8 := by
  refine lv_room ?_
  rw [List.map_map]
  have : (fun v => v.category) ∘ z_v G = (fun v => v.category) := funext fun v => z_v_cat G v
  rw [this]
  exact h
def z_Pn (Y : zY) (n : Nat) : Prop := (parseMethodDescriptor Y.1.desc).map (fun d => d.parameters.length) = some n
/-- an instance method, called on the object at the place b -/
theorem z_callV {Z : zY} {idx n b ci : Nat} {fs : List (Option Nat)} {T : u_T} {N : Nat} {P' : Option Int32 → zM → Prop} (as : List Value) (rest : List Value) (hd : decode Y.2.1 pc = .ok (.invokevirtual idx, 3)) (hM : z_Mt Z) (hw : Cond.methodLink Y.1.cls idx Z.1 ∈ z_T ∧ Cond.instanceMethod Z.1 ∈ z_T ∧ Cond.selects Z.1.cls Z.1 Z.1 ∈ z_T) (hlev : Z.2.2.2.2 + 1 ≤ Y.2.2.2.2) (hpn : z_Pn Z n)
    (hs : z_sh[b]? = some (.inl (ci, fs))) (hcl : vwCl[ci]? = some (Z.1.cls, T, N)) (hst : st = as.reverse ++ .ref b :: rest) (hn : as.length = n) (hnl : as.length + 1 ≤ Z.2.2.1) (hcat : ∀ v ∈ as, v.category = 1) (h8 : (rest.map fun v => v.category).sum ≤ 8)
    (hC : z_C Z (.ref b :: as) D P') (kk : ∀ r D', P' r D' → z_Ok Y (pc + 3) lv (z_psh r rest) D' P) : z_Ok Y pc lv st D P := by
  intro G p l e s m args below meth c H locs la C hp hl
  have hmet := z_met hM (as := .ref b :: as) (by simpa using hnl) (fun v hv => (List.mem_cons.mp hv).elim (fun e => by rw [e]; rfl) (hcat v)) hC G l
  have hcell := va_recv (q0 := b) C.2.2.2.2.2.2.2.1 hp.1 hcl (z_at hs)
  have hts := C.2.2.2.2.2.1
  have hB := callB_of (s := s) (args := args) (own := Y.1.cls) (index := idx) (R := z_rm Y.2.2.2.2) n hts (z_good hM.1) (rfl : z_wd Z = _ :: z_T) (rm := z_rm Z.2.2.2.2) (mc := 0) (ms := 0) rfl rfl (hts _ hM.2.1) (hts _ hw.1) ⟨hM.2.2.2.1, hM.2.2.2.2.1, hpn⟩ ⟨hlev, by
    show 8 + (Z.2.2.1 + 11) + 30 * Z.2.2.2.2 ≤ 30 * Y.2.2.2.2
    have := hM.2.2.2.2.2
    omega⟩
  have hrun := va_runV (p := p) (l := l) (e := e) (below := below) (meth := meth) (c := c) (locs := locs) (cells := 0) (slots := 0) (H := H) (As := as.map (z_v G)) (rest := rest.map (z_v G)) (b := G.1 b) (C := Z.1.cls) (g := F0 m pc la (st.map (z_v G)))
    ⟨C.1, C.2.1, C.2.2.2.1, C.2.2.2.2.1, hts⟩ hmet ⟨hB, hts _ hw.2.1, hts _ hw.2.2⟩ ⟨z_blind, hcell, fun U hU hW => ⟨rfl, C.2.2.2.2.2.2.2.warm hW, by rw [hU]; exact hp.1⟩⟩ rfl (by rw [List.length_map]; exact hn) hl.1.1 (by rw [hst]; simp [z_v]) (z_room8 h8) hd ⟨Nat.le_refl 0, Nat.le_refl 0⟩
  refine z_after hrun hp.2 (fun _ h => h) (fun r D' H1 locs1 hPr hP1 hS1 _ _ => ?_)
  have := kk r D' hPr G p l e s m args below meth c H1 locs1 la C ⟨hP1, hS1⟩ hl
  rw [z_psh_v] at this
  exact this
/-- a static method -/
theorem z_callS {Z : zY} {idx n : Nat} {P' : Option Int32 → zM → Prop} (as : List Value) (rest : List Value) (hd : decode Y.2.1 pc = .ok (.invokestatic idx, 3)) (hM : z_Mt Z) (hw : Cond.methodLink Y.1.cls idx Z.1 ∈ z_T ∧ Cond.static Z.1 ∈ z_T) (hlev : Z.2.2.2.2 + 1 ≤ Y.2.2.2.2) (hpn : z_Pn Z n)
    (hst : st = as.reverse ++ rest) (hn : as.length = n) (hnl : as.length ≤ Z.2.2.1) (hcat : ∀ v ∈ as, v.category = 1) (h8 : (rest.map fun v => v.category).sum ≤ 8)
    (hC : z_C Z as D P') (kk : ∀ r D', P' r D' → z_Ok Y (pc + 3) lv (z_psh r rest) D' P) : z_Ok Y pc lv st D P := by
  intro G p l e s m args below meth c H locs la C hp hl
  have hmet := z_met hM (as := as) hnl hcat hC G l
  have hts := C.2.2.2.2.2.1
  have hB := callB_of (s := s) (args := args) (own := Y.1.cls) (index := idx) (R := z_rm Y.2.2.2.2) n hts (z_good hM.1) (rfl : z_wd Z = _ :: z_T) (rm := z_rm Z.2.2.2.2) (mc := 0) (ms := 0) rfl rfl (hts _ hM.2.1) (hts _ hw.1) ⟨hM.2.2.2.1, hM.2.2.2.2.1, hpn⟩ ⟨hlev, by
    show 8 + (Z.2.2.1 + 11) + 30 * Z.2.2.2.2 ≤ 30 * Y.2.2.2.2
    have := hM.2.2.2.2.2
    omega⟩
  have hrun := va_runS (p := p) (l := l) (e := e) (below := below) (meth := meth) (c := c) (locs := locs) (cells := 0) (slots := 0) (H := H) (As := as.map (z_v G)) (rest := rest.map (z_v G)) (g := F0 m pc la (st.map (z_v G)))
    ⟨C.1, C.2.1, C.2.2.2.1, C.2.2.2.2.1, hts⟩ hmet ⟨hB, hts _ hw.2⟩ ⟨z_blind, fun U hU hW => ⟨rfl, C.2.2.2.2.2.2.2.warm hW, by rw [hU]; exact hp.1⟩⟩ rfl (by rw [List.length_map]; exact hn) hl.1.1 (by rw [hst]; simp) (z_room8 h8) hd ⟨Nat.le_refl 0, Nat.le_refl 0⟩
  refine z_after hrun hp.2 (fun _ h => h) (fun r D' H1 locs1 hPr hP1 hS1 _ _ => ?_)
  have := kk r D' hPr G p l e s m args below meth c H1 locs1 la C ⟨hP1, hS1⟩ hl
  rw [z_psh_v] at this
  exact this
/-- the one call of a nest mate: WaySigns.holds out of Follower -/
theorem z_callN {P' : Option Int32 → zM → Prop} {n : Nat} (as : List Value) (rest : List Value) (hy : Y.1.cls = RX1) (hd : decode Y.2.1 pc = .ok (.invokestatic 47, 3)) (hM : z_Mt mX3_holds) (hw : Cond.static mX3_holds.1 ∈ z_T) (hlev : mX3_holds.2.2.2.2 + 1 ≤ Y.2.2.2.2) (hpn : z_Pn mX3_holds n)
    (hst : st = as.reverse ++ rest) (hn : as.length = n) (hnl : as.length ≤ mX3_holds.2.2.1) (hcat : ∀ v ∈ as, v.category = 1) (h8 : (rest.map fun v => v.category).sum ≤ 8)
    (hC : z_C mX3_holds as D P') (kk : ∀ r D', P' r D' → z_Ok Y (pc + 3) lv (z_psh r rest) D' P) : z_Ok Y pc lv st D P := by
  intro G p l e s m args below meth c H locs la C hp hl
  have hmet := z_met hM (as := as) hnl hcat hC G l
  have hts := C.2.2.2.2.2.1
  have hB := va_cnB (s := s) (args := args) (own := RX1) (host := RX3) (index := 47) (R := z_rm Y.2.2.2.2) n hts (z_good hM.1) (rfl : z_wd mX3_holds = _ :: z_T) (rm := z_rm mX3_holds.2.2.2.2) (mc := 0) (ms := 0) rfl rfl C.2.2.2.2.2.2.2.2.1 (hts _ hM.2.1) ⟨hM.2.2.2.1, hM.2.2.2.2.1, hpn⟩ ⟨hlev, by
    show 8 + (mX3_holds.2.2.1 + 11) + 30 * mX3_holds.2.2.2.2 ≤ 30 * Y.2.2.2.2
    have := hM.2.2.2.2.2
    omega⟩
  have hrun := va_runSN (p := p) (l := l) (e := e) (below := below) (meth := meth) (c := c) (locs := locs) (cells := 0) (slots := 0) (H := H) (As := as.map (z_v G)) (rest := rest.map (z_v G)) (g := F0 m pc la (st.map (z_v G)))
    ⟨C.1, C.2.1, C.2.2.2.1, by rw [← hy]; exact C.2.2.2.2.1, hts⟩ hmet ⟨hB, hts _ hw, trivial⟩ ⟨z_blind, fun U hU hW => ⟨rfl, C.2.2.2.2.2.2.2.warm hW, by rw [hU]; exact hp.1⟩⟩ rfl (by rw [List.length_map]; exact hn) hl.1.1 (by rw [hst]; simp) (z_room8 h8) hd ⟨Nat.le_refl 0, Nat.le_refl 0⟩
  refine z_after hrun hp.2 (fun _ h => h) (fun r D' H1 locs1 hPr hP1 hS1 _ _ => ?_)
  have := kk r D' hPr G p l e s m args below meth c H1 locs1 la C ⟨hP1, hS1⟩ hl
  rw [z_psh_v] at this
  exact this
/-- the machine's copy of rows of numbers -/
theorem z_copy {idx q0 q1 n0 n1 : Nat} {sp dp n : Int32} {rest : List Value} (hd : decode Y.2.1 pc = .ok (.invokestatic idx, 3)) (hw : Cond.methodLink Y.1.cls idx arraycopyName ∈ z_T ∧ Cond.native arraycopyName ∈ z_T ∧ Cond.static arraycopyName ∈ z_T ∧ Cond.initialized "java/lang/System" ∈ z_T) (hlev : 1 ≤ Y.2.2.2.2)
    (hs0 : z_sh[q0]? = some (.inr (.inl (0, n0)))) (hs1 : z_sh[q1]? = some (.inr (.inl (0, n1)))) (h1 : ¬ sp < 0) (h2 : ¬ dp < 0) (h3 : ¬ n < 0) (h4 : sp.toNatClampNeg + n.toNatClampNeg ≤ n0) (h5 : dp.toNatClampNeg + n.toNatClampNeg ≤ n1) (hr : rest = [])
    (kk : z_Ok Y (pc + 3) lv rest (z_row D q1 (va_cpy (D q0) (D q1) sp.toNatClampNeg dp.toNatClampNeg n.toNatClampNeg)) P) : z_Ok Y pc lv (.int n :: .int dp :: .ref q1 :: .int sp :: .ref q0 :: rest) D P := by
  intro G p l e s m args below meth c H locs la C hp hl
  have hts := C.2.2.2.2.2.1
  subst hr
  refine va_copyi (ty := .int) C.1 C.2.1 (C.2.2.2.1.trans hl.1.1.symm) C.2.2.2.2.1 (hts _ hw.1) (hts _ hw.2.1) (hts _ hw.2.2.1) (hts _ hw.2.2.2) C.2.2.2.2.2.2.2.1 hp.1 (z_D C.2.2.2.2.2.2.2.2.2 D) hp.2 q0 q1 0 0 (z_at hs0) (z_at hs1) rfl rfl rfl h1 h2 h3 h4 h5 (fun i _ => rfl) hlev (by
    show 0 + (nativeFrameWords "java/lang/System" "arraycopy" 5 + 11) ≤ 30 * Y.2.2.2.2
    have : nativeFrameWords "java/lang/System" "arraycopy" 5 + 11 ≤ 30 := by decide +kernel
    omega) hd (fun H1 locs1 hP _ hS => ?_)
  refine kk G p l e s m args below meth c H1 locs1 la C ⟨?_, hS⟩ hl
  have e1 := z_W_row (G := G) (D := D) (q := q1) (f := va_cpy (D q0) (D q1) sp.toNatClampNeg dp.toNatClampNeg n.toNatClampNeg) hs1
  exact e1 ▸ hP
theorem z_mmax {idx : Nat} {x y : Int32} {rest : List Value} (hd : decode Y.2.1 pc = .ok (.invokestatic idx, 3)) (hw : Cond.methodLink Y.1.cls idx Lib.Math.max.name ∈ z_T ∧ Cond.static Lib.Math.max.name ∈ z_T ∧ Cond.initialized "java/lang/Math" ∈ z_T ∧ Cond.code Lib.Math.max.name Lib.Math.max.code 2 (some .int) ∈ z_T) (hlev : 1 ≤ Y.2.2.2.2) (h8 : (rest.map fun v => v.category).sum ≤ 8)
    (kk : z_Ok Y (pc + 3) lv (.int (if x < y then y else x) :: rest) D P) : z_Ok Y pc lv (.int y :: .int x :: rest) D P := by
  intro G p l e s m args below meth c H locs la C hp hl
  have hts := C.2.2.2.2.2.1
  refine va_mmax C.1 C.2.1 (C.2.2.2.1.trans hl.1.1.symm) C.2.2.2.2.1 (hts _ hw.1) (hts _ hw.2.1) (hts _ hw.2.2.1) (hts _ hw.2.2.2) hlev ?_ (Nat.le_refl 0) (Nat.le_refl 0) hd (kk G p l e s m args below meth c H locs la C hp hl)
  have h9 := z_room8 (G := G) (m := m) (pc := pc) (ls := la) (st0 := []) h8
  show _ + 13 ≤ 30 * Y.2.2.2.2
  omega
theorem z_mmin {idx : Nat} {x y : Int32} {rest : List Value} (hd : decode Y.2.1 pc = .ok (.invokestatic idx, 3)) (hw : Cond.methodLink Y.1.cls idx Lib.Math.min.name ∈ z_T ∧ Cond.static Lib.Math.min.name ∈ z_T ∧ Cond.initialized "java/lang/Math" ∈ z_T ∧ Cond.code Lib.Math.min.name Lib.Math.min.code 2 (some .int) ∈ z_T) (hlev : 1 ≤ Y.2.2.2.2) (h8 : (rest.map fun v => v.category).sum ≤ 8)
    (kk : z_Ok Y (pc + 3) lv (.int (if y < x then y else x) :: rest) D P) : z_Ok Y pc lv (.int y :: .int x :: rest) D P := by
  intro G p l e s m args below meth c H locs la C hp hl
  have hts := C.2.2.2.2.2.1
  refine va_mmin C.1 C.2.1 (C.2.2.2.1.trans hl.1.1.symm) C.2.2.2.2.1 (hts _ hw.1) (hts _ hw.2.1) (hts _ hw.2.2.1) (hts _ hw.2.2.2) hlev ?_ (Nat.le_refl 0) (Nat.le_refl 0) hd (kk G p l e s m args below meth c H locs la C hp hl)
  have h9 := z_room8 (G := G) (m := m) (pc := pc) (ls := la) (st0 := []) h8
  show _ + 13 ≤ 30 * Y.2.2.2.2
  omega
end ZC
end
section
theorem dX0_init_0 : decode cX0_init 0 = .ok (.aload_n 0, 1) := by decide +kernel
theorem dX0_init_1 : decode cX0_init 1 = .ok (.invokespecial 3, 3) := by decide +kernel
theorem dX0_init_4 : decode cX0_init 4 = .ok (.aload_n 0, 1) := by decide +kernel
theorem dX0_init_5 : decode cX0_init 5 = .ok (.bipush 14, 2) := by decide +kernel
theorem dX0_init_7 : decode cX0_init 7 = .ok (.newarray .int, 2) := by decide +kernel
theorem dX0_init_9 : decode cX0_init 9 = .ok (.putfield 9, 3) := by decide +kernel
theorem dX0_init_12 : decode cX0_init 12 = .ok (.aload_n 0, 1) := by decide +kernel
theorem dX0_init_13 : decode cX0_init 13 = .ok (.bipush 14, 2) := by decide +kernel
theorem dX0_init_15 : decode cX0_init 15 = .ok (.newarray .int, 2) := by decide +kernel
theorem dX0_init_17 : decode cX0_init 17 = .ok (.putfield 15, 3) := by decide +kernel
theorem dX0_init_20 : decode cX0_init 20 = .ok (.aload_n 0, 1) := by decide +kernel
theorem dX0_init_21 : decode cX0_init 21 = .ok (.bipush 14, 2) := by decide +kernel
theorem dX0_init_23 : decode cX0_init 23 = .ok (.newarray .int, 2) := by decide +kernel
theorem dX0_init_25 : decode cX0_init 25 = .ok (.putfield 18, 3) := by decide +kernel
theorem dX0_init_28 : decode cX0_init 28 = .ok (.aload_n 0, 1) := by decide +kernel
theorem dX0_init_29 : decode cX0_init 29 = .ok (.bipush 14, 2) := by decide +kernel
theorem dX0_init_31 : decode cX0_init 31 = .ok (.newarray .boolean, 2) := by decide +kernel
theorem dX0_init_33 : decode cX0_init 33 = .ok (.putfield 21, 3) := by decide +kernel
theorem dX0_init_36 : decode cX0_init 36 = .ok (.aload_n 0, 1) := by decide +kernel
theorem dX0_init_37 : decode cX0_init 37 = .ok (.bipush 10, 2) := by decide +kernel
theorem dX0_init_39 : decode cX0_init 39 = .ok (.newarray .int, 2) := by decide +kernel
theorem dX0_init_41 : decode cX0_init 41 = .ok (.putfield 25, 3) := by decide +kernel
theorem dX0_init_44 : decode cX0_init 44 = .ok (.aload_n 0, 1) := by decide +kernel
theorem dX0_init_45 : decode cX0_init 45 = .ok (.bipush 10, 2) := by decide +kernel
theorem dX0_init_47 : decode cX0_init 47 = .ok (.bipush 10, 2) := by decide +kernel
theorem dX0_init_49 : decode cX0_init 49 = .ok (.multianewarray 28 2, 4) := by decide +kernel
theorem dX0_init_53 : decode cX0_init 53 = .ok (.putfield 30, 3) := by decide +kernel
theorem dX0_init_56 : decode cX0_init 56 = .ok (.aload_n 0, 1) := by decide +kernel
theorem dX0_init_57 : decode cX0_init 57 = .ok (.iconst 0, 1) := by decide +kernel
theorem dX0_init_58 : decode cX0_init 58 = .ok (.putfield 33, 3) := by decide +kernel
theorem dX0_init_61 : decode cX0_init 61 = .ok (.return_, 1) := by decide +kernel
theorem dX0_has_0 : decode cX0_has 0 = .ok (.iload_n 1, 1) := by decide +kernel
theorem dX0_has_1 : decode cX0_has 1 = .ok (.ifCond .lt 15, 3) := by decide +kernel
theorem dX0_has_4 : decode cX0_has 4 = .ok (.iload_n 1, 1) := by decide +kernel
theorem dX0_has_5 : decode cX0_has 5 = .ok (.aload_n 0, 1) := by decide +kernel
theorem dX0_has_6 : decode cX0_has 6 = .ok (.getfield 33, 3) := by decide +kernel
theorem dX0_has_9 : decode cX0_has 9 = .ok (.if_icmp .ge 7, 3) := by decide +kernel
theorem dX0_has_12 : decode cX0_has 12 = .ok (.iconst 1, 1) := by decide +kernel
theorem dX0_has_13 : decode cX0_has 13 = .ok (.goto 4, 3) := by decide +kernel
theorem dX0_has_16 : decode cX0_has 16 = .ok (.iconst 0, 1) := by decide +kernel
theorem dX0_has_17 : decode cX0_has 17 = .ok (.ireturn, 1) := by decide +kernel
theorem dX0_joins_0 : decode cX0_joins 0 = .ok (.iload_n 1, 1) := by decide +kernel
theorem dX0_joins_1 : decode cX0_joins 1 = .ok (.iload_n 2, 1) := by decide +kernel
theorem dX0_joins_2 : decode cX0_joins 2 = .ok (.invokestatic 37, 3) := by decide +kernel
theorem dX0_joins_5 : decode cX0_joins 5 = .ok (.istore_n 3, 1) := by decide +kernel
theorem dX0_joins_6 : decode cX0_joins 6 = .ok (.iload_n 1, 1) := by decide +kernel
theorem dX0_joins_7 : decode cX0_joins 7 = .ok (.iload_n 2, 1) := by decide +kernel
theorem dX0_joins_8 : decode cX0_joins 8 = .ok (.invokestatic 43, 3) := by decide +kernel
theorem dX0_joins_11 : decode cX0_joins 11 = .ok (.istore 4, 2) := by decide +kernel
theorem dX0_joins_13 : decode cX0_joins 13 = .ok (.iconst 0, 1) := by decide +kernel
theorem dX0_joins_14 : decode cX0_joins 14 = .ok (.istore 5, 2) := by decide +kernel
theorem dX0_joins_16 : decode cX0_joins 16 = .ok (.iload 5, 2) := by decide +kernel
theorem dX0_joins_18 : decode cX0_joins 18 = .ok (.aload_n 0, 1) := by decide +kernel
theorem dX0_joins_19 : decode cX0_joins 19 = .ok (.getfield 33, 3) := by decide +kernel
theorem dX0_joins_22 : decode cX0_joins 22 = .ok (.if_icmp .ge 34, 3) := by decide +kernel
theorem dX0_joins_25 : decode cX0_joins 25 = .ok (.aload_n 0, 1) := by decide +kernel
theorem dX0_joins_26 : decode cX0_joins 26 = .ok (.getfield 9, 3) := by decide +kernel
theorem dX0_joins_29 : decode cX0_joins 29 = .ok (.iload 5, 2) := by decide +kernel
theorem dX0_joins_31 : decode cX0_joins 31 = .ok (.iaload, 1) := by decide +kernel
theorem dX0_joins_32 : decode cX0_joins 32 = .ok (.iload_n 3, 1) := by decide +kernel
theorem dX0_joins_33 : decode cX0_joins 33 = .ok (.if_icmp .ne 17, 3) := by decide +kernel
theorem dX0_joins_36 : decode cX0_joins 36 = .ok (.aload_n 0, 1) := by decide +kernel
theorem dX0_joins_37 : decode cX0_joins 37 = .ok (.getfield 15, 3) := by decide +kernel
theorem dX0_joins_40 : decode cX0_joins 40 = .ok (.iload 5, 2) := by decide +kernel
theorem dX0_joins_42 : decode cX0_joins 42 = .ok (.iaload, 1) := by decide +kernel
theorem dX0_joins_43 : decode cX0_joins 43 = .ok (.iload 4, 2) := by decide +kernel
theorem dX0_joins_45 : decode cX0_joins 45 = .ok (.if_icmp .ne 5, 3) := by decide +kernel
theorem dX0_joins_48 : decode cX0_joins 48 = .ok (.iconst 1, 1) := by decide +kernel
theorem dX0_joins_49 : decode cX0_joins 49 = .ok (.ireturn, 1) := by decide +kernel
theorem dX0_joins_50 : decode cX0_joins 50 = .ok (.iinc 5 1, 3) := by decide +kernel
theorem dX0_joins_53 : decode cX0_joins 53 = .ok (.goto (-37), 3) := by decide +kernel
theorem dX0_joins_56 : decode cX0_joins 56 = .ok (.iconst 0, 1) := by decide +kernel
theorem dX0_joins_57 : decode cX0_joins 57 = .ok (.ireturn, 1) := by decide +kernel
theorem dX0_add_0 : decode cX0_add 0 = .ok (.aload_n 0, 1) := by decide +kernel
theorem dX0_add_1 : decode cX0_add 1 = .ok (.getfield 33, 3) := by decide +kernel
theorem dX0_add_4 : decode cX0_add 4 = .ok (.istore 4, 2) := by decide +kernel
theorem dX0_add_6 : decode cX0_add 6 = .ok (.aload_n 0, 1) := by decide +kernel
theorem dX0_add_7 : decode cX0_add 7 = .ok (.dup, 1) := by decide +kernel
theorem dX0_add_8 : decode cX0_add 8 = .ok (.getfield 33, 3) := by decide +kernel
theorem dX0_add_11 : decode cX0_add 11 = .ok (.iconst 1, 1) := by decide +kernel
theorem dX0_add_12 : decode cX0_add 12 = .ok (.iadd, 1) := by decide +kernel
theorem dX0_add_13 : decode cX0_add 13 = .ok (.putfield 33, 3) := by decide +kernel
theorem dX0_add_16 : decode cX0_add 16 = .ok (.aload_n 0, 1) := by decide +kernel
theorem dX0_add_17 : decode cX0_add 17 = .ok (.getfield 9, 3) := by decide +kernel
theorem dX0_add_20 : decode cX0_add 20 = .ok (.iload 4, 2) := by decide +kernel
theorem dX0_add_22 : decode cX0_add 22 = .ok (.iload_n 1, 1) := by decide +kernel
theorem dX0_add_23 : decode cX0_add 23 = .ok (.iload_n 2, 1) := by decide +kernel
theorem dX0_add_24 : decode cX0_add 24 = .ok (.invokestatic 37, 3) := by decide +kernel
theorem dX0_add_27 : decode cX0_add 27 = .ok (.iastore, 1) := by decide +kernel
theorem dX0_add_28 : decode cX0_add 28 = .ok (.aload_n 0, 1) := by decide +kernel
theorem dX0_add_29 : decode cX0_add 29 = .ok (.getfield 15, 3) := by decide +kernel
theorem dX0_add_32 : decode cX0_add 32 = .ok (.iload 4, 2) := by decide +kernel
theorem dX0_add_34 : decode cX0_add 34 = .ok (.iload_n 1, 1) := by decide +kernel
theorem dX0_add_35 : decode cX0_add 35 = .ok (.iload_n 2, 1) := by decide +kernel
theorem dX0_add_36 : decode cX0_add 36 = .ok (.invokestatic 43, 3) := by decide +kernel
theorem dX0_add_39 : decode cX0_add 39 = .ok (.iastore, 1) := by decide +kernel
theorem dX0_add_40 : decode cX0_add 40 = .ok (.aload_n 0, 1) := by decide +kernel
theorem dX0_add_41 : decode cX0_add 41 = .ok (.getfield 18, 3) := by decide +kernel
theorem dX0_add_44 : decode cX0_add 44 = .ok (.iload 4, 2) := by decide +kernel
theorem dX0_add_46 : decode cX0_add 46 = .ok (.iload_n 3, 1) := by decide +kernel
theorem dX0_add_47 : decode cX0_add 47 = .ok (.iastore, 1) := by decide +kernel
theorem dX0_add_48 : decode cX0_add 48 = .ok (.aload_n 0, 1) := by decide +kernel
theorem dX0_add_49 : decode cX0_add 49 = .ok (.getfield 21, 3) := by decide +kernel
theorem dX0_add_52 : decode cX0_add 52 = .ok (.iload 4, 2) := by decide +kernel
theorem dX0_add_54 : decode cX0_add 54 = .ok (.iconst 0, 1) := by decide +kernel
theorem dX0_add_55 : decode cX0_add 55 = .ok (.bastore, 1) := by decide +kernel
theorem dX0_add_56 : decode cX0_add 56 = .ok (.aload_n 0, 1) := by decide +kernel
theorem dX0_add_57 : decode cX0_add 57 = .ok (.iload 4, 2) := by decide +kernel
theorem dX0_add_59 : decode cX0_add 59 = .ok (.iconst 1, 1) := by decide +kernel
theorem dX0_add_60 : decode cX0_add 60 = .ok (.invokevirtual 46, 3) := by decide +kernel
theorem dX0_add_63 : decode cX0_add 63 = .ok (.pop, 1) := by decide +kernel
theorem dX0_add_64 : decode cX0_add 64 = .ok (.iload 4, 2) := by decide +kernel
theorem dX0_add_66 : decode cX0_add 66 = .ok (.ireturn, 1) := by decide +kernel
theorem dX0_removeLast_0 : decode cX0_removeLast 0 = .ok (.aload_n 0, 1) := by decide +kernel
theorem dX0_removeLast_1 : decode cX0_removeLast 1 = .ok (.aload_n 0, 1) := by decide +kernel
theorem dX0_removeLast_2 : decode cX0_removeLast 2 = .ok (.getfield 33, 3) := by decide +kernel
theorem dX0_removeLast_5 : decode cX0_removeLast 5 = .ok (.iconst 1, 1) := by decide +kernel
theorem dX0_removeLast_6 : decode cX0_removeLast 6 = .ok (.isub, 1) := by decide +kernel
theorem dX0_removeLast_7 : decode cX0_removeLast 7 = .ok (.iconst 0, 1) := by decide +kernel
theorem dX0_removeLast_8 : decode cX0_removeLast 8 = .ok (.invokevirtual 46, 3) := by decide +kernel
theorem dX0_removeLast_11 : decode cX0_removeLast 11 = .ok (.pop, 1) := by decide +kernel
theorem dX0_removeLast_12 : decode cX0_removeLast 12 = .ok (.aload_n 0, 1) := by decide +kernel
theorem dX0_removeLast_13 : decode cX0_removeLast 13 = .ok (.dup, 1) := by decide +kernel
theorem dX0_removeLast_14 : decode cX0_removeLast 14 = .ok (.getfield 33, 3) := by decide +kernel
theorem dX0_removeLast_17 : decode cX0_removeLast 17 = .ok (.iconst 1, 1) := by decide +kernel
theorem dX0_removeLast_18 : decode cX0_removeLast 18 = .ok (.isub, 1) := by decide +kernel
theorem dX0_removeLast_19 : decode cX0_removeLast 19 = .ok (.putfield 33, 3) := by decide +kernel
theorem dX0_removeLast_22 : decode cX0_removeLast 22 = .ok (.aload_n 0, 1) := by decide +kernel
theorem dX0_removeLast_23 : decode cX0_removeLast 23 = .ok (.getfield 33, 3) := by decide +kernel
theorem dX0_removeLast_26 : decode cX0_removeLast 26 = .ok (.ireturn, 1) := by decide +kernel
theorem dX0_turn_0 : decode cX0_turn 0 = .ok (.aload_n 0, 1) := by decide +kernel
theorem dX0_turn_1 : decode cX0_turn 1 = .ok (.getfield 21, 3) := by decide +kernel
theorem dX0_turn_4 : decode cX0_turn 4 = .ok (.iload_n 1, 1) := by decide +kernel
theorem dX0_turn_5 : decode cX0_turn 5 = .ok (.baload, 1) := by decide +kernel
theorem dX0_turn_6 : decode cX0_turn 6 = .ok (.iload_n 2, 1) := by decide +kernel
theorem dX0_turn_7 : decode cX0_turn 7 = .ok (.if_icmp .ne 5, 3) := by decide +kernel
theorem dX0_turn_10 : decode cX0_turn 10 = .ok (.iconst 0, 1) := by decide +kernel
theorem dX0_turn_11 : decode cX0_turn 11 = .ok (.ireturn, 1) := by decide +kernel
theorem dX0_turn_12 : decode cX0_turn 12 = .ok (.aload_n 0, 1) := by decide +kernel
theorem dX0_turn_13 : decode cX0_turn 13 = .ok (.getfield 21, 3) := by decide +kernel
theorem dX0_turn_16 : decode cX0_turn 16 = .ok (.iload_n 1, 1) := by decide +kernel
theorem dX0_turn_17 : decode cX0_turn 17 = .ok (.iload_n 2, 1) := by decide +kernel
theorem dX0_turn_18 : decode cX0_turn 18 = .ok (.bastore, 1) := by decide +kernel
theorem dX0_turn_19 : decode cX0_turn 19 = .ok (.aload_n 0, 1) := by decide +kernel
theorem dX0_turn_20 : decode cX0_turn 20 = .ok (.getfield 9, 3) := by decide +kernel
theorem dX0_turn_23 : decode cX0_turn 23 = .ok (.iload_n 1, 1) := by decide +kernel
theorem dX0_turn_24 : decode cX0_turn 24 = .ok (.iaload, 1) := by decide +kernel
theorem dX0_turn_25 : decode cX0_turn 25 = .ok (.istore_n 3, 1) := by decide +kernel
theorem dX0_turn_26 : decode cX0_turn 26 = .ok (.aload_n 0, 1) := by decide +kernel
theorem dX0_turn_27 : decode cX0_turn 27 = .ok (.getfield 15, 3) := by decide +kernel
theorem dX0_turn_30 : decode cX0_turn 30 = .ok (.iload_n 1, 1) := by decide +kernel
theorem dX0_turn_31 : decode cX0_turn 31 = .ok (.iaload, 1) := by decide +kernel
theorem dX0_turn_32 : decode cX0_turn 32 = .ok (.istore 4, 2) := by decide +kernel
theorem dX0_turn_34 : decode cX0_turn 34 = .ok (.aload_n 0, 1) := by decide +kernel
theorem dX0_turn_35 : decode cX0_turn 35 = .ok (.getfield 25, 3) := by decide +kernel
theorem dX0_turn_38 : decode cX0_turn 38 = .ok (.iload_n 3, 1) := by decide +kernel
theorem dX0_turn_39 : decode cX0_turn 39 = .ok (.dup2, 1) := by decide +kernel
theorem dX0_turn_40 : decode cX0_turn 40 = .ok (.iaload, 1) := by decide +kernel
theorem dX0_turn_41 : decode cX0_turn 41 = .ok (.iconst 1, 1) := by decide +kernel
theorem dX0_turn_42 : decode cX0_turn 42 = .ok (.iload 4, 2) := by decide +kernel
theorem dX0_turn_44 : decode cX0_turn 44 = .ok (.ishl, 1) := by decide +kernel
theorem dX0_turn_45 : decode cX0_turn 45 = .ok (.ixor, 1) := by decide +kernel
theorem dX0_turn_46 : decode cX0_turn 46 = .ok (.iastore, 1) := by decide +kernel
theorem dX0_turn_47 : decode cX0_turn 47 = .ok (.aload_n 0, 1) := by decide +kernel
theorem dX0_turn_48 : decode cX0_turn 48 = .ok (.getfield 25, 3) := by decide +kernel
theorem dX0_turn_51 : decode cX0_turn 51 = .ok (.iload 4, 2) := by decide +kernel
theorem dX0_turn_53 : decode cX0_turn 53 = .ok (.dup2, 1) := by decide +kernel
theorem dX0_turn_54 : decode cX0_turn 54 = .ok (.iaload, 1) := by decide +kernel
theorem dX0_turn_55 : decode cX0_turn 55 = .ok (.iconst 1, 1) := by decide +kernel
theorem dX0_turn_56 : decode cX0_turn 56 = .ok (.iload_n 3, 1) := by decide +kernel
theorem dX0_turn_57 : decode cX0_turn 57 = .ok (.ishl, 1) := by decide +kernel
theorem dX0_turn_58 : decode cX0_turn 58 = .ok (.ixor, 1) := by decide +kernel
theorem dX0_turn_59 : decode cX0_turn 59 = .ok (.iastore, 1) := by decide +kernel
theorem dX0_turn_60 : decode cX0_turn 60 = .ok (.aload_n 0, 1) := by decide +kernel
theorem dX0_turn_61 : decode cX0_turn 61 = .ok (.getfield 30, 3) := by decide +kernel
theorem dX0_turn_64 : decode cX0_turn 64 = .ok (.iload_n 3, 1) := by decide +kernel
theorem dX0_turn_65 : decode cX0_turn 65 = .ok (.aaload, 1) := by decide +kernel
theorem dX0_turn_66 : decode cX0_turn 66 = .ok (.iload 4, 2) := by decide +kernel
theorem dX0_turn_68 : decode cX0_turn 68 = .ok (.iload_n 2, 1) := by decide +kernel
theorem dX0_turn_69 : decode cX0_turn 69 = .ok (.ifCond .eq 12, 3) := by decide +kernel
theorem dX0_turn_72 : decode cX0_turn 72 = .ok (.aload_n 0, 1) := by decide +kernel
theorem dX0_turn_73 : decode cX0_turn 73 = .ok (.getfield 18, 3) := by decide +kernel
theorem dX0_turn_76 : decode cX0_turn 76 = .ok (.iload_n 1, 1) := by decide +kernel
theorem dX0_turn_77 : decode cX0_turn 77 = .ok (.iaload, 1) := by decide +kernel
theorem dX0_turn_78 : decode cX0_turn 78 = .ok (.goto 4, 3) := by decide +kernel
theorem dX0_turn_81 : decode cX0_turn 81 = .ok (.iconst 0, 1) := by decide +kernel
theorem dX0_turn_82 : decode cX0_turn 82 = .ok (.iastore, 1) := by decide +kernel
theorem dX0_turn_83 : decode cX0_turn 83 = .ok (.aload_n 0, 1) := by decide +kernel
theorem dX0_turn_84 : decode cX0_turn 84 = .ok (.getfield 30, 3) := by decide +kernel
theorem dX0_turn_87 : decode cX0_turn 87 = .ok (.iload 4, 2) := by decide +kernel
theorem dX0_turn_89 : decode cX0_turn 89 = .ok (.aaload, 1) := by decide +kernel
theorem dX0_turn_90 : decode cX0_turn 90 = .ok (.iload_n 3, 1) := by decide +kernel
theorem dX0_turn_91 : decode cX0_turn 91 = .ok (.aload_n 0, 1) := by decide +kernel
theorem dX0_turn_92 : decode cX0_turn 92 = .ok (.getfield 30, 3) := by decide +kernel
theorem dX0_turn_95 : decode cX0_turn 95 = .ok (.iload_n 3, 1) := by decide +kernel
theorem dX0_turn_96 : decode cX0_turn 96 = .ok (.aaload, 1) := by decide +kernel
theorem dX0_turn_97 : decode cX0_turn 97 = .ok (.iload 4, 2) := by decide +kernel
theorem dX0_turn_99 : decode cX0_turn 99 = .ok (.iaload, 1) := by decide +kernel
theorem dX0_turn_100 : decode cX0_turn 100 = .ok (.iastore, 1) := by decide +kernel
theorem dX0_turn_101 : decode cX0_turn 101 = .ok (.iconst 1, 1) := by decide +kernel
theorem dX0_turn_102 : decode cX0_turn 102 = .ok (.ireturn, 1) := by decide +kernel
theorem dX0_countOpen_0 : decode cX0_countOpen 0 = .ok (.iconst 0, 1) := by decide +kernel
theorem dX0_countOpen_1 : decode cX0_countOpen 1 = .ok (.istore_n 1, 1) := by decide +kernel
theorem dX0_countOpen_2 : decode cX0_countOpen 2 = .ok (.iconst 0, 1) := by decide +kernel
theorem dX0_countOpen_3 : decode cX0_countOpen 3 = .ok (.istore_n 2, 1) := by decide +kernel
theorem dX0_countOpen_4 : decode cX0_countOpen 4 = .ok (.iload_n 2, 1) := by decide +kernel
theorem dX0_countOpen_5 : decode cX0_countOpen 5 = .ok (.aload_n 0, 1) := by decide +kernel
theorem dX0_countOpen_6 : decode cX0_countOpen 6 = .ok (.getfield 33, 3) := by decide +kernel
theorem dX0_countOpen_9 : decode cX0_countOpen 9 = .ok (.if_icmp .ge 21, 3) := by decide +kernel
theorem dX0_countOpen_12 : decode cX0_countOpen 12 = .ok (.aload_n 0, 1) := by decide +kernel
theorem dX0_countOpen_13 : decode cX0_countOpen 13 = .ok (.getfield 21, 3) := by decide +kernel
theorem dX0_countOpen_16 : decode cX0_countOpen 16 = .ok (.iload_n 2, 1) := by decide +kernel
theorem dX0_countOpen_17 : decode cX0_countOpen 17 = .ok (.baload, 1) := by decide +kernel
theorem dX0_countOpen_18 : decode cX0_countOpen 18 = .ok (.ifCond .eq 6, 3) := by decide +kernel
theorem dX0_countOpen_21 : decode cX0_countOpen 21 = .ok (.iinc 1 1, 3) := by decide +kernel
theorem dX0_countOpen_24 : decode cX0_countOpen 24 = .ok (.iinc 2 1, 3) := by decide +kernel
theorem dX0_countOpen_27 : decode cX0_countOpen 27 = .ok (.goto (-23), 3) := by decide +kernel
theorem dX0_countOpen_30 : decode cX0_countOpen 30 = .ok (.iload_n 1, 1) := by decide +kernel
theorem dX0_countOpen_31 : decode cX0_countOpen 31 = .ok (.ireturn, 1) := by decide +kernel
theorem dX1_init_0 : decode cX1_init 0 = .ok (.aload_n 0, 1) := by decide +kernel
theorem dX1_init_1 : decode cX1_init 1 = .ok (.invokespecial 3, 3) := by decide +kernel
theorem dX1_init_4 : decode cX1_init 4 = .ok (.aload_n 0, 1) := by decide +kernel
theorem dX1_init_5 : decode cX1_init 5 = .ok (.bipush 30, 2) := by decide +kernel
theorem dX1_init_7 : decode cX1_init 7 = .ok (.newarray .int, 2) := by decide +kernel
theorem dX1_init_9 : decode cX1_init 9 = .ok (.putfield 9, 3) := by decide +kernel
theorem dX1_init_12 : decode cX1_init 12 = .ok (.aload_n 0, 1) := by decide +kernel
theorem dX1_init_13 : decode cX1_init 13 = .ok (.bipush 10, 2) := by decide +kernel
theorem dX1_init_15 : decode cX1_init 15 = .ok (.newarray .int, 2) := by decide +kernel
theorem dX1_init_17 : decode cX1_init 17 = .ok (.putfield 15, 3) := by decide +kernel
theorem dX1_init_20 : decode cX1_init 20 = .ok (.aload_n 0, 1) := by decide +kernel
theorem dX1_init_21 : decode cX1_init 21 = .ok (.iconst 0, 1) := by decide +kernel
theorem dX1_init_22 : decode cX1_init 22 = .ok (.putfield 18, 3) := by decide +kernel
theorem dX1_init_25 : decode cX1_init 25 = .ok (.aload_n 0, 1) := by decide +kernel
theorem dX1_init_26 : decode cX1_init 26 = .ok (.iconst 0, 1) := by decide +kernel
theorem dX1_init_27 : decode cX1_init 27 = .ok (.putfield 22, 3) := by decide +kernel
theorem dX1_init_30 : decode cX1_init 30 = .ok (.aload_n 0, 1) := by decide +kernel
theorem dX1_init_31 : decode cX1_init 31 = .ok (.iconst 0, 1) := by decide +kernel
theorem dX1_init_32 : decode cX1_init 32 = .ok (.putfield 25, 3) := by decide +kernel
theorem dX1_init_35 : decode cX1_init 35 = .ok (.return_, 1) := by decide +kernel
theorem dX1_go_0 : decode cX1_go 0 = .ok (.aload_n 0, 1) := by decide +kernel
theorem dX1_go_1 : decode cX1_go 1 = .ok (.getfield 15, 3) := by decide +kernel
theorem dX1_go_4 : decode cX1_go 4 = .ok (.iconst 0, 1) := by decide +kernel
theorem dX1_go_5 : decode cX1_go 5 = .ok (.invokestatic 28, 3) := by decide +kernel
theorem dX1_go_8 : decode cX1_go 8 = .ok (.aload_n 0, 1) := by decide +kernel
theorem dX1_go_9 : decode cX1_go 9 = .ok (.getfield 9, 3) := by decide +kernel
theorem dX1_go_12 : decode cX1_go 12 = .ok (.iconst 0, 1) := by decide +kernel
theorem dX1_go_13 : decode cX1_go 13 = .ok (.iload_n 2, 1) := by decide +kernel
theorem dX1_go_14 : decode cX1_go 14 = .ok (.iastore, 1) := by decide +kernel
theorem dX1_go_15 : decode cX1_go 15 = .ok (.aload_n 0, 1) := by decide +kernel
theorem dX1_go_16 : decode cX1_go 16 = .ok (.iconst 0, 1) := by decide +kernel
theorem dX1_go_17 : decode cX1_go 17 = .ok (.putfield 18, 3) := by decide +kernel
theorem dX1_go_20 : decode cX1_go 20 = .ok (.aload_n 0, 1) := by decide +kernel
theorem dX1_go_21 : decode cX1_go 21 = .ok (.iconst 0, 1) := by decide +kernel
theorem dX1_go_22 : decode cX1_go 22 = .ok (.putfield 22, 3) := by decide +kernel
theorem dX1_go_25 : decode cX1_go 25 = .ok (.aload_n 0, 1) := by decide +kernel
theorem dX1_go_26 : decode cX1_go 26 = .ok (.iconst 4, 1) := by decide +kernel
theorem dX1_go_27 : decode cX1_go 27 = .ok (.putfield 25, 3) := by decide +kernel
theorem dX1_go_30 : decode cX1_go 30 = .ok (.iload_n 2, 1) := by decide +kernel
theorem dX1_go_31 : decode cX1_go 31 = .ok (.istore 5, 2) := by decide +kernel
theorem dX1_go_33 : decode cX1_go 33 = .ok (.iconst 0, 1) := by decide +kernel
theorem dX1_go_34 : decode cX1_go 34 = .ok (.istore 6, 2) := by decide +kernel
theorem dX1_go_36 : decode cX1_go 36 = .ok (.iconst 1, 1) := by decide +kernel
theorem dX1_go_37 : decode cX1_go 37 = .ok (.istore 7, 2) := by decide +kernel
theorem dX1_go_39 : decode cX1_go 39 = .ok (.iload 7, 2) := by decide +kernel
theorem dX1_go_41 : decode cX1_go 41 = .ok (.bipush 29, 2) := by decide +kernel
theorem dX1_go_43 : decode cX1_go 43 = .ok (.if_icmp .gt 119, 3) := by decide +kernel
theorem dX1_go_46 : decode cX1_go 46 = .ok (.iload 5, 2) := by decide +kernel
theorem dX1_go_48 : decode cX1_go 48 = .ok (.iload_n 3, 1) := by decide +kernel
theorem dX1_go_49 : decode cX1_go 49 = .ok (.if_icmp .ne 9, 3) := by decide +kernel
theorem dX1_go_52 : decode cX1_go 52 = .ok (.aload_n 0, 1) := by decide +kernel
theorem dX1_go_53 : decode cX1_go 53 = .ok (.iconst 0, 1) := by decide +kernel
theorem dX1_go_54 : decode cX1_go 54 = .ok (.putfield 25, 3) := by decide +kernel
theorem dX1_go_57 : decode cX1_go 57 = .ok (.return_, 1) := by decide +kernel
theorem dX1_go_58 : decode cX1_go 58 = .ok (.aload_n 1, 1) := by decide +kernel
theorem dX1_go_59 : decode cX1_go 59 = .ok (.iload 5, 2) := by decide +kernel
theorem dX1_go_61 : decode cX1_go 61 = .ok (.iload 6, 2) := by decide +kernel
theorem dX1_go_63 : decode cX1_go 63 = .ok (.aload 4, 2) := by decide +kernel
theorem dX1_go_65 : decode cX1_go 65 = .ok (.iload 5, 2) := by decide +kernel
theorem dX1_go_67 : decode cX1_go 67 = .ok (.iaload, 1) := by decide +kernel
theorem dX1_go_68 : decode cX1_go 68 = .ok (.invokestatic 34, 3) := by decide +kernel
theorem dX1_go_71 : decode cX1_go 71 = .ok (.istore 8, 2) := by decide +kernel
theorem dX1_go_73 : decode cX1_go 73 = .ok (.iload 8, 2) := by decide +kernel
theorem dX1_go_75 : decode cX1_go 75 = .ok (.ifCond .ge 11, 3) := by decide +kernel
theorem dX1_go_78 : decode cX1_go 78 = .ok (.aload_n 0, 1) := by decide +kernel
theorem dX1_go_79 : decode cX1_go 79 = .ok (.iload 8, 2) := by decide +kernel
theorem dX1_go_81 : decode cX1_go 81 = .ok (.ineg, 1) := by decide +kernel
theorem dX1_go_82 : decode cX1_go 82 = .ok (.putfield 25, 3) := by decide +kernel
theorem dX1_go_85 : decode cX1_go 85 = .ok (.return_, 1) := by decide +kernel
theorem dX1_go_86 : decode cX1_go 86 = .ok (.aload_n 0, 1) := by decide +kernel
theorem dX1_go_87 : decode cX1_go 87 = .ok (.getfield 9, 3) := by decide +kernel
theorem dX1_go_90 : decode cX1_go 90 = .ok (.iload 7, 2) := by decide +kernel
theorem dX1_go_92 : decode cX1_go 92 = .ok (.iload 8, 2) := by decide +kernel
theorem dX1_go_94 : decode cX1_go 94 = .ok (.iastore, 1) := by decide +kernel
theorem dX1_go_95 : decode cX1_go 95 = .ok (.aload_n 0, 1) := by decide +kernel
theorem dX1_go_96 : decode cX1_go 96 = .ok (.iload 7, 2) := by decide +kernel
theorem dX1_go_98 : decode cX1_go 98 = .ok (.putfield 18, 3) := by decide +kernel
theorem dX1_go_101 : decode cX1_go 101 = .ok (.aload_n 0, 1) := by decide +kernel
theorem dX1_go_102 : decode cX1_go 102 = .ok (.dup, 1) := by decide +kernel
theorem dX1_go_103 : decode cX1_go 103 = .ok (.getfield 22, 3) := by decide +kernel
theorem dX1_go_106 : decode cX1_go 106 = .ok (.aload_n 1, 1) := by decide +kernel
theorem dX1_go_107 : decode cX1_go 107 = .ok (.getfield 38, 3) := by decide +kernel
theorem dX1_go_110 : decode cX1_go 110 = .ok (.iload 5, 2) := by decide +kernel
theorem dX1_go_112 : decode cX1_go 112 = .ok (.aaload, 1) := by decide +kernel
theorem dX1_go_113 : decode cX1_go 113 = .ok (.iload 8, 2) := by decide +kernel
theorem dX1_go_115 : decode cX1_go 115 = .ok (.iaload, 1) := by decide +kernel
theorem dX1_go_116 : decode cX1_go 116 = .ok (.iadd, 1) := by decide +kernel
theorem dX1_go_117 : decode cX1_go 117 = .ok (.putfield 22, 3) := by decide +kernel
theorem dX1_go_120 : decode cX1_go 120 = .ok (.iconst 1, 1) := by decide +kernel
theorem dX1_go_121 : decode cX1_go 121 = .ok (.iload 5, 2) := by decide +kernel
theorem dX1_go_123 : decode cX1_go 123 = .ok (.ishl, 1) := by decide +kernel
theorem dX1_go_124 : decode cX1_go 124 = .ok (.istore 6, 2) := by decide +kernel
theorem dX1_go_126 : decode cX1_go 126 = .ok (.aload_n 0, 1) := by decide +kernel
theorem dX1_go_127 : decode cX1_go 127 = .ok (.getfield 15, 3) := by decide +kernel
theorem dX1_go_130 : decode cX1_go 130 = .ok (.iload 8, 2) := by decide +kernel
theorem dX1_go_132 : decode cX1_go 132 = .ok (.iaload, 1) := by decide +kernel
theorem dX1_go_133 : decode cX1_go 133 = .ok (.iload 6, 2) := by decide +kernel
theorem dX1_go_135 : decode cX1_go 135 = .ok (.iand, 1) := by decide +kernel
theorem dX1_go_136 : decode cX1_go 136 = .ok (.ifCond .eq 4, 3) := by decide +kernel
theorem dX1_go_139 : decode cX1_go 139 = .ok (.return_, 1) := by decide +kernel
theorem dX1_go_140 : decode cX1_go 140 = .ok (.aload_n 0, 1) := by decide +kernel
theorem dX1_go_141 : decode cX1_go 141 = .ok (.getfield 15, 3) := by decide +kernel
theorem dX1_go_144 : decode cX1_go 144 = .ok (.iload 8, 2) := by decide +kernel
theorem dX1_go_146 : decode cX1_go 146 = .ok (.dup2, 1) := by decide +kernel
theorem dX1_go_147 : decode cX1_go 147 = .ok (.iaload, 1) := by decide +kernel
theorem dX1_go_148 : decode cX1_go 148 = .ok (.iload 6, 2) := by decide +kernel
theorem dX1_go_150 : decode cX1_go 150 = .ok (.ior, 1) := by decide +kernel
theorem dX1_go_151 : decode cX1_go 151 = .ok (.iastore, 1) := by decide +kernel
theorem dX1_go_152 : decode cX1_go 152 = .ok (.iload 8, 2) := by decide +kernel
theorem dX1_go_154 : decode cX1_go 154 = .ok (.istore 5, 2) := by decide +kernel
theorem dX1_go_156 : decode cX1_go 156 = .ok (.iinc 7 1, 3) := by decide +kernel
theorem dX1_go_159 : decode cX1_go 159 = .ok (.goto (-120), 3) := by decide +kernel
theorem dX1_go_162 : decode cX1_go 162 = .ok (.return_, 1) := by decide +kernel
theorem dX1_nextFrom_0 : decode cX1_nextFrom 0 = .ok (.aload_n 0, 1) := by decide +kernel
theorem dX1_nextFrom_1 : decode cX1_nextFrom 1 = .ok (.getfield 44, 3) := by decide +kernel
theorem dX1_nextFrom_4 : decode cX1_nextFrom 4 = .ok (.iload_n 1, 1) := by decide +kernel
theorem dX1_nextFrom_5 : decode cX1_nextFrom 5 = .ok (.iaload, 1) := by decide +kernel
theorem dX1_nextFrom_6 : decode cX1_nextFrom 6 = .ok (.istore 4, 2) := by decide +kernel
theorem dX1_nextFrom_8 : decode cX1_nextFrom 8 = .ok (.iload_n 3, 1) := by decide +kernel
theorem dX1_nextFrom_9 : decode cX1_nextFrom 9 = .ok (.bipush (-9), 2) := by decide +kernel
theorem dX1_nextFrom_11 : decode cX1_nextFrom 11 = .ok (.if_icmp .eq 19, 3) := by decide +kernel
theorem dX1_nextFrom_14 : decode cX1_nextFrom 14 = .ok (.iload 4, 2) := by decide +kernel
theorem dX1_nextFrom_16 : decode cX1_nextFrom 16 = .ok (.iload_n 3, 1) := by decide +kernel
theorem dX1_nextFrom_17 : decode cX1_nextFrom 17 = .ok (.invokestatic 47, 3) := by decide +kernel
theorem dX1_nextFrom_20 : decode cX1_nextFrom 20 = .ok (.ifCond .eq 7, 3) := by decide +kernel
theorem dX1_nextFrom_23 : decode cX1_nextFrom 23 = .ok (.iload_n 3, 1) := by decide +kernel
theorem dX1_nextFrom_24 : decode cX1_nextFrom 24 = .ok (.goto 5, 3) := by decide +kernel
theorem dX1_nextFrom_27 : decode cX1_nextFrom 27 = .ok (.bipush (-3), 2) := by decide +kernel
theorem dX1_nextFrom_29 : decode cX1_nextFrom 29 = .ok (.ireturn, 1) := by decide +kernel
theorem dX1_nextFrom_30 : decode cX1_nextFrom 30 = .ok (.iload 4, 2) := by decide +kernel
theorem dX1_nextFrom_32 : decode cX1_nextFrom 32 = .ok (.iload_n 2, 1) := by decide +kernel
theorem dX1_nextFrom_33 : decode cX1_nextFrom 33 = .ok (.iconst (-1), 1) := by decide +kernel
theorem dX1_nextFrom_34 : decode cX1_nextFrom 34 = .ok (.ixor, 1) := by decide +kernel
theorem dX1_nextFrom_35 : decode cX1_nextFrom 35 = .ok (.iand, 1) := by decide +kernel
theorem dX1_nextFrom_36 : decode cX1_nextFrom 36 = .ok (.istore 4, 2) := by decide +kernel
theorem dX1_nextFrom_38 : decode cX1_nextFrom 38 = .ok (.iload 4, 2) := by decide +kernel
theorem dX1_nextFrom_40 : decode cX1_nextFrom 40 = .ok (.ifCond .ne 6, 3) := by decide +kernel
theorem dX1_nextFrom_43 : decode cX1_nextFrom 43 = .ok (.bipush (-2), 2) := by decide +kernel
theorem dX1_nextFrom_45 : decode cX1_nextFrom 45 = .ok (.ireturn, 1) := by decide +kernel
theorem dX1_nextFrom_46 : decode cX1_nextFrom 46 = .ok (.iload 4, 2) := by decide +kernel
theorem dX1_nextFrom_48 : decode cX1_nextFrom 48 = .ok (.invokestatic 51, 3) := by decide +kernel
theorem dX1_nextFrom_51 : decode cX1_nextFrom 51 = .ok (.iconst 1, 1) := by decide +kernel
theorem dX1_nextFrom_52 : decode cX1_nextFrom 52 = .ok (.if_icmp .le 7, 3) := by decide +kernel
theorem dX1_nextFrom_55 : decode cX1_nextFrom 55 = .ok (.iconst (-1), 1) := by decide +kernel
theorem dX1_nextFrom_56 : decode cX1_nextFrom 56 = .ok (.goto 10, 3) := by decide +kernel
theorem dX1_nextFrom_59 : decode cX1_nextFrom 59 = .ok (.iload 4, 2) := by decide +kernel
theorem dX1_nextFrom_61 : decode cX1_nextFrom 61 = .ok (.iconst 1, 1) := by decide +kernel
theorem dX1_nextFrom_62 : decode cX1_nextFrom 62 = .ok (.isub, 1) := by decide +kernel
theorem dX1_nextFrom_63 : decode cX1_nextFrom 63 = .ok (.invokestatic 51, 3) := by decide +kernel
theorem dX1_nextFrom_66 : decode cX1_nextFrom 66 = .ok (.ireturn, 1) := by decide +kernel
theorem dX1_placeAt_0 : decode cX1_placeAt 0 = .ok (.iload_n 1, 1) := by decide +kernel
theorem dX1_placeAt_1 : decode cX1_placeAt 1 = .ok (.ifCond .lt 20, 3) := by decide +kernel
theorem dX1_placeAt_4 : decode cX1_placeAt 4 = .ok (.iload_n 1, 1) := by decide +kernel
theorem dX1_placeAt_5 : decode cX1_placeAt 5 = .ok (.aload_n 0, 1) := by decide +kernel
theorem dX1_placeAt_6 : decode cX1_placeAt 6 = .ok (.getfield 18, 3) := by decide +kernel
theorem dX1_placeAt_9 : decode cX1_placeAt 9 = .ok (.if_icmp .gt 12, 3) := by decide +kernel
theorem dX1_placeAt_12 : decode cX1_placeAt 12 = .ok (.aload_n 0, 1) := by decide +kernel
theorem dX1_placeAt_13 : decode cX1_placeAt 13 = .ok (.getfield 9, 3) := by decide +kernel
theorem dX1_placeAt_16 : decode cX1_placeAt 16 = .ok (.iload_n 1, 1) := by decide +kernel
theorem dX1_placeAt_17 : decode cX1_placeAt 17 = .ok (.iaload, 1) := by decide +kernel
theorem dX1_placeAt_18 : decode cX1_placeAt 18 = .ok (.goto 5, 3) := by decide +kernel
theorem dX1_placeAt_21 : decode cX1_placeAt 21 = .ok (.bipush (-9), 2) := by decide +kernel
theorem dX1_placeAt_23 : decode cX1_placeAt 23 = .ok (.ireturn, 1) := by decide +kernel
theorem dX1_wentLike_0 : decode cX1_wentLike 0 = .ok (.aload_n 0, 1) := by decide +kernel
theorem dX1_wentLike_1 : decode cX1_wentLike 1 = .ok (.getfield 25, 3) := by decide +kernel
theorem dX1_wentLike_4 : decode cX1_wentLike 4 = .ok (.aload_n 1, 1) := by decide +kernel
theorem dX1_wentLike_5 : decode cX1_wentLike 5 = .ok (.getfield 25, 3) := by decide +kernel
theorem dX1_wentLike_8 : decode cX1_wentLike 8 = .ok (.if_icmp .ne 14, 3) := by decide +kernel
theorem dX1_wentLike_11 : decode cX1_wentLike 11 = .ok (.aload_n 0, 1) := by decide +kernel
theorem dX1_wentLike_12 : decode cX1_wentLike 12 = .ok (.getfield 18, 3) := by decide +kernel
theorem dX1_wentLike_15 : decode cX1_wentLike 15 = .ok (.aload_n 1, 1) := by decide +kernel
theorem dX1_wentLike_16 : decode cX1_wentLike 16 = .ok (.getfield 18, 3) := by decide +kernel
theorem dX1_wentLike_19 : decode cX1_wentLike 19 = .ok (.if_icmp .eq 5, 3) := by decide +kernel
theorem dX1_wentLike_22 : decode cX1_wentLike 22 = .ok (.iconst 0, 1) := by decide +kernel
theorem dX1_wentLike_23 : decode cX1_wentLike 23 = .ok (.ireturn, 1) := by decide +kernel
theorem dX1_wentLike_24 : decode cX1_wentLike 24 = .ok (.iconst 0, 1) := by decide +kernel
theorem dX1_wentLike_25 : decode cX1_wentLike 25 = .ok (.istore_n 2, 1) := by decide +kernel
theorem dX1_wentLike_26 : decode cX1_wentLike 26 = .ok (.iload_n 2, 1) := by decide +kernel
theorem dX1_wentLike_27 : decode cX1_wentLike 27 = .ok (.aload_n 0, 1) := by decide +kernel
theorem dX1_wentLike_28 : decode cX1_wentLike 28 = .ok (.getfield 18, 3) := by decide +kernel
theorem dX1_wentLike_31 : decode cX1_wentLike 31 = .ok (.if_icmp .gt 26, 3) := by decide +kernel
theorem dX1_wentLike_34 : decode cX1_wentLike 34 = .ok (.aload_n 0, 1) := by decide +kernel
theorem dX1_wentLike_35 : decode cX1_wentLike 35 = .ok (.getfield 9, 3) := by decide +kernel
theorem dX1_wentLike_38 : decode cX1_wentLike 38 = .ok (.iload_n 2, 1) := by decide +kernel
theorem dX1_wentLike_39 : decode cX1_wentLike 39 = .ok (.iaload, 1) := by decide +kernel
theorem dX1_wentLike_40 : decode cX1_wentLike 40 = .ok (.aload_n 1, 1) := by decide +kernel
theorem dX1_wentLike_41 : decode cX1_wentLike 41 = .ok (.getfield 9, 3) := by decide +kernel
theorem dX1_wentLike_44 : decode cX1_wentLike 44 = .ok (.iload_n 2, 1) := by decide +kernel
theorem dX1_wentLike_45 : decode cX1_wentLike 45 = .ok (.iaload, 1) := by decide +kernel
theorem dX1_wentLike_46 : decode cX1_wentLike 46 = .ok (.if_icmp .eq 5, 3) := by decide +kernel
theorem dX1_wentLike_49 : decode cX1_wentLike 49 = .ok (.iconst 0, 1) := by decide +kernel
theorem dX1_wentLike_50 : decode cX1_wentLike 50 = .ok (.ireturn, 1) := by decide +kernel
theorem dX1_wentLike_51 : decode cX1_wentLike 51 = .ok (.iinc 2 1, 3) := by decide +kernel
theorem dX1_wentLike_54 : decode cX1_wentLike 54 = .ok (.goto (-28), 3) := by decide +kernel
theorem dX1_wentLike_57 : decode cX1_wentLike 57 = .ok (.iconst 1, 1) := by decide +kernel
theorem dX1_wentLike_58 : decode cX1_wentLike 58 = .ok (.ireturn, 1) := by decide +kernel
theorem dX2_init_0 : decode cX2_init 0 = .ok (.aload_n 0, 1) := by decide +kernel
theorem dX2_init_1 : decode cX2_init 1 = .ok (.invokespecial 3, 3) := by decide +kernel
theorem dX2_init_4 : decode cX2_init 4 = .ok (.aload_n 0, 1) := by decide +kernel
theorem dX2_init_5 : decode cX2_init 5 = .ok (.iconst 5, 1) := by decide +kernel
theorem dX2_init_6 : decode cX2_init 6 = .ok (.bipush 10, 2) := by decide +kernel
theorem dX2_init_8 : decode cX2_init 8 = .ok (.multianewarray 9 2, 4) := by decide +kernel
theorem dX2_init_12 : decode cX2_init 12 = .ok (.putfield 11, 3) := by decide +kernel
theorem dX2_init_15 : decode cX2_init 15 = .ok (.aload_n 0, 1) := by decide +kernel
theorem dX2_init_16 : decode cX2_init 16 = .ok (.iconst 5, 1) := by decide +kernel
theorem dX2_init_17 : decode cX2_init 17 = .ok (.bipush 10, 2) := by decide +kernel
theorem dX2_init_19 : decode cX2_init 19 = .ok (.multianewarray 9 2, 4) := by decide +kernel
theorem dX2_init_23 : decode cX2_init 23 = .ok (.putfield 16, 3) := by decide +kernel
theorem dX2_init_26 : decode cX2_init 26 = .ok (.aload_n 0, 1) := by decide +kernel
theorem dX2_init_27 : decode cX2_init 27 = .ok (.iconst 5, 1) := by decide +kernel
theorem dX2_init_28 : decode cX2_init 28 = .ok (.newarray .int, 2) := by decide +kernel
theorem dX2_init_30 : decode cX2_init 30 = .ok (.putfield 19, 3) := by decide +kernel
theorem dX2_init_33 : decode cX2_init 33 = .ok (.return_, 1) := by decide +kernel
theorem dX2_draw_0 : decode cX2_draw 0 = .ok (.aload_n 1, 1) := by decide +kernel
theorem dX2_draw_1 : decode cX2_draw 1 = .ok (.aload_n 0, 1) := by decide +kernel
theorem dX2_draw_2 : decode cX2_draw 2 = .ok (.getfield 11, 3) := by decide +kernel
theorem dX2_draw_5 : decode cX2_draw 5 = .ok (.iload_n 2, 1) := by decide +kernel
theorem dX2_draw_6 : decode cX2_draw 6 = .ok (.aaload, 1) := by decide +kernel
theorem dX2_draw_7 : decode cX2_draw 7 = .ok (.iload_n 3, 1) := by decide +kernel
theorem dX2_draw_8 : decode cX2_draw 8 = .ok (.invokestatic 23, 3) := by decide +kernel
theorem dX2_draw_11 : decode cX2_draw 11 = .ok (.aload_n 0, 1) := by decide +kernel
theorem dX2_draw_12 : decode cX2_draw 12 = .ok (.getfield 19, 3) := by decide +kernel
theorem dX2_draw_15 : decode cX2_draw 15 = .ok (.iload_n 2, 1) := by decide +kernel
theorem dX2_draw_16 : decode cX2_draw 16 = .ok (.iconst 0, 1) := by decide +kernel
theorem dX2_draw_17 : decode cX2_draw 17 = .ok (.iastore, 1) := by decide +kernel
theorem dX2_draw_18 : decode cX2_draw 18 = .ok (.iconst 0, 1) := by decide +kernel
theorem dX2_draw_19 : decode cX2_draw 19 = .ok (.istore 4, 2) := by decide +kernel
theorem dX2_draw_21 : decode cX2_draw 21 = .ok (.iload 4, 2) := by decide +kernel
theorem dX2_draw_23 : decode cX2_draw 23 = .ok (.bipush 10, 2) := by decide +kernel
theorem dX2_draw_25 : decode cX2_draw 25 = .ok (.if_icmp .ge 57, 3) := by decide +kernel
theorem dX2_draw_28 : decode cX2_draw 28 = .ok (.aload_n 0, 1) := by decide +kernel
theorem dX2_draw_29 : decode cX2_draw 29 = .ok (.getfield 16, 3) := by decide +kernel
theorem dX2_draw_32 : decode cX2_draw 32 = .ok (.iload_n 2, 1) := by decide +kernel
theorem dX2_draw_33 : decode cX2_draw 33 = .ok (.aaload, 1) := by decide +kernel
theorem dX2_draw_34 : decode cX2_draw 34 = .ok (.iload 4, 2) := by decide +kernel
theorem dX2_draw_36 : decode cX2_draw 36 = .ok (.aload_n 1, 1) := by decide +kernel
theorem dX2_draw_37 : decode cX2_draw 37 = .ok (.aload_n 0, 1) := by decide +kernel
theorem dX2_draw_38 : decode cX2_draw 38 = .ok (.getfield 11, 3) := by decide +kernel
theorem dX2_draw_41 : decode cX2_draw 41 = .ok (.iload_n 2, 1) := by decide +kernel
theorem dX2_draw_42 : decode cX2_draw 42 = .ok (.aaload, 1) := by decide +kernel
theorem dX2_draw_43 : decode cX2_draw 43 = .ok (.iload 4, 2) := by decide +kernel
theorem dX2_draw_45 : decode cX2_draw 45 = .ok (.invokestatic 27, 3) := by decide +kernel
theorem dX2_draw_48 : decode cX2_draw 48 = .ok (.iastore, 1) := by decide +kernel
theorem dX2_draw_49 : decode cX2_draw 49 = .ok (.aload_n 0, 1) := by decide +kernel
theorem dX2_draw_50 : decode cX2_draw 50 = .ok (.getfield 16, 3) := by decide +kernel
theorem dX2_draw_53 : decode cX2_draw 53 = .ok (.iload_n 2, 1) := by decide +kernel
theorem dX2_draw_54 : decode cX2_draw 54 = .ok (.aaload, 1) := by decide +kernel
theorem dX2_draw_55 : decode cX2_draw 55 = .ok (.iload 4, 2) := by decide +kernel
theorem dX2_draw_57 : decode cX2_draw 57 = .ok (.iaload, 1) := by decide +kernel
theorem dX2_draw_58 : decode cX2_draw 58 = .ok (.bipush (-9), 2) := by decide +kernel
theorem dX2_draw_60 : decode cX2_draw 60 = .ok (.if_icmp .eq 16, 3) := by decide +kernel
theorem dX2_draw_63 : decode cX2_draw 63 = .ok (.aload_n 0, 1) := by decide +kernel
theorem dX2_draw_64 : decode cX2_draw 64 = .ok (.getfield 19, 3) := by decide +kernel
theorem dX2_draw_67 : decode cX2_draw 67 = .ok (.iload_n 2, 1) := by decide +kernel
theorem dX2_draw_68 : decode cX2_draw 68 = .ok (.dup2, 1) := by decide +kernel
theorem dX2_draw_69 : decode cX2_draw 69 = .ok (.iaload, 1) := by decide +kernel
theorem dX2_draw_70 : decode cX2_draw 70 = .ok (.iconst 1, 1) := by decide +kernel
theorem dX2_draw_71 : decode cX2_draw 71 = .ok (.iload 4, 2) := by decide +kernel
theorem dX2_draw_73 : decode cX2_draw 73 = .ok (.ishl, 1) := by decide +kernel
theorem dX2_draw_74 : decode cX2_draw 74 = .ok (.ior, 1) := by decide +kernel
theorem dX2_draw_75 : decode cX2_draw 75 = .ok (.iastore, 1) := by decide +kernel
theorem dX2_draw_76 : decode cX2_draw 76 = .ok (.iinc 4 1, 3) := by decide +kernel
theorem dX2_draw_79 : decode cX2_draw 79 = .ok (.goto (-58), 3) := by decide +kernel
theorem dX2_draw_82 : decode cX2_draw 82 = .ok (.return_, 1) := by decide +kernel
theorem dX2_measure_0 : decode cX2_measure 0 = .ok (.aload_n 1, 1) := by decide +kernel
theorem dX2_measure_1 : decode cX2_measure 1 = .ok (.bipush (-9), 2) := by decide +kernel
theorem dX2_measure_3 : decode cX2_measure 3 = .ok (.invokestatic 31, 3) := by decide +kernel
theorem dX2_measure_6 : decode cX2_measure 6 = .ok (.aload_n 1, 1) := by decide +kernel
theorem dX2_measure_7 : decode cX2_measure 7 = .ok (.iload_n 2, 1) := by decide +kernel
theorem dX2_measure_8 : decode cX2_measure 8 = .ok (.iconst 0, 1) := by decide +kernel
theorem dX2_measure_9 : decode cX2_measure 9 = .ok (.iastore, 1) := by decide +kernel
theorem dX2_measure_10 : decode cX2_measure 10 = .ok (.iconst 1, 1) := by decide +kernel
theorem dX2_measure_11 : decode cX2_measure 11 = .ok (.istore_n 3, 1) := by decide +kernel
theorem dX2_measure_12 : decode cX2_measure 12 = .ok (.iconst 1, 1) := by decide +kernel
theorem dX2_measure_13 : decode cX2_measure 13 = .ok (.istore 4, 2) := by decide +kernel
theorem dX2_measure_15 : decode cX2_measure 15 = .ok (.iload 4, 2) := by decide +kernel
theorem dX2_measure_17 : decode cX2_measure 17 = .ok (.bipush 10, 2) := by decide +kernel
theorem dX2_measure_19 : decode cX2_measure 19 = .ok (.if_icmp .ge 97, 3) := by decide +kernel
theorem dX2_measure_22 : decode cX2_measure 22 = .ok (.iload_n 3, 1) := by decide +kernel
theorem dX2_measure_23 : decode cX2_measure 23 = .ok (.ifCond .eq 93, 3) := by decide +kernel
theorem dX2_measure_26 : decode cX2_measure 26 = .ok (.iconst 0, 1) := by decide +kernel
theorem dX2_measure_27 : decode cX2_measure 27 = .ok (.istore_n 3, 1) := by decide +kernel
theorem dX2_measure_28 : decode cX2_measure 28 = .ok (.iconst 0, 1) := by decide +kernel
theorem dX2_measure_29 : decode cX2_measure 29 = .ok (.istore 5, 2) := by decide +kernel
theorem dX2_measure_31 : decode cX2_measure 31 = .ok (.iload 5, 2) := by decide +kernel
theorem dX2_measure_33 : decode cX2_measure 33 = .ok (.aload_n 0, 1) := by decide +kernel
theorem dX2_measure_34 : decode cX2_measure 34 = .ok (.getfield 37, 3) := by decide +kernel
theorem dX2_measure_37 : decode cX2_measure 37 = .ok (.if_icmp .ge 73, 3) := by decide +kernel
theorem dX2_measure_40 : decode cX2_measure 40 = .ok (.aload_n 0, 1) := by decide +kernel
theorem dX2_measure_41 : decode cX2_measure 41 = .ok (.getfield 43, 3) := by decide +kernel
theorem dX2_measure_44 : decode cX2_measure 44 = .ok (.iload 5, 2) := by decide +kernel
theorem dX2_measure_46 : decode cX2_measure 46 = .ok (.baload, 1) := by decide +kernel
theorem dX2_measure_47 : decode cX2_measure 47 = .ok (.ifCond .eq 57, 3) := by decide +kernel
theorem dX2_measure_50 : decode cX2_measure 50 = .ok (.aload_n 0, 1) := by decide +kernel
theorem dX2_measure_51 : decode cX2_measure 51 = .ok (.getfield 47, 3) := by decide +kernel
theorem dX2_measure_54 : decode cX2_measure 54 = .ok (.iload 5, 2) := by decide +kernel
theorem dX2_measure_56 : decode cX2_measure 56 = .ok (.iaload, 1) := by decide +kernel
theorem dX2_measure_57 : decode cX2_measure 57 = .ok (.istore 6, 2) := by decide +kernel
theorem dX2_measure_59 : decode cX2_measure 59 = .ok (.aload_n 0, 1) := by decide +kernel
theorem dX2_measure_60 : decode cX2_measure 60 = .ok (.getfield 50, 3) := by decide +kernel
theorem dX2_measure_63 : decode cX2_measure 63 = .ok (.iload 5, 2) := by decide +kernel
theorem dX2_measure_65 : decode cX2_measure 65 = .ok (.iaload, 1) := by decide +kernel
theorem dX2_measure_66 : decode cX2_measure 66 = .ok (.istore 7, 2) := by decide +kernel
theorem dX2_measure_68 : decode cX2_measure 68 = .ok (.iload_n 3, 1) := by decide +kernel
theorem dX2_measure_69 : decode cX2_measure 69 = .ok (.aload_n 1, 1) := by decide +kernel
theorem dX2_measure_70 : decode cX2_measure 70 = .ok (.iload 6, 2) := by decide +kernel
theorem dX2_measure_72 : decode cX2_measure 72 = .ok (.iload 7, 2) := by decide +kernel
theorem dX2_measure_74 : decode cX2_measure 74 = .ok (.aload_n 0, 1) := by decide +kernel
theorem dX2_measure_75 : decode cX2_measure 75 = .ok (.getfield 53, 3) := by decide +kernel
theorem dX2_measure_78 : decode cX2_measure 78 = .ok (.iload 5, 2) := by decide +kernel
theorem dX2_measure_80 : decode cX2_measure 80 = .ok (.iaload, 1) := by decide +kernel
theorem dX2_measure_81 : decode cX2_measure 81 = .ok (.invokestatic 56, 3) := by decide +kernel
theorem dX2_measure_84 : decode cX2_measure 84 = .ok (.ior, 1) := by decide +kernel
theorem dX2_measure_85 : decode cX2_measure 85 = .ok (.istore_n 3, 1) := by decide +kernel
theorem dX2_measure_86 : decode cX2_measure 86 = .ok (.iload_n 3, 1) := by decide +kernel
theorem dX2_measure_87 : decode cX2_measure 87 = .ok (.aload_n 1, 1) := by decide +kernel
theorem dX2_measure_88 : decode cX2_measure 88 = .ok (.iload 7, 2) := by decide +kernel
theorem dX2_measure_90 : decode cX2_measure 90 = .ok (.iload 6, 2) := by decide +kernel
theorem dX2_measure_92 : decode cX2_measure 92 = .ok (.aload_n 0, 1) := by decide +kernel
theorem dX2_measure_93 : decode cX2_measure 93 = .ok (.getfield 53, 3) := by decide +kernel
theorem dX2_measure_96 : decode cX2_measure 96 = .ok (.iload 5, 2) := by decide +kernel
theorem dX2_measure_98 : decode cX2_measure 98 = .ok (.iaload, 1) := by decide +kernel
theorem dX2_measure_99 : decode cX2_measure 99 = .ok (.invokestatic 56, 3) := by decide +kernel
theorem dX2_measure_102 : decode cX2_measure 102 = .ok (.ior, 1) := by decide +kernel
theorem dX2_measure_103 : decode cX2_measure 103 = .ok (.istore_n 3, 1) := by decide +kernel
theorem dX2_measure_104 : decode cX2_measure 104 = .ok (.iinc 5 1, 3) := by decide +kernel
theorem dX2_measure_107 : decode cX2_measure 107 = .ok (.goto (-76), 3) := by decide +kernel
theorem dX2_measure_110 : decode cX2_measure 110 = .ok (.iinc 4 1, 3) := by decide +kernel
theorem dX2_measure_113 : decode cX2_measure 113 = .ok (.goto (-98), 3) := by decide +kernel
theorem dX2_measure_116 : decode cX2_measure 116 = .ok (.return_, 1) := by decide +kernel
theorem dX2_shorten_0 : decode cX2_shorten 0 = .ok (.aload_n 0, 1) := by decide +kernel
theorem dX2_shorten_1 : decode cX2_shorten 1 = .ok (.iload_n 2, 1) := by decide +kernel
theorem dX2_shorten_2 : decode cX2_shorten 2 = .ok (.iaload, 1) := by decide +kernel
theorem dX2_shorten_3 : decode cX2_shorten 3 = .ok (.bipush (-9), 2) := by decide +kernel
theorem dX2_shorten_5 : decode cX2_shorten 5 = .ok (.if_icmp .eq 22, 3) := by decide +kernel
theorem dX2_shorten_8 : decode cX2_shorten 8 = .ok (.aload_n 0, 1) := by decide +kernel
theorem dX2_shorten_9 : decode cX2_shorten 9 = .ok (.iload_n 1, 1) := by decide +kernel
theorem dX2_shorten_10 : decode cX2_shorten 10 = .ok (.iaload, 1) := by decide +kernel
theorem dX2_shorten_11 : decode cX2_shorten 11 = .ok (.bipush (-9), 2) := by decide +kernel
theorem dX2_shorten_13 : decode cX2_shorten 13 = .ok (.if_icmp .eq 16, 3) := by decide +kernel
theorem dX2_shorten_16 : decode cX2_shorten 16 = .ok (.aload_n 0, 1) := by decide +kernel
theorem dX2_shorten_17 : decode cX2_shorten 17 = .ok (.iload_n 1, 1) := by decide +kernel
theorem dX2_shorten_18 : decode cX2_shorten 18 = .ok (.iaload, 1) := by decide +kernel
theorem dX2_shorten_19 : decode cX2_shorten 19 = .ok (.aload_n 0, 1) := by decide +kernel
theorem dX2_shorten_20 : decode cX2_shorten 20 = .ok (.iload_n 2, 1) := by decide +kernel
theorem dX2_shorten_21 : decode cX2_shorten 21 = .ok (.iaload, 1) := by decide +kernel
theorem dX2_shorten_22 : decode cX2_shorten 22 = .ok (.iload_n 3, 1) := by decide +kernel
theorem dX2_shorten_23 : decode cX2_shorten 23 = .ok (.iadd, 1) := by decide +kernel
theorem dX2_shorten_24 : decode cX2_shorten 24 = .ok (.if_icmp .gt 5, 3) := by decide +kernel
theorem dX2_shorten_27 : decode cX2_shorten 27 = .ok (.iconst 0, 1) := by decide +kernel
theorem dX2_shorten_28 : decode cX2_shorten 28 = .ok (.ireturn, 1) := by decide +kernel
theorem dX2_shorten_29 : decode cX2_shorten 29 = .ok (.aload_n 0, 1) := by decide +kernel
theorem dX2_shorten_30 : decode cX2_shorten 30 = .ok (.iload_n 1, 1) := by decide +kernel
theorem dX2_shorten_31 : decode cX2_shorten 31 = .ok (.aload_n 0, 1) := by decide +kernel
theorem dX2_shorten_32 : decode cX2_shorten 32 = .ok (.iload_n 2, 1) := by decide +kernel
theorem dX2_shorten_33 : decode cX2_shorten 33 = .ok (.iaload, 1) := by decide +kernel
theorem dX2_shorten_34 : decode cX2_shorten 34 = .ok (.iload_n 3, 1) := by decide +kernel
theorem dX2_shorten_35 : decode cX2_shorten 35 = .ok (.iadd, 1) := by decide +kernel
theorem dX2_shorten_36 : decode cX2_shorten 36 = .ok (.iastore, 1) := by decide +kernel
theorem dX2_shorten_37 : decode cX2_shorten 37 = .ok (.iconst 1, 1) := by decide +kernel
theorem dX2_shorten_38 : decode cX2_shorten 38 = .ok (.ireturn, 1) := by decide +kernel
theorem dX2_bestAt_0 : decode cX2_bestAt 0 = .ok (.iconst 0, 1) := by decide +kernel
theorem dX2_bestAt_1 : decode cX2_bestAt 1 = .ok (.istore_n 3, 1) := by decide +kernel
theorem dX2_bestAt_2 : decode cX2_bestAt 2 = .ok (.iload_n 3, 1) := by decide +kernel
theorem dX2_bestAt_3 : decode cX2_bestAt 3 = .ok (.bipush 10, 2) := by decide +kernel
theorem dX2_bestAt_5 : decode cX2_bestAt 5 = .ok (.if_icmp .ge 46, 3) := by decide +kernel
theorem dX2_bestAt_8 : decode cX2_bestAt 8 = .ok (.aload_n 0, 1) := by decide +kernel
theorem dX2_bestAt_9 : decode cX2_bestAt 9 = .ok (.getfield 60, 3) := by decide +kernel
theorem dX2_bestAt_12 : decode cX2_bestAt 12 = .ok (.iload_n 2, 1) := by decide +kernel
theorem dX2_bestAt_13 : decode cX2_bestAt 13 = .ok (.aaload, 1) := by decide +kernel
theorem dX2_bestAt_14 : decode cX2_bestAt 14 = .ok (.iload_n 3, 1) := by decide +kernel
theorem dX2_bestAt_15 : decode cX2_bestAt 15 = .ok (.iaload, 1) := by decide +kernel
theorem dX2_bestAt_16 : decode cX2_bestAt 16 = .ok (.istore 4, 2) := by decide +kernel
theorem dX2_bestAt_18 : decode cX2_bestAt 18 = .ok (.iload 4, 2) := by decide +kernel
theorem dX2_bestAt_20 : decode cX2_bestAt 20 = .ok (.ifCond .le 25, 3) := by decide +kernel
theorem dX2_bestAt_23 : decode cX2_bestAt 23 = .ok (.aload_n 1, 1) := by decide +kernel
theorem dX2_bestAt_24 : decode cX2_bestAt 24 = .ok (.iload_n 3, 1) := by decide +kernel
theorem dX2_bestAt_25 : decode cX2_bestAt 25 = .ok (.iaload, 1) := by decide +kernel
theorem dX2_bestAt_26 : decode cX2_bestAt 26 = .ok (.bipush (-9), 2) := by decide +kernel
theorem dX2_bestAt_28 : decode cX2_bestAt 28 = .ok (.if_icmp .eq 17, 3) := by decide +kernel
theorem dX2_bestAt_31 : decode cX2_bestAt 31 = .ok (.aload_n 1, 1) := by decide +kernel
theorem dX2_bestAt_32 : decode cX2_bestAt 32 = .ok (.iload_n 3, 1) := by decide +kernel
theorem dX2_bestAt_33 : decode cX2_bestAt 33 = .ok (.iaload, 1) := by decide +kernel
theorem dX2_bestAt_34 : decode cX2_bestAt 34 = .ok (.iload 4, 2) := by decide +kernel
theorem dX2_bestAt_36 : decode cX2_bestAt 36 = .ok (.iadd, 1) := by decide +kernel
theorem dX2_bestAt_37 : decode cX2_bestAt 37 = .ok (.aload_n 1, 1) := by decide +kernel
theorem dX2_bestAt_38 : decode cX2_bestAt 38 = .ok (.iload_n 2, 1) := by decide +kernel
theorem dX2_bestAt_39 : decode cX2_bestAt 39 = .ok (.iaload, 1) := by decide +kernel
theorem dX2_bestAt_40 : decode cX2_bestAt 40 = .ok (.if_icmp .ne 5, 3) := by decide +kernel
theorem dX2_bestAt_43 : decode cX2_bestAt 43 = .ok (.iload_n 3, 1) := by decide +kernel
theorem dX2_bestAt_44 : decode cX2_bestAt 44 = .ok (.ireturn, 1) := by decide +kernel
theorem dX2_bestAt_45 : decode cX2_bestAt 45 = .ok (.iinc 3 1, 3) := by decide +kernel
theorem dX2_bestAt_48 : decode cX2_bestAt 48 = .ok (.goto (-46), 3) := by decide +kernel
theorem dX2_bestAt_51 : decode cX2_bestAt 51 = .ok (.bipush (-9), 2) := by decide +kernel
theorem dX2_bestAt_53 : decode cX2_bestAt 53 = .ok (.ireturn, 1) := by decide +kernel
theorem dX3_init_0 : decode cX3_init 0 = .ok (.aload_n 0, 1) := by decide +kernel
theorem dX3_init_1 : decode cX3_init 1 = .ok (.invokespecial 3, 3) := by decide +kernel
theorem dX3_init_4 : decode cX3_init 4 = .ok (.aload_n 0, 1) := by decide +kernel
theorem dX3_init_5 : decode cX3_init 5 = .ok (.new 9, 3) := by decide +kernel
theorem dX3_init_8 : decode cX3_init 8 = .ok (.dup, 1) := by decide +kernel
theorem dX3_init_9 : decode cX3_init 9 = .ok (.invokespecial 11, 3) := by decide +kernel
theorem dX3_init_12 : decode cX3_init 12 = .ok (.putfield 12, 3) := by decide +kernel
theorem dX3_init_15 : decode cX3_init 15 = .ok (.aload_n 0, 1) := by decide +kernel
theorem dX3_init_16 : decode cX3_init 16 = .ok (.new 16, 3) := by decide +kernel
theorem dX3_init_19 : decode cX3_init 19 = .ok (.dup, 1) := by decide +kernel
theorem dX3_init_20 : decode cX3_init 20 = .ok (.invokespecial 18, 3) := by decide +kernel
theorem dX3_init_23 : decode cX3_init 23 = .ok (.putfield 19, 3) := by decide +kernel
theorem dX3_init_26 : decode cX3_init 26 = .ok (.aload_n 0, 1) := by decide +kernel
theorem dX3_init_27 : decode cX3_init 27 = .ok (.new 23, 3) := by decide +kernel
theorem dX3_init_30 : decode cX3_init 30 = .ok (.dup, 1) := by decide +kernel
theorem dX3_init_31 : decode cX3_init 31 = .ok (.invokespecial 25, 3) := by decide +kernel
theorem dX3_init_34 : decode cX3_init 34 = .ok (.putfield 26, 3) := by decide +kernel
theorem dX3_init_37 : decode cX3_init 37 = .ok (.aload_n 0, 1) := by decide +kernel
theorem dX3_init_38 : decode cX3_init 38 = .ok (.new 23, 3) := by decide +kernel
theorem dX3_init_41 : decode cX3_init 41 = .ok (.dup, 1) := by decide +kernel
theorem dX3_init_42 : decode cX3_init 42 = .ok (.invokespecial 25, 3) := by decide +kernel
theorem dX3_init_45 : decode cX3_init 45 = .ok (.putfield 30, 3) := by decide +kernel
theorem dX3_init_48 : decode cX3_init 48 = .ok (.aload_n 0, 1) := by decide +kernel
theorem dX3_init_49 : decode cX3_init 49 = .ok (.iconst 5, 1) := by decide +kernel
theorem dX3_init_50 : decode cX3_init 50 = .ok (.newarray .int, 2) := by decide +kernel
theorem dX3_init_52 : decode cX3_init 52 = .ok (.putfield 33, 3) := by decide +kernel
theorem dX3_init_55 : decode cX3_init 55 = .ok (.aload_n 0, 1) := by decide +kernel
theorem dX3_init_56 : decode cX3_init 56 = .ok (.iconst 5, 1) := by decide +kernel
theorem dX3_init_57 : decode cX3_init 57 = .ok (.bipush 10, 2) := by decide +kernel
theorem dX3_init_59 : decode cX3_init 59 = .ok (.multianewarray 37 2, 4) := by decide +kernel
theorem dX3_init_63 : decode cX3_init 63 = .ok (.putfield 39, 3) := by decide +kernel
theorem dX3_init_66 : decode cX3_init 66 = .ok (.iconst 0, 1) := by decide +kernel
theorem dX3_init_67 : decode cX3_init 67 = .ok (.istore_n 1, 1) := by decide +kernel
theorem dX3_init_68 : decode cX3_init 68 = .ok (.iload_n 1, 1) := by decide +kernel
theorem dX3_init_69 : decode cX3_init 69 = .ok (.iconst 5, 1) := by decide +kernel
theorem dX3_init_70 : decode cX3_init 70 = .ok (.if_icmp .ge 20, 3) := by decide +kernel
theorem dX3_init_73 : decode cX3_init 73 = .ok (.aload_n 0, 1) := by decide +kernel
theorem dX3_init_74 : decode cX3_init 74 = .ok (.getfield 39, 3) := by decide +kernel
theorem dX3_init_77 : decode cX3_init 77 = .ok (.iload_n 1, 1) := by decide +kernel
theorem dX3_init_78 : decode cX3_init 78 = .ok (.aaload, 1) := by decide +kernel
theorem dX3_init_79 : decode cX3_init 79 = .ok (.bipush (-9), 2) := by decide +kernel
theorem dX3_init_81 : decode cX3_init 81 = .ok (.invokestatic 42, 3) := by decide +kernel
theorem dX3_init_84 : decode cX3_init 84 = .ok (.iinc 1 1, 3) := by decide +kernel
theorem dX3_init_87 : decode cX3_init 87 = .ok (.goto (-19), 3) := by decide +kernel
theorem dX3_init_90 : decode cX3_init 90 = .ok (.aload_n 0, 1) := by decide +kernel
theorem dX3_init_91 : decode cX3_init 91 = .ok (.bipush 10, 2) := by decide +kernel
theorem dX3_init_93 : decode cX3_init 93 = .ok (.newarray .int, 2) := by decide +kernel
theorem dX3_init_95 : decode cX3_init 95 = .ok (.putfield 48, 3) := by decide +kernel
theorem dX3_init_98 : decode cX3_init 98 = .ok (.aload_n 0, 1) := by decide +kernel
theorem dX3_init_99 : decode cX3_init 99 = .ok (.iconst 0, 1) := by decide +kernel
theorem dX3_init_100 : decode cX3_init 100 = .ok (.putfield 51, 3) := by decide +kernel
theorem dX3_init_103 : decode cX3_init 103 = .ok (.aload_n 0, 1) := by decide +kernel
theorem dX3_init_104 : decode cX3_init 104 = .ok (.iconst 0, 1) := by decide +kernel
theorem dX3_init_105 : decode cX3_init 105 = .ok (.putfield 55, 3) := by decide +kernel
theorem dX3_init_108 : decode cX3_init 108 = .ok (.aload_n 0, 1) := by decide +kernel
theorem dX3_init_109 : decode cX3_init 109 = .ok (.iconst 0, 1) := by decide +kernel
theorem dX3_init_110 : decode cX3_init 110 = .ok (.putfield 58, 3) := by decide +kernel
theorem dX3_init_113 : decode cX3_init 113 = .ok (.aload_n 0, 1) := by decide +kernel
theorem dX3_init_114 : decode cX3_init 114 = .ok (.bipush (-9), 2) := by decide +kernel
theorem dX3_init_116 : decode cX3_init 116 = .ok (.putfield 61, 3) := by decide +kernel
theorem dX3_init_119 : decode cX3_init 119 = .ok (.aload_n 0, 1) := by decide +kernel
theorem dX3_init_120 : decode cX3_init 120 = .ok (.bipush (-9), 2) := by decide +kernel
theorem dX3_init_122 : decode cX3_init 122 = .ok (.putfield 64, 3) := by decide +kernel
theorem dX3_init_125 : decode cX3_init 125 = .ok (.aload_n 0, 1) := by decide +kernel
theorem dX3_init_126 : decode cX3_init 126 = .ok (.bipush (-9), 2) := by decide +kernel
theorem dX3_init_128 : decode cX3_init 128 = .ok (.putfield 67, 3) := by decide +kernel
theorem dX3_init_131 : decode cX3_init 131 = .ok (.return_, 1) := by decide +kernel
theorem dX3_walk_0 : decode cX3_walk 0 = .ok (.iload_n 1, 1) := by decide +kernel
theorem dX3_walk_1 : decode cX3_walk 1 = .ok (.invokestatic 70, 3) := by decide +kernel
theorem dX3_walk_4 : decode cX3_walk 4 = .ok (.ifCond .eq 15, 3) := by decide +kernel
theorem dX3_walk_7 : decode cX3_walk 7 = .ok (.iload_n 2, 1) := by decide +kernel
theorem dX3_walk_8 : decode cX3_walk 8 = .ok (.invokestatic 70, 3) := by decide +kernel
theorem dX3_walk_11 : decode cX3_walk 11 = .ok (.ifCond .eq 8, 3) := by decide +kernel
theorem dX3_walk_14 : decode cX3_walk 14 = .ok (.iload_n 1, 1) := by decide +kernel
theorem dX3_walk_15 : decode cX3_walk 15 = .ok (.iload_n 2, 1) := by decide +kernel
theorem dX3_walk_16 : decode cX3_walk 16 = .ok (.if_icmp .ne 5, 3) := by decide +kernel
theorem dX3_walk_19 : decode cX3_walk 19 = .ok (.iconst (-1), 1) := by decide +kernel
theorem dX3_walk_20 : decode cX3_walk 20 = .ok (.ireturn, 1) := by decide +kernel
theorem dX3_walk_21 : decode cX3_walk 21 = .ok (.iload_n 3, 1) := by decide +kernel
theorem dX3_walk_22 : decode cX3_walk 22 = .ok (.iconst 1, 1) := by decide +kernel
theorem dX3_walk_23 : decode cX3_walk 23 = .ok (.if_icmp .lt 9, 3) := by decide +kernel
theorem dX3_walk_26 : decode cX3_walk 26 = .ok (.iload_n 3, 1) := by decide +kernel
theorem dX3_walk_27 : decode cX3_walk 27 = .ok (.bipush 99, 2) := by decide +kernel
theorem dX3_walk_29 : decode cX3_walk 29 = .ok (.if_icmp .le 6, 3) := by decide +kernel
theorem dX3_walk_32 : decode cX3_walk 32 = .ok (.bipush (-2), 2) := by decide +kernel
theorem dX3_walk_34 : decode cX3_walk 34 = .ok (.ireturn, 1) := by decide +kernel
theorem dX3_walk_35 : decode cX3_walk 35 = .ok (.aload_n 0, 1) := by decide +kernel
theorem dX3_walk_36 : decode cX3_walk 36 = .ok (.getfield 12, 3) := by decide +kernel
theorem dX3_walk_39 : decode cX3_walk 39 = .ok (.iload_n 1, 1) := by decide +kernel
theorem dX3_walk_40 : decode cX3_walk 40 = .ok (.iload_n 2, 1) := by decide +kernel
theorem dX3_walk_41 : decode cX3_walk 41 = .ok (.invokevirtual 74, 3) := by decide +kernel
theorem dX3_walk_44 : decode cX3_walk 44 = .ok (.ifCond .eq 6, 3) := by decide +kernel
theorem dX3_walk_47 : decode cX3_walk 47 = .ok (.bipush (-3), 2) := by decide +kernel
theorem dX3_walk_49 : decode cX3_walk 49 = .ok (.ireturn, 1) := by decide +kernel
theorem dX3_walk_50 : decode cX3_walk 50 = .ok (.aload_n 0, 1) := by decide +kernel
theorem dX3_walk_51 : decode cX3_walk 51 = .ok (.getfield 12, 3) := by decide +kernel
theorem dX3_walk_54 : decode cX3_walk 54 = .ok (.getfield 78, 3) := by decide +kernel
theorem dX3_walk_57 : decode cX3_walk 57 = .ok (.bipush 14, 2) := by decide +kernel
theorem dX3_walk_59 : decode cX3_walk 59 = .ok (.if_icmp .lt 6, 3) := by decide +kernel
theorem dX3_walk_62 : decode cX3_walk 62 = .ok (.bipush (-4), 2) := by decide +kernel
theorem dX3_walk_64 : decode cX3_walk 64 = .ok (.ireturn, 1) := by decide +kernel
theorem dX3_walk_65 : decode cX3_walk 65 = .ok (.aload_n 0, 1) := by decide +kernel
theorem dX3_walk_66 : decode cX3_walk 66 = .ok (.getfield 12, 3) := by decide +kernel
theorem dX3_walk_69 : decode cX3_walk 69 = .ok (.iload_n 1, 1) := by decide +kernel
theorem dX3_walk_70 : decode cX3_walk 70 = .ok (.iload_n 2, 1) := by decide +kernel
theorem dX3_walk_71 : decode cX3_walk 71 = .ok (.iload_n 3, 1) := by decide +kernel
theorem dX3_walk_72 : decode cX3_walk 72 = .ok (.invokevirtual 81, 3) := by decide +kernel
theorem dX3_walk_75 : decode cX3_walk 75 = .ok (.ireturn, 1) := by decide +kernel
theorem dX3_unwalk_0 : decode cX3_unwalk 0 = .ok (.aload_n 0, 1) := by decide +kernel
theorem dX3_unwalk_1 : decode cX3_unwalk 1 = .ok (.getfield 12, 3) := by decide +kernel
theorem dX3_unwalk_4 : decode cX3_unwalk 4 = .ok (.getfield 78, 3) := by decide +kernel
theorem dX3_unwalk_7 : decode cX3_unwalk 7 = .ok (.iconst 1, 1) := by decide +kernel
theorem dX3_unwalk_8 : decode cX3_unwalk 8 = .ok (.if_icmp .ge 6, 3) := by decide +kernel
theorem dX3_unwalk_11 : decode cX3_unwalk 11 = .ok (.bipush (-3), 2) := by decide +kernel
theorem dX3_unwalk_13 : decode cX3_unwalk 13 = .ok (.ireturn, 1) := by decide +kernel
theorem dX3_unwalk_14 : decode cX3_unwalk 14 = .ok (.aload_n 0, 1) := by decide +kernel
theorem dX3_unwalk_15 : decode cX3_unwalk 15 = .ok (.getfield 12, 3) := by decide +kernel
theorem dX3_unwalk_18 : decode cX3_unwalk 18 = .ok (.invokevirtual 85, 3) := by decide +kernel
theorem dX3_unwalk_21 : decode cX3_unwalk 21 = .ok (.ireturn, 1) := by decide +kernel
theorem dX3_open_0 : decode cX3_open 0 = .ok (.aload_n 0, 1) := by decide +kernel
theorem dX3_open_1 : decode cX3_open 1 = .ok (.getfield 12, 3) := by decide +kernel
theorem dX3_open_4 : decode cX3_open 4 = .ok (.iload_n 1, 1) := by decide +kernel
theorem dX3_open_5 : decode cX3_open 5 = .ok (.invokevirtual 89, 3) := by decide +kernel
theorem dX3_open_8 : decode cX3_open 8 = .ok (.ifCond .ne 5, 3) := by decide +kernel
theorem dX3_open_11 : decode cX3_open 11 = .ok (.iconst (-1), 1) := by decide +kernel
theorem dX3_open_12 : decode cX3_open 12 = .ok (.ireturn, 1) := by decide +kernel
theorem dX3_open_13 : decode cX3_open 13 = .ok (.aload_n 0, 1) := by decide +kernel
theorem dX3_open_14 : decode cX3_open 14 = .ok (.getfield 12, 3) := by decide +kernel
theorem dX3_open_17 : decode cX3_open 17 = .ok (.iload_n 1, 1) := by decide +kernel
theorem dX3_open_18 : decode cX3_open 18 = .ok (.iload_n 2, 1) := by decide +kernel
theorem dX3_open_19 : decode cX3_open 19 = .ok (.invokevirtual 92, 3) := by decide +kernel
theorem dX3_open_22 : decode cX3_open 22 = .ok (.ifCond .eq 7, 3) := by decide +kernel
theorem dX3_open_25 : decode cX3_open 25 = .ok (.iconst 1, 1) := by decide +kernel
theorem dX3_open_26 : decode cX3_open 26 = .ok (.goto 4, 3) := by decide +kernel
theorem dX3_open_29 : decode cX3_open 29 = .ok (.iconst 0, 1) := by decide +kernel
theorem dX3_open_30 : decode cX3_open 30 = .ok (.ireturn, 1) := by decide +kernel
theorem dX3_ofWalk_0 : decode cX3_ofWalk 0 = .ok (.aload_n 0, 1) := by decide +kernel
theorem dX3_ofWalk_1 : decode cX3_ofWalk 1 = .ok (.getfield 12, 3) := by decide +kernel
theorem dX3_ofWalk_4 : decode cX3_ofWalk 4 = .ok (.iload_n 1, 1) := by decide +kernel
theorem dX3_ofWalk_5 : decode cX3_ofWalk 5 = .ok (.invokevirtual 89, 3) := by decide +kernel
theorem dX3_ofWalk_8 : decode cX3_ofWalk 8 = .ok (.ifCond .ne 5, 3) := by decide +kernel
theorem dX3_ofWalk_11 : decode cX3_ofWalk 11 = .ok (.iconst (-1), 1) := by decide +kernel
theorem dX3_ofWalk_12 : decode cX3_ofWalk 12 = .ok (.ireturn, 1) := by decide +kernel
theorem dX3_ofWalk_13 : decode cX3_ofWalk 13 = .ok (.iload_n 2, 1) := by decide +kernel
theorem dX3_ofWalk_14 : decode cX3_ofWalk 14 = .ok (.tableswitch 78 0 3 #[30, 40, 50, 60], 30) := by decide +kernel
theorem dX3_ofWalk_44 : decode cX3_ofWalk 44 = .ok (.aload_n 0, 1) := by decide +kernel
theorem dX3_ofWalk_45 : decode cX3_ofWalk 45 = .ok (.getfield 12, 3) := by decide +kernel
theorem dX3_ofWalk_48 : decode cX3_ofWalk 48 = .ok (.getfield 96, 3) := by decide +kernel
theorem dX3_ofWalk_51 : decode cX3_ofWalk 51 = .ok (.iload_n 1, 1) := by decide +kernel
theorem dX3_ofWalk_52 : decode cX3_ofWalk 52 = .ok (.iaload, 1) := by decide +kernel
theorem dX3_ofWalk_53 : decode cX3_ofWalk 53 = .ok (.ireturn, 1) := by decide +kernel
theorem dX3_ofWalk_54 : decode cX3_ofWalk 54 = .ok (.aload_n 0, 1) := by decide +kernel
theorem dX3_ofWalk_55 : decode cX3_ofWalk 55 = .ok (.getfield 12, 3) := by decide +kernel
theorem dX3_ofWalk_58 : decode cX3_ofWalk 58 = .ok (.getfield 99, 3) := by decide +kernel
theorem dX3_ofWalk_61 : decode cX3_ofWalk 61 = .ok (.iload_n 1, 1) := by decide +kernel
theorem dX3_ofWalk_62 : decode cX3_ofWalk 62 = .ok (.iaload, 1) := by decide +kernel
theorem dX3_ofWalk_63 : decode cX3_ofWalk 63 = .ok (.ireturn, 1) := by decide +kernel
theorem dX3_ofWalk_64 : decode cX3_ofWalk 64 = .ok (.aload_n 0, 1) := by decide +kernel
theorem dX3_ofWalk_65 : decode cX3_ofWalk 65 = .ok (.getfield 12, 3) := by decide +kernel
theorem dX3_ofWalk_68 : decode cX3_ofWalk 68 = .ok (.getfield 102, 3) := by decide +kernel
theorem dX3_ofWalk_71 : decode cX3_ofWalk 71 = .ok (.iload_n 1, 1) := by decide +kernel
theorem dX3_ofWalk_72 : decode cX3_ofWalk 72 = .ok (.iaload, 1) := by decide +kernel
theorem dX3_ofWalk_73 : decode cX3_ofWalk 73 = .ok (.ireturn, 1) := by decide +kernel
theorem dX3_ofWalk_74 : decode cX3_ofWalk 74 = .ok (.aload_n 0, 1) := by decide +kernel
theorem dX3_ofWalk_75 : decode cX3_ofWalk 75 = .ok (.getfield 12, 3) := by decide +kernel
theorem dX3_ofWalk_78 : decode cX3_ofWalk 78 = .ok (.getfield 105, 3) := by decide +kernel
theorem dX3_ofWalk_81 : decode cX3_ofWalk 81 = .ok (.iload_n 1, 1) := by decide +kernel
theorem dX3_ofWalk_82 : decode cX3_ofWalk 82 = .ok (.baload, 1) := by decide +kernel
theorem dX3_ofWalk_83 : decode cX3_ofWalk 83 = .ok (.ifCond .eq 7, 3) := by decide +kernel
theorem dX3_ofWalk_86 : decode cX3_ofWalk 86 = .ok (.iconst 1, 1) := by decide +kernel
theorem dX3_ofWalk_87 : decode cX3_ofWalk 87 = .ok (.goto 4, 3) := by decide +kernel
theorem dX3_ofWalk_90 : decode cX3_ofWalk 90 = .ok (.iconst 0, 1) := by decide +kernel
theorem dX3_ofWalk_91 : decode cX3_ofWalk 91 = .ok (.ireturn, 1) := by decide +kernel
theorem dX3_ofWalk_92 : decode cX3_ofWalk 92 = .ok (.bipush (-2), 2) := by decide +kernel
theorem dX3_ofWalk_94 : decode cX3_ofWalk 94 = .ok (.ireturn, 1) := by decide +kernel
theorem dX3_name_0 : decode cX3_name 0 = .ok (.iload_n 1, 1) := by decide +kernel
theorem dX3_name_1 : decode cX3_name 1 = .ok (.invokestatic 70, 3) := by decide +kernel
theorem dX3_name_4 : decode cX3_name 4 = .ok (.ifCond .ne 5, 3) := by decide +kernel
theorem dX3_name_7 : decode cX3_name 7 = .ok (.iconst (-1), 1) := by decide +kernel
theorem dX3_name_8 : decode cX3_name 8 = .ok (.ireturn, 1) := by decide +kernel
theorem dX3_name_9 : decode cX3_name 9 = .ok (.aload_n 0, 1) := by decide +kernel
theorem dX3_name_10 : decode cX3_name 10 = .ok (.getfield 51, 3) := by decide +kernel
theorem dX3_name_13 : decode cX3_name 13 = .ok (.iconst 5, 1) := by decide +kernel
theorem dX3_name_14 : decode cX3_name 14 = .ok (.if_icmp .lt 6, 3) := by decide +kernel
theorem dX3_name_17 : decode cX3_name 17 = .ok (.bipush (-4), 2) := by decide +kernel
theorem dX3_name_19 : decode cX3_name 19 = .ok (.ireturn, 1) := by decide +kernel
theorem dX3_name_20 : decode cX3_name 20 = .ok (.aload_n 0, 1) := by decide +kernel
theorem dX3_name_21 : decode cX3_name 21 = .ok (.getfield 33, 3) := by decide +kernel
theorem dX3_name_24 : decode cX3_name 24 = .ok (.aload_n 0, 1) := by decide +kernel
theorem dX3_name_25 : decode cX3_name 25 = .ok (.getfield 51, 3) := by decide +kernel
theorem dX3_name_28 : decode cX3_name 28 = .ok (.iload_n 1, 1) := by decide +kernel
theorem dX3_name_29 : decode cX3_name 29 = .ok (.iastore, 1) := by decide +kernel
theorem dX3_name_30 : decode cX3_name 30 = .ok (.aload_n 0, 1) := by decide +kernel
theorem dX3_name_31 : decode cX3_name 31 = .ok (.dup, 1) := by decide +kernel
theorem dX3_name_32 : decode cX3_name 32 = .ok (.getfield 51, 3) := by decide +kernel
theorem dX3_name_35 : decode cX3_name 35 = .ok (.iconst 1, 1) := by decide +kernel
theorem dX3_name_36 : decode cX3_name 36 = .ok (.iadd, 1) := by decide +kernel
theorem dX3_name_37 : decode cX3_name 37 = .ok (.putfield 51, 3) := by decide +kernel
theorem dX3_name_40 : decode cX3_name 40 = .ok (.aload_n 0, 1) := by decide +kernel
theorem dX3_name_41 : decode cX3_name 41 = .ok (.getfield 51, 3) := by decide +kernel
theorem dX3_name_44 : decode cX3_name 44 = .ok (.iconst 1, 1) := by decide +kernel
theorem dX3_name_45 : decode cX3_name 45 = .ok (.isub, 1) := by decide +kernel
theorem dX3_name_46 : decode cX3_name 46 = .ok (.ireturn, 1) := by decide +kernel
theorem dX3_moves_0 : decode cX3_moves 0 = .ok (.aload_n 0, 1) := by decide +kernel
theorem dX3_moves_1 : decode cX3_moves 1 = .ok (.iload_n 1, 1) := by decide +kernel
theorem dX3_moves_2 : decode cX3_moves 2 = .ok (.invokevirtual 109, 3) := by decide +kernel
theorem dX3_moves_5 : decode cX3_moves 5 = .ok (.ifCond .eq 10, 3) := by decide +kernel
theorem dX3_moves_8 : decode cX3_moves 8 = .ok (.iload_n 2, 1) := by decide +kernel
theorem dX3_moves_9 : decode cX3_moves 9 = .ok (.invokestatic 70, 3) := by decide +kernel
theorem dX3_moves_12 : decode cX3_moves 12 = .ok (.ifCond .ne 5, 3) := by decide +kernel
theorem dX3_moves_15 : decode cX3_moves 15 = .ok (.iconst (-1), 1) := by decide +kernel
theorem dX3_moves_16 : decode cX3_moves 16 = .ok (.ireturn, 1) := by decide +kernel
theorem dX3_moves_17 : decode cX3_moves 17 = .ok (.aload_n 0, 1) := by decide +kernel
theorem dX3_moves_18 : decode cX3_moves 18 = .ok (.getfield 33, 3) := by decide +kernel
theorem dX3_moves_21 : decode cX3_moves 21 = .ok (.iload_n 1, 1) := by decide +kernel
theorem dX3_moves_22 : decode cX3_moves 22 = .ok (.iaload, 1) := by decide +kernel
theorem dX3_moves_23 : decode cX3_moves 23 = .ok (.istore_n 3, 1) := by decide +kernel
theorem dX3_moves_24 : decode cX3_moves 24 = .ok (.aload_n 0, 1) := by decide +kernel
theorem dX3_moves_25 : decode cX3_moves 25 = .ok (.getfield 33, 3) := by decide +kernel
theorem dX3_moves_28 : decode cX3_moves 28 = .ok (.iload_n 1, 1) := by decide +kernel
theorem dX3_moves_29 : decode cX3_moves 29 = .ok (.iload_n 2, 1) := by decide +kernel
theorem dX3_moves_30 : decode cX3_moves 30 = .ok (.iastore, 1) := by decide +kernel
theorem dX3_moves_31 : decode cX3_moves 31 = .ok (.iload_n 3, 1) := by decide +kernel
theorem dX3_moves_32 : decode cX3_moves 32 = .ok (.ireturn, 1) := by decide +kernel
theorem dX3_entrance_0 : decode cX3_entrance 0 = .ok (.iload_n 1, 1) := by decide +kernel
theorem dX3_entrance_1 : decode cX3_entrance 1 = .ok (.invokestatic 70, 3) := by decide +kernel
theorem dX3_entrance_4 : decode cX3_entrance 4 = .ok (.ifCond .ne 5, 3) := by decide +kernel
theorem dX3_entrance_7 : decode cX3_entrance 7 = .ok (.iconst (-1), 1) := by decide +kernel
theorem dX3_entrance_8 : decode cX3_entrance 8 = .ok (.ireturn, 1) := by decide +kernel
theorem dX3_entrance_9 : decode cX3_entrance 9 = .ok (.aload_n 0, 1) := by decide +kernel
theorem dX3_entrance_10 : decode cX3_entrance 10 = .ok (.getfield 55, 3) := by decide +kernel
theorem dX3_entrance_13 : decode cX3_entrance 13 = .ok (.iload_n 1, 1) := by decide +kernel
theorem dX3_entrance_14 : decode cX3_entrance 14 = .ok (.invokestatic 112, 3) := by decide +kernel
theorem dX3_entrance_17 : decode cX3_entrance 17 = .ok (.iload_n 2, 1) := by decide +kernel
theorem dX3_entrance_18 : decode cX3_entrance 18 = .ok (.if_icmp .ne 5, 3) := by decide +kernel
theorem dX3_entrance_21 : decode cX3_entrance 21 = .ok (.iconst 0, 1) := by decide +kernel
theorem dX3_entrance_22 : decode cX3_entrance 22 = .ok (.ireturn, 1) := by decide +kernel
theorem dX3_entrance_23 : decode cX3_entrance 23 = .ok (.aload_n 0, 1) := by decide +kernel
theorem dX3_entrance_24 : decode cX3_entrance 24 = .ok (.dup, 1) := by decide +kernel
theorem dX3_entrance_25 : decode cX3_entrance 25 = .ok (.getfield 55, 3) := by decide +kernel
theorem dX3_entrance_28 : decode cX3_entrance 28 = .ok (.iconst 1, 1) := by decide +kernel
theorem dX3_entrance_29 : decode cX3_entrance 29 = .ok (.iload_n 1, 1) := by decide +kernel
theorem dX3_entrance_30 : decode cX3_entrance 30 = .ok (.ishl, 1) := by decide +kernel
theorem dX3_entrance_31 : decode cX3_entrance 31 = .ok (.ixor, 1) := by decide +kernel
theorem dX3_entrance_32 : decode cX3_entrance 32 = .ok (.putfield 55, 3) := by decide +kernel
theorem dX3_entrance_35 : decode cX3_entrance 35 = .ok (.iconst 1, 1) := by decide +kernel
theorem dX3_entrance_36 : decode cX3_entrance 36 = .ok (.ireturn, 1) := by decide +kernel
theorem dX3_detour_0 : decode cX3_detour 0 = .ok (.iload_n 1, 1) := by decide +kernel
theorem dX3_detour_1 : decode cX3_detour 1 = .ok (.ifCond .lt 10, 3) := by decide +kernel
theorem dX3_detour_4 : decode cX3_detour 4 = .ok (.iload_n 1, 1) := by decide +kernel
theorem dX3_detour_5 : decode cX3_detour 5 = .ok (.sipush 999, 3) := by decide +kernel
theorem dX3_detour_8 : decode cX3_detour 8 = .ok (.if_icmp .le 6, 3) := by decide +kernel
theorem dX3_detour_11 : decode cX3_detour 11 = .ok (.bipush (-2), 2) := by decide +kernel
theorem dX3_detour_13 : decode cX3_detour 13 = .ok (.ireturn, 1) := by decide +kernel
theorem dX3_detour_14 : decode cX3_detour 14 = .ok (.aload_n 0, 1) := by decide +kernel
theorem dX3_detour_15 : decode cX3_detour 15 = .ok (.getfield 58, 3) := by decide +kernel
theorem dX3_detour_18 : decode cX3_detour 18 = .ok (.istore_n 2, 1) := by decide +kernel
theorem dX3_detour_19 : decode cX3_detour 19 = .ok (.aload_n 0, 1) := by decide +kernel
theorem dX3_detour_20 : decode cX3_detour 20 = .ok (.iload_n 1, 1) := by decide +kernel
theorem dX3_detour_21 : decode cX3_detour 21 = .ok (.putfield 58, 3) := by decide +kernel
theorem dX3_detour_24 : decode cX3_detour 24 = .ok (.iload_n 2, 1) := by decide +kernel
theorem dX3_detour_25 : decode cX3_detour 25 = .ok (.ireturn, 1) := by decide +kernel
theorem dX3_board_0 : decode cX3_board 0 = .ok (.iload_n 1, 1) := by decide +kernel
theorem dX3_board_1 : decode cX3_board 1 = .ok (.invokestatic 70, 3) := by decide +kernel
theorem dX3_board_4 : decode cX3_board 4 = .ok (.ifCond .eq 18, 3) := by decide +kernel
theorem dX3_board_7 : decode cX3_board 7 = .ok (.aload_n 0, 1) := by decide +kernel
theorem dX3_board_8 : decode cX3_board 8 = .ok (.iload_n 2, 1) := by decide +kernel
theorem dX3_board_9 : decode cX3_board 9 = .ok (.invokevirtual 109, 3) := by decide +kernel
theorem dX3_board_12 : decode cX3_board 12 = .ok (.ifCond .eq 10, 3) := by decide +kernel
theorem dX3_board_15 : decode cX3_board 15 = .ok (.iload_n 3, 1) := by decide +kernel
theorem dX3_board_16 : decode cX3_board 16 = .ok (.invokestatic 70, 3) := by decide +kernel
theorem dX3_board_19 : decode cX3_board 19 = .ok (.ifCond .ne 5, 3) := by decide +kernel
theorem dX3_board_22 : decode cX3_board 22 = .ok (.iconst (-1), 1) := by decide +kernel
theorem dX3_board_23 : decode cX3_board 23 = .ok (.ireturn, 1) := by decide +kernel
theorem dX3_board_24 : decode cX3_board 24 = .ok (.aload_n 0, 1) := by decide +kernel
theorem dX3_board_25 : decode cX3_board 25 = .ok (.getfield 12, 3) := by decide +kernel
theorem dX3_board_28 : decode cX3_board 28 = .ok (.iload_n 1, 1) := by decide +kernel
theorem dX3_board_29 : decode cX3_board 29 = .ok (.iload_n 3, 1) := by decide +kernel
theorem dX3_board_30 : decode cX3_board 30 = .ok (.invokevirtual 74, 3) := by decide +kernel
theorem dX3_board_33 : decode cX3_board 33 = .ok (.ifCond .ne 6, 3) := by decide +kernel
theorem dX3_board_36 : decode cX3_board 36 = .ok (.bipush (-3), 2) := by decide +kernel
theorem dX3_board_38 : decode cX3_board 38 = .ok (.ireturn, 1) := by decide +kernel
theorem dX3_board_39 : decode cX3_board 39 = .ok (.aload_n 0, 1) := by decide +kernel
theorem dX3_board_40 : decode cX3_board 40 = .ok (.getfield 39, 3) := by decide +kernel
theorem dX3_board_43 : decode cX3_board 43 = .ok (.iload_n 2, 1) := by decide +kernel
theorem dX3_board_44 : decode cX3_board 44 = .ok (.aaload, 1) := by decide +kernel
theorem dX3_board_45 : decode cX3_board 45 = .ok (.iload_n 1, 1) := by decide +kernel
theorem dX3_board_46 : decode cX3_board 46 = .ok (.iaload, 1) := by decide +kernel
theorem dX3_board_47 : decode cX3_board 47 = .ok (.istore 4, 2) := by decide +kernel
theorem dX3_board_49 : decode cX3_board 49 = .ok (.aload_n 0, 1) := by decide +kernel
theorem dX3_board_50 : decode cX3_board 50 = .ok (.getfield 39, 3) := by decide +kernel
theorem dX3_board_53 : decode cX3_board 53 = .ok (.iload_n 2, 1) := by decide +kernel
theorem dX3_board_54 : decode cX3_board 54 = .ok (.aaload, 1) := by decide +kernel
theorem dX3_board_55 : decode cX3_board 55 = .ok (.iload_n 1, 1) := by decide +kernel
theorem dX3_board_56 : decode cX3_board 56 = .ok (.iload_n 3, 1) := by decide +kernel
theorem dX3_board_57 : decode cX3_board 57 = .ok (.iastore, 1) := by decide +kernel
theorem dX3_board_58 : decode cX3_board 58 = .ok (.iload 4, 2) := by decide +kernel
theorem dX3_board_60 : decode cX3_board 60 = .ok (.ireturn, 1) := by decide +kernel
theorem dX3_unboard_0 : decode cX3_unboard 0 = .ok (.iload_n 1, 1) := by decide +kernel
theorem dX3_unboard_1 : decode cX3_unboard 1 = .ok (.invokestatic 70, 3) := by decide +kernel
theorem dX3_unboard_4 : decode cX3_unboard 4 = .ok (.ifCond .eq 11, 3) := by decide +kernel
theorem dX3_unboard_7 : decode cX3_unboard 7 = .ok (.aload_n 0, 1) := by decide +kernel
theorem dX3_unboard_8 : decode cX3_unboard 8 = .ok (.iload_n 2, 1) := by decide +kernel
theorem dX3_unboard_9 : decode cX3_unboard 9 = .ok (.invokevirtual 109, 3) := by decide +kernel
theorem dX3_unboard_12 : decode cX3_unboard 12 = .ok (.ifCond .ne 5, 3) := by decide +kernel
theorem dX3_unboard_15 : decode cX3_unboard 15 = .ok (.iconst (-1), 1) := by decide +kernel
theorem dX3_unboard_16 : decode cX3_unboard 16 = .ok (.ireturn, 1) := by decide +kernel
theorem dX3_unboard_17 : decode cX3_unboard 17 = .ok (.aload_n 0, 1) := by decide +kernel
theorem dX3_unboard_18 : decode cX3_unboard 18 = .ok (.getfield 39, 3) := by decide +kernel
theorem dX3_unboard_21 : decode cX3_unboard 21 = .ok (.iload_n 2, 1) := by decide +kernel
theorem dX3_unboard_22 : decode cX3_unboard 22 = .ok (.aaload, 1) := by decide +kernel
theorem dX3_unboard_23 : decode cX3_unboard 23 = .ok (.iload_n 1, 1) := by decide +kernel
theorem dX3_unboard_24 : decode cX3_unboard 24 = .ok (.iaload, 1) := by decide +kernel
theorem dX3_unboard_25 : decode cX3_unboard 25 = .ok (.istore_n 3, 1) := by decide +kernel
theorem dX3_unboard_26 : decode cX3_unboard 26 = .ok (.iload_n 3, 1) := by decide +kernel
theorem dX3_unboard_27 : decode cX3_unboard 27 = .ok (.bipush (-9), 2) := by decide +kernel
theorem dX3_unboard_29 : decode cX3_unboard 29 = .ok (.if_icmp .ne 6, 3) := by decide +kernel
theorem dX3_unboard_32 : decode cX3_unboard 32 = .ok (.bipush (-3), 2) := by decide +kernel
theorem dX3_unboard_34 : decode cX3_unboard 34 = .ok (.ireturn, 1) := by decide +kernel
theorem dX3_unboard_35 : decode cX3_unboard 35 = .ok (.aload_n 0, 1) := by decide +kernel
theorem dX3_unboard_36 : decode cX3_unboard 36 = .ok (.getfield 39, 3) := by decide +kernel
theorem dX3_unboard_39 : decode cX3_unboard 39 = .ok (.iload_n 2, 1) := by decide +kernel
theorem dX3_unboard_40 : decode cX3_unboard 40 = .ok (.aaload, 1) := by decide +kernel
theorem dX3_unboard_41 : decode cX3_unboard 41 = .ok (.iload_n 1, 1) := by decide +kernel
theorem dX3_unboard_42 : decode cX3_unboard 42 = .ok (.bipush (-9), 2) := by decide +kernel
theorem dX3_unboard_44 : decode cX3_unboard 44 = .ok (.iastore, 1) := by decide +kernel
theorem dX3_unboard_45 : decode cX3_unboard 45 = .ok (.iload_n 3, 1) := by decide +kernel
theorem dX3_unboard_46 : decode cX3_unboard 46 = .ok (.ireturn, 1) := by decide +kernel
theorem dX3_arrow_0 : decode cX3_arrow 0 = .ok (.iload_n 1, 1) := by decide +kernel
theorem dX3_arrow_1 : decode cX3_arrow 1 = .ok (.invokestatic 70, 3) := by decide +kernel
theorem dX3_arrow_4 : decode cX3_arrow 4 = .ok (.ifCond .eq 11, 3) := by decide +kernel
theorem dX3_arrow_7 : decode cX3_arrow 7 = .ok (.aload_n 0, 1) := by decide +kernel
theorem dX3_arrow_8 : decode cX3_arrow 8 = .ok (.iload_n 2, 1) := by decide +kernel
theorem dX3_arrow_9 : decode cX3_arrow 9 = .ok (.invokevirtual 109, 3) := by decide +kernel
theorem dX3_arrow_12 : decode cX3_arrow 12 = .ok (.ifCond .ne 5, 3) := by decide +kernel
theorem dX3_arrow_15 : decode cX3_arrow 15 = .ok (.iconst (-1), 1) := by decide +kernel
theorem dX3_arrow_16 : decode cX3_arrow 16 = .ok (.ireturn, 1) := by decide +kernel
theorem dX3_arrow_17 : decode cX3_arrow 17 = .ok (.aload_n 0, 1) := by decide +kernel
theorem dX3_arrow_18 : decode cX3_arrow 18 = .ok (.getfield 39, 3) := by decide +kernel
theorem dX3_arrow_21 : decode cX3_arrow 21 = .ok (.iload_n 2, 1) := by decide +kernel
theorem dX3_arrow_22 : decode cX3_arrow 22 = .ok (.aaload, 1) := by decide +kernel
theorem dX3_arrow_23 : decode cX3_arrow 23 = .ok (.iload_n 1, 1) := by decide +kernel
theorem dX3_arrow_24 : decode cX3_arrow 24 = .ok (.iaload, 1) := by decide +kernel
theorem dX3_arrow_25 : decode cX3_arrow 25 = .ok (.ireturn, 1) := by decide +kernel
theorem dX3_far_0 : decode cX3_far 0 = .ok (.iload_n 1, 1) := by decide +kernel
theorem dX3_far_1 : decode cX3_far 1 = .ok (.invokestatic 70, 3) := by decide +kernel
theorem dX3_far_4 : decode cX3_far 4 = .ok (.ifCond .eq 11, 3) := by decide +kernel
theorem dX3_far_7 : decode cX3_far 7 = .ok (.aload_n 0, 1) := by decide +kernel
theorem dX3_far_8 : decode cX3_far 8 = .ok (.iload_n 2, 1) := by decide +kernel
theorem dX3_far_9 : decode cX3_far 9 = .ok (.invokevirtual 109, 3) := by decide +kernel
theorem dX3_far_12 : decode cX3_far 12 = .ok (.ifCond .ne 5, 3) := by decide +kernel
theorem dX3_far_15 : decode cX3_far 15 = .ok (.iconst (-1), 1) := by decide +kernel
theorem dX3_far_16 : decode cX3_far 16 = .ok (.ireturn, 1) := by decide +kernel
theorem dX3_far_17 : decode cX3_far 17 = .ok (.iload_n 3, 1) := by decide +kernel
theorem dX3_far_18 : decode cX3_far 18 = .ok (.ifCond .lt 8, 3) := by decide +kernel
theorem dX3_far_21 : decode cX3_far 21 = .ok (.iload_n 3, 1) := by decide +kernel
theorem dX3_far_22 : decode cX3_far 22 = .ok (.iconst 1, 1) := by decide +kernel
theorem dX3_far_23 : decode cX3_far 23 = .ok (.if_icmp .le 6, 3) := by decide +kernel
theorem dX3_far_26 : decode cX3_far 26 = .ok (.bipush (-2), 2) := by decide +kernel
theorem dX3_far_28 : decode cX3_far 28 = .ok (.ireturn, 1) := by decide +kernel
theorem dX3_far_29 : decode cX3_far 29 = .ok (.aload_n 0, 1) := by decide +kernel
theorem dX3_far_30 : decode cX3_far 30 = .ok (.getfield 19, 3) := by decide +kernel
theorem dX3_far_33 : decode cX3_far 33 = .ok (.aload_n 0, 1) := by decide +kernel
theorem dX3_far_34 : decode cX3_far 34 = .ok (.getfield 12, 3) := by decide +kernel
theorem dX3_far_37 : decode cX3_far 37 = .ok (.iload_n 2, 1) := by decide +kernel
theorem dX3_far_38 : decode cX3_far 38 = .ok (.aload_n 0, 1) := by decide +kernel
theorem dX3_far_39 : decode cX3_far 39 = .ok (.getfield 33, 3) := by decide +kernel
theorem dX3_far_42 : decode cX3_far 42 = .ok (.iload_n 2, 1) := by decide +kernel
theorem dX3_far_43 : decode cX3_far 43 = .ok (.iaload, 1) := by decide +kernel
theorem dX3_far_44 : decode cX3_far 44 = .ok (.invokevirtual 115, 3) := by decide +kernel
theorem dX3_far_47 : decode cX3_far 47 = .ok (.iload_n 3, 1) := by decide +kernel
theorem dX3_far_48 : decode cX3_far 48 = .ok (.ifCond .ne 17, 3) := by decide +kernel
theorem dX3_far_51 : decode cX3_far 51 = .ok (.aload_n 0, 1) := by decide +kernel
theorem dX3_far_52 : decode cX3_far 52 = .ok (.getfield 19, 3) := by decide +kernel
theorem dX3_far_55 : decode cX3_far 55 = .ok (.getfield 119, 3) := by decide +kernel
theorem dX3_far_58 : decode cX3_far 58 = .ok (.iload_n 2, 1) := by decide +kernel
theorem dX3_far_59 : decode cX3_far 59 = .ok (.aaload, 1) := by decide +kernel
theorem dX3_far_60 : decode cX3_far 60 = .ok (.iload_n 1, 1) := by decide +kernel
theorem dX3_far_61 : decode cX3_far 61 = .ok (.iaload, 1) := by decide +kernel
theorem dX3_far_62 : decode cX3_far 62 = .ok (.goto 14, 3) := by decide +kernel
theorem dX3_far_65 : decode cX3_far 65 = .ok (.aload_n 0, 1) := by decide +kernel
theorem dX3_far_66 : decode cX3_far 66 = .ok (.getfield 19, 3) := by decide +kernel
theorem dX3_far_69 : decode cX3_far 69 = .ok (.getfield 122, 3) := by decide +kernel
theorem dX3_far_72 : decode cX3_far 72 = .ok (.iload_n 2, 1) := by decide +kernel
theorem dX3_far_73 : decode cX3_far 73 = .ok (.aaload, 1) := by decide +kernel
theorem dX3_far_74 : decode cX3_far 74 = .ok (.iload_n 1, 1) := by decide +kernel
theorem dX3_far_75 : decode cX3_far 75 = .ok (.iaload, 1) := by decide +kernel
theorem dX3_far_76 : decode cX3_far 76 = .ok (.ireturn, 1) := by decide +kernel
theorem dX3_from_0 : decode cX3_from 0 = .ok (.iload_n 1, 1) := by decide +kernel
theorem dX3_from_1 : decode cX3_from 1 = .ok (.invokestatic 70, 3) := by decide +kernel
theorem dX3_from_4 : decode cX3_from 4 = .ok (.ifCond .ne 5, 3) := by decide +kernel
theorem dX3_from_7 : decode cX3_from 7 = .ok (.iconst (-1), 1) := by decide +kernel
theorem dX3_from_8 : decode cX3_from 8 = .ok (.ireturn, 1) := by decide +kernel
theorem dX3_from_9 : decode cX3_from 9 = .ok (.aload_n 0, 1) := by decide +kernel
theorem dX3_from_10 : decode cX3_from 10 = .ok (.getfield 12, 3) := by decide +kernel
theorem dX3_from_13 : decode cX3_from 13 = .ok (.getfield 125, 3) := by decide +kernel
theorem dX3_from_16 : decode cX3_from 16 = .ok (.iload_n 1, 1) := by decide +kernel
theorem dX3_from_17 : decode cX3_from 17 = .ok (.iaload, 1) := by decide +kernel
theorem dX3_from_18 : decode cX3_from 18 = .ok (.ireturn, 1) := by decide +kernel
theorem dX3_follow_0 : decode cX3_follow 0 = .ok (.iload_n 1, 1) := by decide +kernel
theorem dX3_follow_1 : decode cX3_follow 1 = .ok (.invokestatic 70, 3) := by decide +kernel
theorem dX3_follow_4 : decode cX3_follow 4 = .ok (.ifCond .eq 11, 3) := by decide +kernel
theorem dX3_follow_7 : decode cX3_follow 7 = .ok (.aload_n 0, 1) := by decide +kernel
theorem dX3_follow_8 : decode cX3_follow 8 = .ok (.iload_n 2, 1) := by decide +kernel
theorem dX3_follow_9 : decode cX3_follow 9 = .ok (.invokevirtual 109, 3) := by decide +kernel
theorem dX3_follow_12 : decode cX3_follow 12 = .ok (.ifCond .ne 5, 3) := by decide +kernel
theorem dX3_follow_15 : decode cX3_follow 15 = .ok (.iconst (-1), 1) := by decide +kernel
theorem dX3_follow_16 : decode cX3_follow 16 = .ok (.ireturn, 1) := by decide +kernel
theorem dX3_follow_17 : decode cX3_follow 17 = .ok (.iload_n 3, 1) := by decide +kernel
theorem dX3_follow_18 : decode cX3_follow 18 = .ok (.bipush 10, 2) := by decide +kernel
theorem dX3_follow_20 : decode cX3_follow 20 = .ok (.if_icmp .lt 13, 3) := by decide +kernel
theorem dX3_follow_23 : decode cX3_follow 23 = .ok (.iload_n 3, 1) := by decide +kernel
theorem dX3_follow_24 : decode cX3_follow 24 = .ok (.bipush 50, 2) := by decide +kernel
theorem dX3_follow_26 : decode cX3_follow 26 = .ok (.if_icmp .gt 7, 3) := by decide +kernel
theorem dX3_follow_29 : decode cX3_follow 29 = .ok (.iconst 1, 1) := by decide +kernel
theorem dX3_follow_30 : decode cX3_follow 30 = .ok (.goto 4, 3) := by decide +kernel
theorem dX3_follow_33 : decode cX3_follow 33 = .ok (.iconst 0, 1) := by decide +kernel
theorem dX3_follow_34 : decode cX3_follow 34 = .ok (.istore 4, 2) := by decide +kernel
theorem dX3_follow_36 : decode cX3_follow 36 = .ok (.iload 4, 2) := by decide +kernel
theorem dX3_follow_38 : decode cX3_follow 38 = .ok (.ifCond .ne 15, 3) := by decide +kernel
theorem dX3_follow_41 : decode cX3_follow 41 = .ok (.iload_n 3, 1) := by decide +kernel
theorem dX3_follow_42 : decode cX3_follow 42 = .ok (.ifCond .lt 8, 3) := by decide +kernel
theorem dX3_follow_45 : decode cX3_follow 45 = .ok (.iload_n 3, 1) := by decide +kernel
theorem dX3_follow_46 : decode cX3_follow 46 = .ok (.iconst 3, 1) := by decide +kernel
theorem dX3_follow_47 : decode cX3_follow 47 = .ok (.if_icmp .le 6, 3) := by decide +kernel
theorem dX3_follow_50 : decode cX3_follow 50 = .ok (.bipush (-2), 2) := by decide +kernel
theorem dX3_follow_52 : decode cX3_follow 52 = .ok (.ireturn, 1) := by decide +kernel
theorem dX3_follow_53 : decode cX3_follow 53 = .ok (.aload_n 0, 1) := by decide +kernel
theorem dX3_follow_54 : decode cX3_follow 54 = .ok (.getfield 26, 3) := by decide +kernel
theorem dX3_follow_57 : decode cX3_follow 57 = .ok (.aload_n 0, 1) := by decide +kernel
theorem dX3_follow_58 : decode cX3_follow 58 = .ok (.getfield 12, 3) := by decide +kernel
theorem dX3_follow_61 : decode cX3_follow 61 = .ok (.iload_n 1, 1) := by decide +kernel
theorem dX3_follow_62 : decode cX3_follow 62 = .ok (.aload_n 0, 1) := by decide +kernel
theorem dX3_follow_63 : decode cX3_follow 63 = .ok (.getfield 33, 3) := by decide +kernel
theorem dX3_follow_66 : decode cX3_follow 66 = .ok (.iload_n 2, 1) := by decide +kernel
theorem dX3_follow_67 : decode cX3_follow 67 = .ok (.iaload, 1) := by decide +kernel
theorem dX3_follow_68 : decode cX3_follow 68 = .ok (.aload_n 0, 1) := by decide +kernel
theorem dX3_follow_69 : decode cX3_follow 69 = .ok (.getfield 39, 3) := by decide +kernel
theorem dX3_follow_72 : decode cX3_follow 72 = .ok (.iload_n 2, 1) := by decide +kernel
theorem dX3_follow_73 : decode cX3_follow 73 = .ok (.aaload, 1) := by decide +kernel
theorem dX3_follow_74 : decode cX3_follow 74 = .ok (.invokevirtual 128, 3) := by decide +kernel
theorem dX3_follow_77 : decode cX3_follow 77 = .ok (.iload_n 3, 1) := by decide +kernel
theorem dX3_follow_78 : decode cX3_follow 78 = .ok (.tableswitch 69 0 3 #[30, 38, 46, 54], 30) := by decide +kernel
theorem dX3_follow_108 : decode cX3_follow 108 = .ok (.aload_n 0, 1) := by decide +kernel
theorem dX3_follow_109 : decode cX3_follow 109 = .ok (.getfield 26, 3) := by decide +kernel
theorem dX3_follow_112 : decode cX3_follow 112 = .ok (.getfield 132, 3) := by decide +kernel
theorem dX3_follow_115 : decode cX3_follow 115 = .ok (.ireturn, 1) := by decide +kernel
theorem dX3_follow_116 : decode cX3_follow 116 = .ok (.aload_n 0, 1) := by decide +kernel
theorem dX3_follow_117 : decode cX3_follow 117 = .ok (.getfield 26, 3) := by decide +kernel
theorem dX3_follow_120 : decode cX3_follow 120 = .ok (.getfield 135, 3) := by decide +kernel
theorem dX3_follow_123 : decode cX3_follow 123 = .ok (.ireturn, 1) := by decide +kernel
theorem dX3_follow_124 : decode cX3_follow 124 = .ok (.aload_n 0, 1) := by decide +kernel
theorem dX3_follow_125 : decode cX3_follow 125 = .ok (.getfield 26, 3) := by decide +kernel
theorem dX3_follow_128 : decode cX3_follow 128 = .ok (.getfield 138, 3) := by decide +kernel
theorem dX3_follow_131 : decode cX3_follow 131 = .ok (.ireturn, 1) := by decide +kernel
theorem dX3_follow_132 : decode cX3_follow 132 = .ok (.aload_n 0, 1) := by decide +kernel
theorem dX3_follow_133 : decode cX3_follow 133 = .ok (.getfield 26, 3) := by decide +kernel
theorem dX3_follow_136 : decode cX3_follow 136 = .ok (.aload_n 0, 1) := by decide +kernel
theorem dX3_follow_137 : decode cX3_follow 137 = .ok (.getfield 26, 3) := by decide +kernel
theorem dX3_follow_140 : decode cX3_follow 140 = .ok (.getfield 135, 3) := by decide +kernel
theorem dX3_follow_143 : decode cX3_follow 143 = .ok (.invokevirtual 141, 3) := by decide +kernel
theorem dX3_follow_146 : decode cX3_follow 146 = .ok (.ireturn, 1) := by decide +kernel
theorem dX3_follow_147 : decode cX3_follow 147 = .ok (.aload_n 0, 1) := by decide +kernel
theorem dX3_follow_148 : decode cX3_follow 148 = .ok (.getfield 26, 3) := by decide +kernel
theorem dX3_follow_151 : decode cX3_follow 151 = .ok (.iload_n 3, 1) := by decide +kernel
theorem dX3_follow_152 : decode cX3_follow 152 = .ok (.bipush 10, 2) := by decide +kernel
theorem dX3_follow_154 : decode cX3_follow 154 = .ok (.isub, 1) := by decide +kernel
theorem dX3_follow_155 : decode cX3_follow 155 = .ok (.invokevirtual 141, 3) := by decide +kernel
theorem dX3_follow_158 : decode cX3_follow 158 = .ok (.ireturn, 1) := by decide +kernel
theorem dX3_ends_0 : decode cX3_ends 0 = .ok (.iload_n 1, 1) := by decide +kernel
theorem dX3_ends_1 : decode cX3_ends 1 = .ok (.invokestatic 145, 3) := by decide +kernel
theorem dX3_ends_4 : decode cX3_ends 4 = .ok (.ifCond .ne 6, 3) := by decide +kernel
theorem dX3_ends_7 : decode cX3_ends 7 = .ok (.bipush (-2), 2) := by decide +kernel
theorem dX3_ends_9 : decode cX3_ends 9 = .ok (.ireturn, 1) := by decide +kernel
theorem dX3_ends_10 : decode cX3_ends 10 = .ok (.iconst 0, 1) := by decide +kernel
theorem dX3_ends_11 : decode cX3_ends 11 = .ok (.istore_n 2, 1) := by decide +kernel
theorem dX3_ends_12 : decode cX3_ends 12 = .ok (.iconst 0, 1) := by decide +kernel
theorem dX3_ends_13 : decode cX3_ends 13 = .ok (.istore_n 3, 1) := by decide +kernel
theorem dX3_ends_14 : decode cX3_ends 14 = .ok (.iload_n 3, 1) := by decide +kernel
theorem dX3_ends_15 : decode cX3_ends 15 = .ok (.aload_n 0, 1) := by decide +kernel
theorem dX3_ends_16 : decode cX3_ends 16 = .ok (.getfield 51, 3) := by decide +kernel
theorem dX3_ends_19 : decode cX3_ends 19 = .ok (.if_icmp .ge 24, 3) := by decide +kernel
theorem dX3_ends_22 : decode cX3_ends 22 = .ok (.iload_n 2, 1) := by decide +kernel
theorem dX3_ends_23 : decode cX3_ends 23 = .ok (.aload_n 0, 1) := by decide +kernel
theorem dX3_ends_24 : decode cX3_ends 24 = .ok (.iload_n 3, 1) := by decide +kernel
theorem dX3_ends_25 : decode cX3_ends 25 = .ok (.aload_n 0, 1) := by decide +kernel
theorem dX3_ends_26 : decode cX3_ends 26 = .ok (.getfield 39, 3) := by decide +kernel
theorem dX3_ends_29 : decode cX3_ends 29 = .ok (.iload_n 3, 1) := by decide +kernel
theorem dX3_ends_30 : decode cX3_ends 30 = .ok (.aaload, 1) := by decide +kernel
theorem dX3_ends_31 : decode cX3_ends 31 = .ok (.iload_n 1, 1) := by decide +kernel
theorem dX3_ends_32 : decode cX3_ends 32 = .ok (.invokevirtual 148, 3) := by decide +kernel
theorem dX3_ends_35 : decode cX3_ends 35 = .ok (.iadd, 1) := by decide +kernel
theorem dX3_ends_36 : decode cX3_ends 36 = .ok (.istore_n 2, 1) := by decide +kernel
theorem dX3_ends_37 : decode cX3_ends 37 = .ok (.iinc 3 1, 3) := by decide +kernel
theorem dX3_ends_40 : decode cX3_ends 40 = .ok (.goto (-26), 3) := by decide +kernel
theorem dX3_ends_43 : decode cX3_ends 43 = .ok (.iload_n 2, 1) := by decide +kernel
theorem dX3_ends_44 : decode cX3_ends 44 = .ok (.ireturn, 1) := by decide +kernel
theorem dX3_those_0 : decode cX3_those 0 = .ok (.aload_n 0, 1) := by decide +kernel
theorem dX3_those_1 : decode cX3_those 1 = .ok (.iload_n 1, 1) := by decide +kernel
theorem dX3_those_2 : decode cX3_those 2 = .ok (.invokevirtual 109, 3) := by decide +kernel
theorem dX3_those_5 : decode cX3_those 5 = .ok (.ifCond .ne 5, 3) := by decide +kernel
theorem dX3_those_8 : decode cX3_those 8 = .ok (.iconst (-1), 1) := by decide +kernel
theorem dX3_those_9 : decode cX3_those 9 = .ok (.ireturn, 1) := by decide +kernel
theorem dX3_those_10 : decode cX3_those 10 = .ok (.iload_n 2, 1) := by decide +kernel
theorem dX3_those_11 : decode cX3_those 11 = .ok (.invokestatic 145, 3) := by decide +kernel
theorem dX3_those_14 : decode cX3_those 14 = .ok (.ifCond .ne 6, 3) := by decide +kernel
theorem dX3_those_17 : decode cX3_those 17 = .ok (.bipush (-2), 2) := by decide +kernel
theorem dX3_those_19 : decode cX3_those 19 = .ok (.ireturn, 1) := by decide +kernel
theorem dX3_those_20 : decode cX3_those 20 = .ok (.iconst 0, 1) := by decide +kernel
theorem dX3_those_21 : decode cX3_those 21 = .ok (.istore_n 3, 1) := by decide +kernel
theorem dX3_those_22 : decode cX3_those 22 = .ok (.iconst 0, 1) := by decide +kernel
theorem dX3_those_23 : decode cX3_those 23 = .ok (.istore 4, 2) := by decide +kernel
theorem dX3_those_25 : decode cX3_those 25 = .ok (.iload 4, 2) := by decide +kernel
theorem dX3_those_27 : decode cX3_those 27 = .ok (.bipush 10, 2) := by decide +kernel
theorem dX3_those_29 : decode cX3_those 29 = .ok (.if_icmp .ge 52, 3) := by decide +kernel
theorem dX3_those_32 : decode cX3_those 32 = .ok (.aload_n 0, 1) := by decide +kernel
theorem dX3_those_33 : decode cX3_those 33 = .ok (.getfield 26, 3) := by decide +kernel
theorem dX3_those_36 : decode cX3_those 36 = .ok (.aload_n 0, 1) := by decide +kernel
theorem dX3_those_37 : decode cX3_those 37 = .ok (.getfield 12, 3) := by decide +kernel
theorem dX3_those_40 : decode cX3_those 40 = .ok (.iload 4, 2) := by decide +kernel
theorem dX3_those_42 : decode cX3_those 42 = .ok (.aload_n 0, 1) := by decide +kernel
theorem dX3_those_43 : decode cX3_those 43 = .ok (.getfield 33, 3) := by decide +kernel
theorem dX3_those_46 : decode cX3_those 46 = .ok (.iload_n 1, 1) := by decide +kernel
theorem dX3_those_47 : decode cX3_those 47 = .ok (.iaload, 1) := by decide +kernel
theorem dX3_those_48 : decode cX3_those 48 = .ok (.aload_n 0, 1) := by decide +kernel
theorem dX3_those_49 : decode cX3_those 49 = .ok (.getfield 39, 3) := by decide +kernel
theorem dX3_those_52 : decode cX3_those 52 = .ok (.iload_n 1, 1) := by decide +kernel
theorem dX3_those_53 : decode cX3_those 53 = .ok (.aaload, 1) := by decide +kernel
theorem dX3_those_54 : decode cX3_those 54 = .ok (.invokevirtual 128, 3) := by decide +kernel
theorem dX3_those_57 : decode cX3_those 57 = .ok (.aload_n 0, 1) := by decide +kernel
theorem dX3_those_58 : decode cX3_those 58 = .ok (.getfield 26, 3) := by decide +kernel
theorem dX3_those_61 : decode cX3_those 61 = .ok (.getfield 132, 3) := by decide +kernel
theorem dX3_those_64 : decode cX3_those 64 = .ok (.iload_n 2, 1) := by decide +kernel
theorem dX3_those_65 : decode cX3_those 65 = .ok (.if_icmp .ne 10, 3) := by decide +kernel
theorem dX3_those_68 : decode cX3_those 68 = .ok (.iload_n 3, 1) := by decide +kernel
theorem dX3_those_69 : decode cX3_those 69 = .ok (.iconst 1, 1) := by decide +kernel
theorem dX3_those_70 : decode cX3_those 70 = .ok (.iload 4, 2) := by decide +kernel
theorem dX3_those_72 : decode cX3_those 72 = .ok (.ishl, 1) := by decide +kernel
theorem dX3_those_73 : decode cX3_those 73 = .ok (.ior, 1) := by decide +kernel
theorem dX3_those_74 : decode cX3_those 74 = .ok (.istore_n 3, 1) := by decide +kernel
theorem dX3_those_75 : decode cX3_those 75 = .ok (.iinc 4 1, 3) := by decide +kernel
theorem dX3_those_78 : decode cX3_those 78 = .ok (.goto (-53), 3) := by decide +kernel
theorem dX3_those_81 : decode cX3_those 81 = .ok (.iload_n 3, 1) := by decide +kernel
theorem dX3_those_82 : decode cX3_those 82 = .ok (.ireturn, 1) := by decide +kernel
theorem dX3_idle_0 : decode cX3_idle 0 = .ok (.iload_n 1, 1) := by decide +kernel
theorem dX3_idle_1 : decode cX3_idle 1 = .ok (.invokestatic 70, 3) := by decide +kernel
theorem dX3_idle_4 : decode cX3_idle 4 = .ok (.ifCond .ne 5, 3) := by decide +kernel
theorem dX3_idle_7 : decode cX3_idle 7 = .ok (.iconst (-1), 1) := by decide +kernel
theorem dX3_idle_8 : decode cX3_idle 8 = .ok (.ireturn, 1) := by decide +kernel
theorem dX3_idle_9 : decode cX3_idle 9 = .ok (.iconst 0, 1) := by decide +kernel
theorem dX3_idle_10 : decode cX3_idle 10 = .ok (.istore_n 2, 1) := by decide +kernel
theorem dX3_idle_11 : decode cX3_idle 11 = .ok (.iconst 0, 1) := by decide +kernel
theorem dX3_idle_12 : decode cX3_idle 12 = .ok (.istore_n 3, 1) := by decide +kernel
theorem dX3_idle_13 : decode cX3_idle 13 = .ok (.iload_n 3, 1) := by decide +kernel
theorem dX3_idle_14 : decode cX3_idle 14 = .ok (.aload_n 0, 1) := by decide +kernel
theorem dX3_idle_15 : decode cX3_idle 15 = .ok (.getfield 51, 3) := by decide +kernel
theorem dX3_idle_18 : decode cX3_idle 18 = .ok (.if_icmp .ge 37, 3) := by decide +kernel
theorem dX3_idle_21 : decode cX3_idle 21 = .ok (.aload_n 0, 1) := by decide +kernel
theorem dX3_idle_22 : decode cX3_idle 22 = .ok (.getfield 39, 3) := by decide +kernel
theorem dX3_idle_25 : decode cX3_idle 25 = .ok (.iload_n 3, 1) := by decide +kernel
theorem dX3_idle_26 : decode cX3_idle 26 = .ok (.aaload, 1) := by decide +kernel
theorem dX3_idle_27 : decode cX3_idle 27 = .ok (.iload_n 1, 1) := by decide +kernel
theorem dX3_idle_28 : decode cX3_idle 28 = .ok (.iaload, 1) := by decide +kernel
theorem dX3_idle_29 : decode cX3_idle 29 = .ok (.bipush (-9), 2) := by decide +kernel
theorem dX3_idle_31 : decode cX3_idle 31 = .ok (.if_icmp .eq 18, 3) := by decide +kernel
theorem dX3_idle_34 : decode cX3_idle 34 = .ok (.aload_n 0, 1) := by decide +kernel
theorem dX3_idle_35 : decode cX3_idle 35 = .ok (.iload_n 1, 1) := by decide +kernel
theorem dX3_idle_36 : decode cX3_idle 36 = .ok (.iload_n 3, 1) := by decide +kernel
theorem dX3_idle_37 : decode cX3_idle 37 = .ok (.invokevirtual 152, 3) := by decide +kernel
theorem dX3_idle_40 : decode cX3_idle 40 = .ok (.ifCond .eq 9, 3) := by decide +kernel
theorem dX3_idle_43 : decode cX3_idle 43 = .ok (.iload_n 2, 1) := by decide +kernel
theorem dX3_idle_44 : decode cX3_idle 44 = .ok (.iconst 1, 1) := by decide +kernel
theorem dX3_idle_45 : decode cX3_idle 45 = .ok (.iload_n 3, 1) := by decide +kernel
theorem dX3_idle_46 : decode cX3_idle 46 = .ok (.ishl, 1) := by decide +kernel
theorem dX3_idle_47 : decode cX3_idle 47 = .ok (.ior, 1) := by decide +kernel
theorem dX3_idle_48 : decode cX3_idle 48 = .ok (.istore_n 2, 1) := by decide +kernel
theorem dX3_idle_49 : decode cX3_idle 49 = .ok (.iinc 3 1, 3) := by decide +kernel
theorem dX3_idle_52 : decode cX3_idle 52 = .ok (.goto (-39), 3) := by decide +kernel
theorem dX3_idle_55 : decode cX3_idle 55 = .ok (.iload_n 2, 1) := by decide +kernel
theorem dX3_idle_56 : decode cX3_idle 56 = .ok (.ireturn, 1) := by decide +kernel
theorem dX3_mend_0 : decode cX3_mend 0 = .ok (.iload_n 1, 1) := by decide +kernel
theorem dX3_mend_1 : decode cX3_mend 1 = .ok (.ifCond .lt 8, 3) := by decide +kernel
theorem dX3_mend_4 : decode cX3_mend 4 = .ok (.iload_n 1, 1) := by decide +kernel
theorem dX3_mend_5 : decode cX3_mend 5 = .ok (.iconst 2, 1) := by decide +kernel
theorem dX3_mend_6 : decode cX3_mend 6 = .ok (.if_icmp .le 6, 3) := by decide +kernel
theorem dX3_mend_9 : decode cX3_mend 9 = .ok (.bipush (-2), 2) := by decide +kernel
theorem dX3_mend_11 : decode cX3_mend 11 = .ok (.ireturn, 1) := by decide +kernel
theorem dX3_mend_12 : decode cX3_mend 12 = .ok (.aload_n 0, 1) := by decide +kernel
theorem dX3_mend_13 : decode cX3_mend 13 = .ok (.invokevirtual 155, 3) := by decide +kernel
theorem dX3_mend_16 : decode cX3_mend 16 = .ok (.iload_n 1, 1) := by decide +kernel
theorem dX3_mend_17 : decode cX3_mend 17 = .ok (.lookupswitch 37 #[(0, 27), (1, 32)], 27) := by decide +kernel
theorem dX3_mend_44 : decode cX3_mend 44 = .ok (.aload_n 0, 1) := by decide +kernel
theorem dX3_mend_45 : decode cX3_mend 45 = .ok (.getfield 61, 3) := by decide +kernel
theorem dX3_mend_48 : decode cX3_mend 48 = .ok (.ireturn, 1) := by decide +kernel
theorem dX3_mend_49 : decode cX3_mend 49 = .ok (.aload_n 0, 1) := by decide +kernel
theorem dX3_mend_50 : decode cX3_mend 50 = .ok (.getfield 64, 3) := by decide +kernel
theorem dX3_mend_53 : decode cX3_mend 53 = .ok (.ireturn, 1) := by decide +kernel
theorem dX3_mend_54 : decode cX3_mend 54 = .ok (.aload_n 0, 1) := by decide +kernel
theorem dX3_mend_55 : decode cX3_mend 55 = .ok (.getfield 67, 3) := by decide +kernel
theorem dX3_mend_58 : decode cX3_mend 58 = .ok (.ireturn, 1) := by decide +kernel
theorem dX3_leads_0 : decode cX3_leads 0 = .ok (.aload_n 0, 1) := by decide +kernel
theorem dX3_leads_1 : decode cX3_leads 1 = .ok (.iload_n 2, 1) := by decide +kernel
theorem dX3_leads_2 : decode cX3_leads 2 = .ok (.invokevirtual 109, 3) := by decide +kernel
theorem dX3_leads_5 : decode cX3_leads 5 = .ok (.ifCond .ne 5, 3) := by decide +kernel
theorem dX3_leads_8 : decode cX3_leads 8 = .ok (.iconst (-1), 1) := by decide +kernel
theorem dX3_leads_9 : decode cX3_leads 9 = .ok (.ireturn, 1) := by decide +kernel
theorem dX3_leads_10 : decode cX3_leads 10 = .ok (.iload_n 1, 1) := by decide +kernel
theorem dX3_leads_11 : decode cX3_leads 11 = .ok (.ifCond .lt 10, 3) := by decide +kernel
theorem dX3_leads_14 : decode cX3_leads 14 = .ok (.iload_n 1, 1) := by decide +kernel
theorem dX3_leads_15 : decode cX3_leads 15 = .ok (.sipush 1023, 3) := by decide +kernel
theorem dX3_leads_18 : decode cX3_leads 18 = .ok (.if_icmp .le 6, 3) := by decide +kernel
theorem dX3_leads_21 : decode cX3_leads 21 = .ok (.bipush (-2), 2) := by decide +kernel
theorem dX3_leads_23 : decode cX3_leads 23 = .ok (.ireturn, 1) := by decide +kernel
theorem dX3_leads_24 : decode cX3_leads 24 = .ok (.aload_n 0, 1) := by decide +kernel
theorem dX3_leads_25 : decode cX3_leads 25 = .ok (.getfield 19, 3) := by decide +kernel
theorem dX3_leads_28 : decode cX3_leads 28 = .ok (.aload_n 0, 1) := by decide +kernel
theorem dX3_leads_29 : decode cX3_leads 29 = .ok (.getfield 12, 3) := by decide +kernel
theorem dX3_leads_32 : decode cX3_leads 32 = .ok (.iload_n 2, 1) := by decide +kernel
theorem dX3_leads_33 : decode cX3_leads 33 = .ok (.aload_n 0, 1) := by decide +kernel
theorem dX3_leads_34 : decode cX3_leads 34 = .ok (.getfield 33, 3) := by decide +kernel
theorem dX3_leads_37 : decode cX3_leads 37 = .ok (.iload_n 2, 1) := by decide +kernel
theorem dX3_leads_38 : decode cX3_leads 38 = .ok (.iaload, 1) := by decide +kernel
theorem dX3_leads_39 : decode cX3_leads 39 = .ok (.invokevirtual 115, 3) := by decide +kernel
theorem dX3_leads_42 : decode cX3_leads 42 = .ok (.aload_n 0, 1) := by decide +kernel
theorem dX3_leads_43 : decode cX3_leads 43 = .ok (.iload_n 1, 1) := by decide +kernel
theorem dX3_leads_44 : decode cX3_leads 44 = .ok (.iload_n 2, 1) := by decide +kernel
theorem dX3_leads_45 : decode cX3_leads 45 = .ok (.invokevirtual 158, 3) := by decide +kernel
theorem dX3_leads_48 : decode cX3_leads 48 = .ok (.ifCond .eq 7, 3) := by decide +kernel
theorem dX3_leads_51 : decode cX3_leads 51 = .ok (.iconst 1, 1) := by decide +kernel
theorem dX3_leads_52 : decode cX3_leads 52 = .ok (.goto 4, 3) := by decide +kernel
theorem dX3_leads_55 : decode cX3_leads 55 = .ok (.iconst 0, 1) := by decide +kernel
theorem dX3_leads_56 : decode cX3_leads 56 = .ok (.ireturn, 1) := by decide +kernel
theorem dX3_fewest_0 : decode cX3_fewest 0 = .ok (.aload_n 0, 1) := by decide +kernel
theorem dX3_fewest_1 : decode cX3_fewest 1 = .ok (.iload_n 1, 1) := by decide +kernel
theorem dX3_fewest_2 : decode cX3_fewest 2 = .ok (.invokevirtual 109, 3) := by decide +kernel
theorem dX3_fewest_5 : decode cX3_fewest 5 = .ok (.ifCond .ne 5, 3) := by decide +kernel
theorem dX3_fewest_8 : decode cX3_fewest 8 = .ok (.iconst (-1), 1) := by decide +kernel
theorem dX3_fewest_9 : decode cX3_fewest 9 = .ok (.ireturn, 1) := by decide +kernel
theorem dX3_fewest_10 : decode cX3_fewest 10 = .ok (.aload_n 0, 1) := by decide +kernel
theorem dX3_fewest_11 : decode cX3_fewest 11 = .ok (.iload_n 1, 1) := by decide +kernel
theorem dX3_fewest_12 : decode cX3_fewest 12 = .ok (.iload_n 1, 1) := by decide +kernel
theorem dX3_fewest_13 : decode cX3_fewest 13 = .ok (.iconst 1, 1) := by decide +kernel
theorem dX3_fewest_14 : decode cX3_fewest 14 = .ok (.iadd, 1) := by decide +kernel
theorem dX3_fewest_15 : decode cX3_fewest 15 = .ok (.invokevirtual 161, 3) := by decide +kernel
theorem dX3_fewest_18 : decode cX3_fewest 18 = .ok (.ireturn, 1) := by decide +kernel
theorem dX3_posts_0 : decode cX3_posts 0 = .ok (.aload_n 0, 1) := by decide +kernel
theorem dX3_posts_1 : decode cX3_posts 1 = .ok (.iconst 0, 1) := by decide +kernel
theorem dX3_posts_2 : decode cX3_posts 2 = .ok (.aload_n 0, 1) := by decide +kernel
theorem dX3_posts_3 : decode cX3_posts 3 = .ok (.getfield 51, 3) := by decide +kernel
theorem dX3_posts_6 : decode cX3_posts 6 = .ok (.invokevirtual 161, 3) := by decide +kernel
theorem dX3_posts_9 : decode cX3_posts 9 = .ok (.ireturn, 1) := by decide +kernel
theorem dX3_many_0 : decode cX3_many 0 = .ok (.iload_n 1, 1) := by decide +kernel
theorem dX3_many_1 : decode cX3_many 1 = .ok (.tableswitch 90 0 6 #[43, 51, 59, 64, 72, 77, 85], 43) := by decide +kernel
theorem dX3_many_44 : decode cX3_many 44 = .ok (.aload_n 0, 1) := by decide +kernel
theorem dX3_many_45 : decode cX3_many 45 = .ok (.getfield 12, 3) := by decide +kernel
theorem dX3_many_48 : decode cX3_many 48 = .ok (.getfield 78, 3) := by decide +kernel
theorem dX3_many_51 : decode cX3_many 51 = .ok (.ireturn, 1) := by decide +kernel
theorem dX3_many_52 : decode cX3_many 52 = .ok (.aload_n 0, 1) := by decide +kernel
theorem dX3_many_53 : decode cX3_many 53 = .ok (.getfield 12, 3) := by decide +kernel
theorem dX3_many_56 : decode cX3_many 56 = .ok (.invokevirtual 165, 3) := by decide +kernel
theorem dX3_many_59 : decode cX3_many 59 = .ok (.ireturn, 1) := by decide +kernel
theorem dX3_many_60 : decode cX3_many 60 = .ok (.aload_n 0, 1) := by decide +kernel
theorem dX3_many_61 : decode cX3_many 61 = .ok (.getfield 51, 3) := by decide +kernel
theorem dX3_many_64 : decode cX3_many 64 = .ok (.ireturn, 1) := by decide +kernel
theorem dX3_many_65 : decode cX3_many 65 = .ok (.aload_n 0, 1) := by decide +kernel
theorem dX3_many_66 : decode cX3_many 66 = .ok (.getfield 55, 3) := by decide +kernel
theorem dX3_many_69 : decode cX3_many 69 = .ok (.invokestatic 168, 3) := by decide +kernel
theorem dX3_many_72 : decode cX3_many 72 = .ok (.ireturn, 1) := by decide +kernel
theorem dX3_many_73 : decode cX3_many 73 = .ok (.aload_n 0, 1) := by decide +kernel
theorem dX3_many_74 : decode cX3_many 74 = .ok (.invokevirtual 173, 3) := by decide +kernel
theorem dX3_many_77 : decode cX3_many 77 = .ok (.ireturn, 1) := by decide +kernel
theorem dX3_many_78 : decode cX3_many 78 = .ok (.aload_n 0, 1) := by decide +kernel
theorem dX3_many_79 : decode cX3_many 79 = .ok (.invokevirtual 176, 3) := by decide +kernel
theorem dX3_many_82 : decode cX3_many 82 = .ok (.invokestatic 168, 3) := by decide +kernel
theorem dX3_many_85 : decode cX3_many 85 = .ok (.ireturn, 1) := by decide +kernel
theorem dX3_many_86 : decode cX3_many 86 = .ok (.aload_n 0, 1) := by decide +kernel
theorem dX3_many_87 : decode cX3_many 87 = .ok (.getfield 58, 3) := by decide +kernel
theorem dX3_many_90 : decode cX3_many 90 = .ok (.ireturn, 1) := by decide +kernel
theorem dX3_many_91 : decode cX3_many 91 = .ok (.bipush (-2), 2) := by decide +kernel
theorem dX3_many_93 : decode cX3_many 93 = .ok (.ireturn, 1) := by decide +kernel
theorem dX3_isPlace_0 : decode cX3_isPlace 0 = .ok (.iload_n 0, 1) := by decide +kernel
theorem dX3_isPlace_1 : decode cX3_isPlace 1 = .ok (.ifCond .lt 13, 3) := by decide +kernel
theorem dX3_isPlace_4 : decode cX3_isPlace 4 = .ok (.iload_n 0, 1) := by decide +kernel
theorem dX3_isPlace_5 : decode cX3_isPlace 5 = .ok (.bipush 10, 2) := by decide +kernel
theorem dX3_isPlace_7 : decode cX3_isPlace 7 = .ok (.if_icmp .ge 7, 3) := by decide +kernel
theorem dX3_isPlace_10 : decode cX3_isPlace 10 = .ok (.iconst 1, 1) := by decide +kernel
theorem dX3_isPlace_11 : decode cX3_isPlace 11 = .ok (.goto 4, 3) := by decide +kernel
theorem dX3_isPlace_14 : decode cX3_isPlace 14 = .ok (.iconst 0, 1) := by decide +kernel
theorem dX3_isPlace_15 : decode cX3_isPlace 15 = .ok (.ireturn, 1) := by decide +kernel
theorem dX3_isEnding_0 : decode cX3_isEnding 0 = .ok (.iload_n 0, 1) := by decide +kernel
theorem dX3_isEnding_1 : decode cX3_isEnding 1 = .ok (.ifCond .lt 12, 3) := by decide +kernel
theorem dX3_isEnding_4 : decode cX3_isEnding 4 = .ok (.iload_n 0, 1) := by decide +kernel
theorem dX3_isEnding_5 : decode cX3_isEnding 5 = .ok (.iconst 4, 1) := by decide +kernel
theorem dX3_isEnding_6 : decode cX3_isEnding 6 = .ok (.if_icmp .gt 7, 3) := by decide +kernel
theorem dX3_isEnding_9 : decode cX3_isEnding 9 = .ok (.iconst 1, 1) := by decide +kernel
theorem dX3_isEnding_10 : decode cX3_isEnding 10 = .ok (.goto 4, 3) := by decide +kernel
theorem dX3_isEnding_13 : decode cX3_isEnding 13 = .ok (.iconst 0, 1) := by decide +kernel
theorem dX3_isEnding_14 : decode cX3_isEnding 14 = .ok (.ireturn, 1) := by decide +kernel
theorem dX3_holds_0 : decode cX3_holds 0 = .ok (.iload_n 0, 1) := by decide +kernel
theorem dX3_holds_1 : decode cX3_holds 1 = .ok (.iload_n 1, 1) := by decide +kernel
theorem dX3_holds_2 : decode cX3_holds 2 = .ok (.ishr, 1) := by decide +kernel
theorem dX3_holds_3 : decode cX3_holds 3 = .ok (.iconst 1, 1) := by decide +kernel
theorem dX3_holds_4 : decode cX3_holds 4 = .ok (.iand, 1) := by decide +kernel
theorem dX3_holds_5 : decode cX3_holds 5 = .ok (.ifCond .eq 7, 3) := by decide +kernel
theorem dX3_holds_8 : decode cX3_holds 8 = .ok (.iconst 1, 1) := by decide +kernel
theorem dX3_holds_9 : decode cX3_holds 9 = .ok (.goto 4, 3) := by decide +kernel
theorem dX3_holds_12 : decode cX3_holds 12 = .ok (.iconst 0, 1) := by decide +kernel
theorem dX3_holds_13 : decode cX3_holds 13 = .ok (.ireturn, 1) := by decide +kernel
theorem dX3_isName_0 : decode cX3_isName 0 = .ok (.iload_n 1, 1) := by decide +kernel
theorem dX3_isName_1 : decode cX3_isName 1 = .ok (.ifCond .lt 15, 3) := by decide +kernel
theorem dX3_isName_4 : decode cX3_isName 4 = .ok (.iload_n 1, 1) := by decide +kernel
theorem dX3_isName_5 : decode cX3_isName 5 = .ok (.aload_n 0, 1) := by decide +kernel
theorem dX3_isName_6 : decode cX3_isName 6 = .ok (.getfield 51, 3) := by decide +kernel
theorem dX3_isName_9 : decode cX3_isName 9 = .ok (.if_icmp .ge 7, 3) := by decide +kernel
theorem dX3_isName_12 : decode cX3_isName 12 = .ok (.iconst 1, 1) := by decide +kernel
theorem dX3_isName_13 : decode cX3_isName 13 = .ok (.goto 4, 3) := by decide +kernel
theorem dX3_isName_16 : decode cX3_isName 16 = .ok (.iconst 0, 1) := by decide +kernel
theorem dX3_isName_17 : decode cX3_isName 17 = .ok (.ireturn, 1) := by decide +kernel
theorem dX3_countBoards_0 : decode cX3_countBoards 0 = .ok (.iconst 0, 1) := by decide +kernel
theorem dX3_countBoards_1 : decode cX3_countBoards 1 = .ok (.istore_n 1, 1) := by decide +kernel
theorem dX3_countBoards_2 : decode cX3_countBoards 2 = .ok (.iconst 0, 1) := by decide +kernel
theorem dX3_countBoards_3 : decode cX3_countBoards 3 = .ok (.istore_n 2, 1) := by decide +kernel
theorem dX3_countBoards_4 : decode cX3_countBoards 4 = .ok (.iload_n 2, 1) := by decide +kernel
theorem dX3_countBoards_5 : decode cX3_countBoards 5 = .ok (.aload_n 0, 1) := by decide +kernel
theorem dX3_countBoards_6 : decode cX3_countBoards 6 = .ok (.getfield 51, 3) := by decide +kernel
theorem dX3_countBoards_9 : decode cX3_countBoards 9 = .ok (.if_icmp .ge 20, 3) := by decide +kernel
theorem dX3_countBoards_12 : decode cX3_countBoards 12 = .ok (.iload_n 1, 1) := by decide +kernel
theorem dX3_countBoards_13 : decode cX3_countBoards 13 = .ok (.aload_n 0, 1) := by decide +kernel
theorem dX3_countBoards_14 : decode cX3_countBoards 14 = .ok (.iload_n 2, 1) := by decide +kernel
theorem dX3_countBoards_15 : decode cX3_countBoards 15 = .ok (.invokevirtual 179, 3) := by decide +kernel
theorem dX3_countBoards_18 : decode cX3_countBoards 18 = .ok (.invokestatic 168, 3) := by decide +kernel
theorem dX3_countBoards_21 : decode cX3_countBoards 21 = .ok (.iadd, 1) := by decide +kernel
theorem dX3_countBoards_22 : decode cX3_countBoards 22 = .ok (.istore_n 1, 1) := by decide +kernel
theorem dX3_countBoards_23 : decode cX3_countBoards 23 = .ok (.iinc 2 1, 3) := by decide +kernel
theorem dX3_countBoards_26 : decode cX3_countBoards 26 = .ok (.goto (-22), 3) := by decide +kernel
theorem dX3_countBoards_29 : decode cX3_countBoards 29 = .ok (.iload_n 1, 1) := by decide +kernel
theorem dX3_countBoards_30 : decode cX3_countBoards 30 = .ok (.ireturn, 1) := by decide +kernel
theorem dX3_boardedPlaces_0 : decode cX3_boardedPlaces 0 = .ok (.iconst 0, 1) := by decide +kernel
theorem dX3_boardedPlaces_1 : decode cX3_boardedPlaces 1 = .ok (.istore_n 1, 1) := by decide +kernel
theorem dX3_boardedPlaces_2 : decode cX3_boardedPlaces 2 = .ok (.iconst 0, 1) := by decide +kernel
theorem dX3_boardedPlaces_3 : decode cX3_boardedPlaces 3 = .ok (.istore_n 2, 1) := by decide +kernel
theorem dX3_boardedPlaces_4 : decode cX3_boardedPlaces 4 = .ok (.iload_n 2, 1) := by decide +kernel
theorem dX3_boardedPlaces_5 : decode cX3_boardedPlaces 5 = .ok (.aload_n 0, 1) := by decide +kernel
theorem dX3_boardedPlaces_6 : decode cX3_boardedPlaces 6 = .ok (.getfield 51, 3) := by decide +kernel
theorem dX3_boardedPlaces_9 : decode cX3_boardedPlaces 9 = .ok (.if_icmp .ge 17, 3) := by decide +kernel
theorem dX3_boardedPlaces_12 : decode cX3_boardedPlaces 12 = .ok (.iload_n 1, 1) := by decide +kernel
theorem dX3_boardedPlaces_13 : decode cX3_boardedPlaces 13 = .ok (.aload_n 0, 1) := by decide +kernel
theorem dX3_boardedPlaces_14 : decode cX3_boardedPlaces 14 = .ok (.iload_n 2, 1) := by decide +kernel
theorem dX3_boardedPlaces_15 : decode cX3_boardedPlaces 15 = .ok (.invokevirtual 179, 3) := by decide +kernel
theorem dX3_boardedPlaces_18 : decode cX3_boardedPlaces 18 = .ok (.ior, 1) := by decide +kernel
theorem dX3_boardedPlaces_19 : decode cX3_boardedPlaces 19 = .ok (.istore_n 1, 1) := by decide +kernel
theorem dX3_boardedPlaces_20 : decode cX3_boardedPlaces 20 = .ok (.iinc 2 1, 3) := by decide +kernel
theorem dX3_boardedPlaces_23 : decode cX3_boardedPlaces 23 = .ok (.goto (-19), 3) := by decide +kernel
theorem dX3_boardedPlaces_26 : decode cX3_boardedPlaces 26 = .ok (.iload_n 1, 1) := by decide +kernel
theorem dX3_boardedPlaces_27 : decode cX3_boardedPlaces 27 = .ok (.ireturn, 1) := by decide +kernel
theorem dX3_boardedFor_0 : decode cX3_boardedFor 0 = .ok (.iconst 0, 1) := by decide +kernel
theorem dX3_boardedFor_1 : decode cX3_boardedFor 1 = .ok (.istore_n 2, 1) := by decide +kernel
theorem dX3_boardedFor_2 : decode cX3_boardedFor 2 = .ok (.iconst 0, 1) := by decide +kernel
theorem dX3_boardedFor_3 : decode cX3_boardedFor 3 = .ok (.istore_n 3, 1) := by decide +kernel
theorem dX3_boardedFor_4 : decode cX3_boardedFor 4 = .ok (.iload_n 3, 1) := by decide +kernel
theorem dX3_boardedFor_5 : decode cX3_boardedFor 5 = .ok (.bipush 10, 2) := by decide +kernel
theorem dX3_boardedFor_7 : decode cX3_boardedFor 7 = .ok (.if_icmp .ge 28, 3) := by decide +kernel
theorem dX3_boardedFor_10 : decode cX3_boardedFor 10 = .ok (.aload_n 0, 1) := by decide +kernel
theorem dX3_boardedFor_11 : decode cX3_boardedFor 11 = .ok (.getfield 39, 3) := by decide +kernel
theorem dX3_boardedFor_14 : decode cX3_boardedFor 14 = .ok (.iload_n 1, 1) := by decide +kernel
theorem dX3_boardedFor_15 : decode cX3_boardedFor 15 = .ok (.aaload, 1) := by decide +kernel
theorem dX3_boardedFor_16 : decode cX3_boardedFor 16 = .ok (.iload_n 3, 1) := by decide +kernel
theorem dX3_boardedFor_17 : decode cX3_boardedFor 17 = .ok (.iaload, 1) := by decide +kernel
theorem dX3_boardedFor_18 : decode cX3_boardedFor 18 = .ok (.bipush (-9), 2) := by decide +kernel
theorem dX3_boardedFor_20 : decode cX3_boardedFor 20 = .ok (.if_icmp .eq 9, 3) := by decide +kernel
theorem dX3_boardedFor_23 : decode cX3_boardedFor 23 = .ok (.iload_n 2, 1) := by decide +kernel
theorem dX3_boardedFor_24 : decode cX3_boardedFor 24 = .ok (.iconst 1, 1) := by decide +kernel
theorem dX3_boardedFor_25 : decode cX3_boardedFor 25 = .ok (.iload_n 3, 1) := by decide +kernel
theorem dX3_boardedFor_26 : decode cX3_boardedFor 26 = .ok (.ishl, 1) := by decide +kernel
theorem dX3_boardedFor_27 : decode cX3_boardedFor 27 = .ok (.ior, 1) := by decide +kernel
theorem dX3_boardedFor_28 : decode cX3_boardedFor 28 = .ok (.istore_n 2, 1) := by decide +kernel
theorem dX3_boardedFor_29 : decode cX3_boardedFor 29 = .ok (.iinc 3 1, 3) := by decide +kernel
theorem dX3_boardedFor_32 : decode cX3_boardedFor 32 = .ok (.goto (-28), 3) := by decide +kernel
theorem dX3_boardedFor_35 : decode cX3_boardedFor 35 = .ok (.iload_n 2, 1) := by decide +kernel
theorem dX3_boardedFor_36 : decode cX3_boardedFor 36 = .ok (.ireturn, 1) := by decide +kernel
theorem dX3_countEndings_0 : decode cX3_countEndings 0 = .ok (.iconst 0, 1) := by decide +kernel
theorem dX3_countEndings_1 : decode cX3_countEndings 1 = .ok (.istore 4, 2) := by decide +kernel
theorem dX3_countEndings_3 : decode cX3_countEndings 3 = .ok (.iconst 0, 1) := by decide +kernel
theorem dX3_countEndings_4 : decode cX3_countEndings 4 = .ok (.istore 5, 2) := by decide +kernel
theorem dX3_countEndings_6 : decode cX3_countEndings 6 = .ok (.iload 5, 2) := by decide +kernel
theorem dX3_countEndings_8 : decode cX3_countEndings 8 = .ok (.bipush 10, 2) := by decide +kernel
theorem dX3_countEndings_10 : decode cX3_countEndings 10 = .ok (.if_icmp .ge 55, 3) := by decide +kernel
theorem dX3_countEndings_13 : decode cX3_countEndings 13 = .ok (.aload_n 0, 1) := by decide +kernel
theorem dX3_countEndings_14 : decode cX3_countEndings 14 = .ok (.getfield 55, 3) := by decide +kernel
theorem dX3_countEndings_17 : decode cX3_countEndings 17 = .ok (.iload 5, 2) := by decide +kernel
theorem dX3_countEndings_19 : decode cX3_countEndings 19 = .ok (.invokestatic 112, 3) := by decide +kernel
theorem dX3_countEndings_22 : decode cX3_countEndings 22 = .ok (.ifCond .eq 37, 3) := by decide +kernel
theorem dX3_countEndings_25 : decode cX3_countEndings 25 = .ok (.aload_n 0, 1) := by decide +kernel
theorem dX3_countEndings_26 : decode cX3_countEndings 26 = .ok (.getfield 26, 3) := by decide +kernel
theorem dX3_countEndings_29 : decode cX3_countEndings 29 = .ok (.aload_n 0, 1) := by decide +kernel
theorem dX3_countEndings_30 : decode cX3_countEndings 30 = .ok (.getfield 12, 3) := by decide +kernel
theorem dX3_countEndings_33 : decode cX3_countEndings 33 = .ok (.iload 5, 2) := by decide +kernel
theorem dX3_countEndings_35 : decode cX3_countEndings 35 = .ok (.aload_n 0, 1) := by decide +kernel
theorem dX3_countEndings_36 : decode cX3_countEndings 36 = .ok (.getfield 33, 3) := by decide +kernel
theorem dX3_countEndings_39 : decode cX3_countEndings 39 = .ok (.iload_n 1, 1) := by decide +kernel
theorem dX3_countEndings_40 : decode cX3_countEndings 40 = .ok (.iaload, 1) := by decide +kernel
theorem dX3_countEndings_41 : decode cX3_countEndings 41 = .ok (.aload_n 2, 1) := by decide +kernel
theorem dX3_countEndings_42 : decode cX3_countEndings 42 = .ok (.invokevirtual 128, 3) := by decide +kernel
theorem dX3_countEndings_45 : decode cX3_countEndings 45 = .ok (.aload_n 0, 1) := by decide +kernel
theorem dX3_countEndings_46 : decode cX3_countEndings 46 = .ok (.getfield 26, 3) := by decide +kernel
theorem dX3_countEndings_49 : decode cX3_countEndings 49 = .ok (.getfield 132, 3) := by decide +kernel
theorem dX3_countEndings_52 : decode cX3_countEndings 52 = .ok (.iload_n 3, 1) := by decide +kernel
theorem dX3_countEndings_53 : decode cX3_countEndings 53 = .ok (.if_icmp .ne 6, 3) := by decide +kernel
theorem dX3_countEndings_56 : decode cX3_countEndings 56 = .ok (.iinc 4 1, 3) := by decide +kernel
theorem dX3_countEndings_59 : decode cX3_countEndings 59 = .ok (.iinc 5 1, 3) := by decide +kernel
theorem dX3_countEndings_62 : decode cX3_countEndings 62 = .ok (.goto (-56), 3) := by decide +kernel
theorem dX3_countEndings_65 : decode cX3_countEndings 65 = .ok (.iload 4, 2) := by decide +kernel
theorem dX3_countEndings_67 : decode cX3_countEndings 67 = .ok (.ireturn, 1) := by decide +kernel
theorem dX3_isIdle_0 : decode cX3_isIdle 0 = .ok (.aload_n 0, 1) := by decide +kernel
theorem dX3_isIdle_1 : decode cX3_isIdle 1 = .ok (.getfield 39, 3) := by decide +kernel
theorem dX3_isIdle_4 : decode cX3_isIdle 4 = .ok (.iload_n 2, 1) := by decide +kernel
theorem dX3_isIdle_5 : decode cX3_isIdle 5 = .ok (.aaload, 1) := by decide +kernel
theorem dX3_isIdle_6 : decode cX3_isIdle 6 = .ok (.iconst 0, 1) := by decide +kernel
theorem dX3_isIdle_7 : decode cX3_isIdle 7 = .ok (.aload_n 0, 1) := by decide +kernel
theorem dX3_isIdle_8 : decode cX3_isIdle 8 = .ok (.getfield 48, 3) := by decide +kernel
theorem dX3_isIdle_11 : decode cX3_isIdle 11 = .ok (.iconst 0, 1) := by decide +kernel
theorem dX3_isIdle_12 : decode cX3_isIdle 12 = .ok (.bipush 10, 2) := by decide +kernel
theorem dX3_isIdle_14 : decode cX3_isIdle 14 = .ok (.invokestatic 182, 3) := by decide +kernel
theorem dX3_isIdle_17 : decode cX3_isIdle 17 = .ok (.aload_n 0, 1) := by decide +kernel
theorem dX3_isIdle_18 : decode cX3_isIdle 18 = .ok (.getfield 48, 3) := by decide +kernel
theorem dX3_isIdle_21 : decode cX3_isIdle 21 = .ok (.iload_n 1, 1) := by decide +kernel
theorem dX3_isIdle_22 : decode cX3_isIdle 22 = .ok (.bipush (-9), 2) := by decide +kernel
theorem dX3_isIdle_24 : decode cX3_isIdle 24 = .ok (.iastore, 1) := by decide +kernel
theorem dX3_isIdle_25 : decode cX3_isIdle 25 = .ok (.iconst 0, 1) := by decide +kernel
theorem dX3_isIdle_26 : decode cX3_isIdle 26 = .ok (.istore_n 3, 1) := by decide +kernel
theorem dX3_isIdle_27 : decode cX3_isIdle 27 = .ok (.iload_n 3, 1) := by decide +kernel
theorem dX3_isIdle_28 : decode cX3_isIdle 28 = .ok (.bipush 10, 2) := by decide +kernel
theorem dX3_isIdle_30 : decode cX3_isIdle 30 = .ok (.if_icmp .ge 82, 3) := by decide +kernel
theorem dX3_isIdle_33 : decode cX3_isIdle 33 = .ok (.aload_n 0, 1) := by decide +kernel
theorem dX3_isIdle_34 : decode cX3_isIdle 34 = .ok (.getfield 55, 3) := by decide +kernel
theorem dX3_isIdle_37 : decode cX3_isIdle 37 = .ok (.iload_n 3, 1) := by decide +kernel
theorem dX3_isIdle_38 : decode cX3_isIdle 38 = .ok (.invokestatic 112, 3) := by decide +kernel
theorem dX3_isIdle_41 : decode cX3_isIdle 41 = .ok (.ifCond .eq 65, 3) := by decide +kernel
theorem dX3_isIdle_44 : decode cX3_isIdle 44 = .ok (.aload_n 0, 1) := by decide +kernel
theorem dX3_isIdle_45 : decode cX3_isIdle 45 = .ok (.getfield 26, 3) := by decide +kernel
theorem dX3_isIdle_48 : decode cX3_isIdle 48 = .ok (.aload_n 0, 1) := by decide +kernel
theorem dX3_isIdle_49 : decode cX3_isIdle 49 = .ok (.getfield 12, 3) := by decide +kernel
theorem dX3_isIdle_52 : decode cX3_isIdle 52 = .ok (.iload_n 3, 1) := by decide +kernel
theorem dX3_isIdle_53 : decode cX3_isIdle 53 = .ok (.aload_n 0, 1) := by decide +kernel
theorem dX3_isIdle_54 : decode cX3_isIdle 54 = .ok (.getfield 33, 3) := by decide +kernel
theorem dX3_isIdle_57 : decode cX3_isIdle 57 = .ok (.iload_n 2, 1) := by decide +kernel
theorem dX3_isIdle_58 : decode cX3_isIdle 58 = .ok (.iaload, 1) := by decide +kernel
theorem dX3_isIdle_59 : decode cX3_isIdle 59 = .ok (.aload_n 0, 1) := by decide +kernel
theorem dX3_isIdle_60 : decode cX3_isIdle 60 = .ok (.getfield 39, 3) := by decide +kernel
theorem dX3_isIdle_63 : decode cX3_isIdle 63 = .ok (.iload_n 2, 1) := by decide +kernel
theorem dX3_isIdle_64 : decode cX3_isIdle 64 = .ok (.aaload, 1) := by decide +kernel
theorem dX3_isIdle_65 : decode cX3_isIdle 65 = .ok (.invokevirtual 128, 3) := by decide +kernel
theorem dX3_isIdle_68 : decode cX3_isIdle 68 = .ok (.aload_n 0, 1) := by decide +kernel
theorem dX3_isIdle_69 : decode cX3_isIdle 69 = .ok (.getfield 30, 3) := by decide +kernel
theorem dX3_isIdle_72 : decode cX3_isIdle 72 = .ok (.aload_n 0, 1) := by decide +kernel
theorem dX3_isIdle_73 : decode cX3_isIdle 73 = .ok (.getfield 12, 3) := by decide +kernel
theorem dX3_isIdle_76 : decode cX3_isIdle 76 = .ok (.iload_n 3, 1) := by decide +kernel
theorem dX3_isIdle_77 : decode cX3_isIdle 77 = .ok (.aload_n 0, 1) := by decide +kernel
theorem dX3_isIdle_78 : decode cX3_isIdle 78 = .ok (.getfield 33, 3) := by decide +kernel
theorem dX3_isIdle_81 : decode cX3_isIdle 81 = .ok (.iload_n 2, 1) := by decide +kernel
theorem dX3_isIdle_82 : decode cX3_isIdle 82 = .ok (.iaload, 1) := by decide +kernel
theorem dX3_isIdle_83 : decode cX3_isIdle 83 = .ok (.aload_n 0, 1) := by decide +kernel
theorem dX3_isIdle_84 : decode cX3_isIdle 84 = .ok (.getfield 48, 3) := by decide +kernel
theorem dX3_isIdle_87 : decode cX3_isIdle 87 = .ok (.invokevirtual 128, 3) := by decide +kernel
theorem dX3_isIdle_90 : decode cX3_isIdle 90 = .ok (.aload_n 0, 1) := by decide +kernel
theorem dX3_isIdle_91 : decode cX3_isIdle 91 = .ok (.getfield 26, 3) := by decide +kernel
theorem dX3_isIdle_94 : decode cX3_isIdle 94 = .ok (.aload_n 0, 1) := by decide +kernel
theorem dX3_isIdle_95 : decode cX3_isIdle 95 = .ok (.getfield 30, 3) := by decide +kernel
theorem dX3_isIdle_98 : decode cX3_isIdle 98 = .ok (.invokevirtual 188, 3) := by decide +kernel
theorem dX3_isIdle_101 : decode cX3_isIdle 101 = .ok (.ifCond .ne 5, 3) := by decide +kernel
theorem dX3_isIdle_104 : decode cX3_isIdle 104 = .ok (.iconst 0, 1) := by decide +kernel
theorem dX3_isIdle_105 : decode cX3_isIdle 105 = .ok (.ireturn, 1) := by decide +kernel
theorem dX3_isIdle_106 : decode cX3_isIdle 106 = .ok (.iinc 3 1, 3) := by decide +kernel
theorem dX3_isIdle_109 : decode cX3_isIdle 109 = .ok (.goto (-82), 3) := by decide +kernel
theorem dX3_isIdle_112 : decode cX3_isIdle 112 = .ok (.iconst 1, 1) := by decide +kernel
theorem dX3_isIdle_113 : decode cX3_isIdle 113 = .ok (.ireturn, 1) := by decide +kernel
theorem dX3_findMend_0 : decode cX3_findMend 0 = .ok (.aload_n 0, 1) := by decide +kernel
theorem dX3_findMend_1 : decode cX3_findMend 1 = .ok (.iconst 0, 1) := by decide +kernel
theorem dX3_findMend_2 : decode cX3_findMend 2 = .ok (.invokevirtual 192, 3) := by decide +kernel
theorem dX3_findMend_5 : decode cX3_findMend 5 = .ok (.istore_n 1, 1) := by decide +kernel
theorem dX3_findMend_6 : decode cX3_findMend 6 = .ok (.aload_n 0, 1) := by decide +kernel
theorem dX3_findMend_7 : decode cX3_findMend 7 = .ok (.bipush (-9), 2) := by decide +kernel
theorem dX3_findMend_9 : decode cX3_findMend 9 = .ok (.putfield 61, 3) := by decide +kernel
theorem dX3_findMend_12 : decode cX3_findMend 12 = .ok (.aload_n 0, 1) := by decide +kernel
theorem dX3_findMend_13 : decode cX3_findMend 13 = .ok (.bipush (-9), 2) := by decide +kernel
theorem dX3_findMend_15 : decode cX3_findMend 15 = .ok (.putfield 64, 3) := by decide +kernel
theorem dX3_findMend_18 : decode cX3_findMend 18 = .ok (.aload_n 0, 1) := by decide +kernel
theorem dX3_findMend_19 : decode cX3_findMend 19 = .ok (.bipush (-9), 2) := by decide +kernel
theorem dX3_findMend_21 : decode cX3_findMend 21 = .ok (.putfield 67, 3) := by decide +kernel
theorem dX3_findMend_24 : decode cX3_findMend 24 = .ok (.iconst 0, 1) := by decide +kernel
theorem dX3_findMend_25 : decode cX3_findMend 25 = .ok (.istore_n 2, 1) := by decide +kernel
theorem dX3_findMend_26 : decode cX3_findMend 26 = .ok (.iload_n 2, 1) := by decide +kernel
theorem dX3_findMend_27 : decode cX3_findMend 27 = .ok (.aload_n 0, 1) := by decide +kernel
theorem dX3_findMend_28 : decode cX3_findMend 28 = .ok (.getfield 51, 3) := by decide +kernel
theorem dX3_findMend_31 : decode cX3_findMend 31 = .ok (.if_icmp .ge 163, 3) := by decide +kernel
theorem dX3_findMend_34 : decode cX3_findMend 34 = .ok (.aload_n 0, 1) := by decide +kernel
theorem dX3_findMend_35 : decode cX3_findMend 35 = .ok (.getfield 19, 3) := by decide +kernel
theorem dX3_findMend_38 : decode cX3_findMend 38 = .ok (.aload_n 0, 1) := by decide +kernel
theorem dX3_findMend_39 : decode cX3_findMend 39 = .ok (.getfield 12, 3) := by decide +kernel
theorem dX3_findMend_42 : decode cX3_findMend 42 = .ok (.iload_n 2, 1) := by decide +kernel
theorem dX3_findMend_43 : decode cX3_findMend 43 = .ok (.aload_n 0, 1) := by decide +kernel
theorem dX3_findMend_44 : decode cX3_findMend 44 = .ok (.getfield 33, 3) := by decide +kernel
theorem dX3_findMend_47 : decode cX3_findMend 47 = .ok (.iload_n 2, 1) := by decide +kernel
theorem dX3_findMend_48 : decode cX3_findMend 48 = .ok (.iaload, 1) := by decide +kernel
theorem dX3_findMend_49 : decode cX3_findMend 49 = .ok (.invokevirtual 115, 3) := by decide +kernel
theorem dX3_findMend_52 : decode cX3_findMend 52 = .ok (.iload_n 1, 1) := by decide +kernel
theorem dX3_findMend_53 : decode cX3_findMend 53 = .ok (.aload_n 0, 1) := by decide +kernel
theorem dX3_findMend_54 : decode cX3_findMend 54 = .ok (.iload_n 2, 1) := by decide +kernel
theorem dX3_findMend_55 : decode cX3_findMend 55 = .ok (.aload_n 0, 1) := by decide +kernel
theorem dX3_findMend_56 : decode cX3_findMend 56 = .ok (.getfield 39, 3) := by decide +kernel
theorem dX3_findMend_59 : decode cX3_findMend 59 = .ok (.iload_n 2, 1) := by decide +kernel
theorem dX3_findMend_60 : decode cX3_findMend 60 = .ok (.aaload, 1) := by decide +kernel
theorem dX3_findMend_61 : decode cX3_findMend 61 = .ok (.iconst 0, 1) := by decide +kernel
theorem dX3_findMend_62 : decode cX3_findMend 62 = .ok (.invokevirtual 148, 3) := by decide +kernel
theorem dX3_findMend_65 : decode cX3_findMend 65 = .ok (.isub, 1) := by decide +kernel
theorem dX3_findMend_66 : decode cX3_findMend 66 = .ok (.istore_n 3, 1) := by decide +kernel
theorem dX3_findMend_67 : decode cX3_findMend 67 = .ok (.aload_n 0, 1) := by decide +kernel
theorem dX3_findMend_68 : decode cX3_findMend 68 = .ok (.getfield 39, 3) := by decide +kernel
theorem dX3_findMend_71 : decode cX3_findMend 71 = .ok (.iload_n 2, 1) := by decide +kernel
theorem dX3_findMend_72 : decode cX3_findMend 72 = .ok (.aaload, 1) := by decide +kernel
theorem dX3_findMend_73 : decode cX3_findMend 73 = .ok (.iconst 0, 1) := by decide +kernel
theorem dX3_findMend_74 : decode cX3_findMend 74 = .ok (.aload_n 0, 1) := by decide +kernel
theorem dX3_findMend_75 : decode cX3_findMend 75 = .ok (.getfield 48, 3) := by decide +kernel
theorem dX3_findMend_78 : decode cX3_findMend 78 = .ok (.iconst 0, 1) := by decide +kernel
theorem dX3_findMend_79 : decode cX3_findMend 79 = .ok (.bipush 10, 2) := by decide +kernel
theorem dX3_findMend_81 : decode cX3_findMend 81 = .ok (.invokestatic 182, 3) := by decide +kernel
theorem dX3_findMend_84 : decode cX3_findMend 84 = .ok (.iconst 0, 1) := by decide +kernel
theorem dX3_findMend_85 : decode cX3_findMend 85 = .ok (.istore 4, 2) := by decide +kernel
theorem dX3_findMend_87 : decode cX3_findMend 87 = .ok (.iload 4, 2) := by decide +kernel
theorem dX3_findMend_89 : decode cX3_findMend 89 = .ok (.bipush 10, 2) := by decide +kernel
theorem dX3_findMend_91 : decode cX3_findMend 91 = .ok (.if_icmp .ge 97, 3) := by decide +kernel
theorem dX3_findMend_94 : decode cX3_findMend 94 = .ok (.aload_n 0, 1) := by decide +kernel
theorem dX3_findMend_95 : decode cX3_findMend 95 = .ok (.getfield 39, 3) := by decide +kernel
theorem dX3_findMend_98 : decode cX3_findMend 98 = .ok (.iload_n 2, 1) := by decide +kernel
theorem dX3_findMend_99 : decode cX3_findMend 99 = .ok (.aaload, 1) := by decide +kernel
theorem dX3_findMend_100 : decode cX3_findMend 100 = .ok (.iload 4, 2) := by decide +kernel
theorem dX3_findMend_102 : decode cX3_findMend 102 = .ok (.iaload, 1) := by decide +kernel
theorem dX3_findMend_103 : decode cX3_findMend 103 = .ok (.bipush (-9), 2) := by decide +kernel
theorem dX3_findMend_105 : decode cX3_findMend 105 = .ok (.if_icmp .ne 77, 3) := by decide +kernel
theorem dX3_findMend_108 : decode cX3_findMend 108 = .ok (.aload_n 0, 1) := by decide +kernel
theorem dX3_findMend_109 : decode cX3_findMend 109 = .ok (.getfield 19, 3) := by decide +kernel
theorem dX3_findMend_112 : decode cX3_findMend 112 = .ok (.getfield 195, 3) := by decide +kernel
theorem dX3_findMend_115 : decode cX3_findMend 115 = .ok (.iload_n 2, 1) := by decide +kernel
theorem dX3_findMend_116 : decode cX3_findMend 116 = .ok (.iaload, 1) := by decide +kernel
theorem dX3_findMend_117 : decode cX3_findMend 117 = .ok (.iload 4, 2) := by decide +kernel
theorem dX3_findMend_119 : decode cX3_findMend 119 = .ok (.invokestatic 112, 3) := by decide +kernel
theorem dX3_findMend_122 : decode cX3_findMend 122 = .ok (.ifCond .eq 60, 3) := by decide +kernel
theorem dX3_findMend_125 : decode cX3_findMend 125 = .ok (.aload_n 0, 1) := by decide +kernel
theorem dX3_findMend_126 : decode cX3_findMend 126 = .ok (.getfield 48, 3) := by decide +kernel
theorem dX3_findMend_129 : decode cX3_findMend 129 = .ok (.iload 4, 2) := by decide +kernel
theorem dX3_findMend_131 : decode cX3_findMend 131 = .ok (.aload_n 0, 1) := by decide +kernel
theorem dX3_findMend_132 : decode cX3_findMend 132 = .ok (.getfield 19, 3) := by decide +kernel
theorem dX3_findMend_135 : decode cX3_findMend 135 = .ok (.getfield 122, 3) := by decide +kernel
theorem dX3_findMend_138 : decode cX3_findMend 138 = .ok (.iload_n 2, 1) := by decide +kernel
theorem dX3_findMend_139 : decode cX3_findMend 139 = .ok (.aaload, 1) := by decide +kernel
theorem dX3_findMend_140 : decode cX3_findMend 140 = .ok (.iload 4, 2) := by decide +kernel
theorem dX3_findMend_142 : decode cX3_findMend 142 = .ok (.iaload, 1) := by decide +kernel
theorem dX3_findMend_143 : decode cX3_findMend 143 = .ok (.iastore, 1) := by decide +kernel
theorem dX3_findMend_144 : decode cX3_findMend 144 = .ok (.iload_n 3, 1) := by decide +kernel
theorem dX3_findMend_145 : decode cX3_findMend 145 = .ok (.aload_n 0, 1) := by decide +kernel
theorem dX3_findMend_146 : decode cX3_findMend 146 = .ok (.iload_n 2, 1) := by decide +kernel
theorem dX3_findMend_147 : decode cX3_findMend 147 = .ok (.aload_n 0, 1) := by decide +kernel
theorem dX3_findMend_148 : decode cX3_findMend 148 = .ok (.getfield 48, 3) := by decide +kernel
theorem dX3_findMend_151 : decode cX3_findMend 151 = .ok (.iconst 0, 1) := by decide +kernel
theorem dX3_findMend_152 : decode cX3_findMend 152 = .ok (.invokevirtual 148, 3) := by decide +kernel
theorem dX3_findMend_155 : decode cX3_findMend 155 = .ok (.iadd, 1) := by decide +kernel
theorem dX3_findMend_156 : decode cX3_findMend 156 = .ok (.istore 5, 2) := by decide +kernel
theorem dX3_findMend_158 : decode cX3_findMend 158 = .ok (.aload_n 0, 1) := by decide +kernel
theorem dX3_findMend_159 : decode cX3_findMend 159 = .ok (.getfield 48, 3) := by decide +kernel
theorem dX3_findMend_162 : decode cX3_findMend 162 = .ok (.iload 4, 2) := by decide +kernel
theorem dX3_findMend_164 : decode cX3_findMend 164 = .ok (.bipush (-9), 2) := by decide +kernel
theorem dX3_findMend_166 : decode cX3_findMend 166 = .ok (.iastore, 1) := by decide +kernel
theorem dX3_findMend_167 : decode cX3_findMend 167 = .ok (.iload 5, 2) := by decide +kernel
theorem dX3_findMend_169 : decode cX3_findMend 169 = .ok (.iload_n 1, 1) := by decide +kernel
theorem dX3_findMend_170 : decode cX3_findMend 170 = .ok (.if_icmp .le 12, 3) := by decide +kernel
theorem dX3_findMend_173 : decode cX3_findMend 173 = .ok (.aload_n 0, 1) := by decide +kernel
theorem dX3_findMend_174 : decode cX3_findMend 174 = .ok (.iload 4, 2) := by decide +kernel
theorem dX3_findMend_176 : decode cX3_findMend 176 = .ok (.iload_n 2, 1) := by decide +kernel
theorem dX3_findMend_177 : decode cX3_findMend 177 = .ok (.iload 5, 2) := by decide +kernel
theorem dX3_findMend_179 : decode cX3_findMend 179 = .ok (.invokevirtual 198, 3) := by decide +kernel
theorem dX3_findMend_182 : decode cX3_findMend 182 = .ok (.iinc 4 1, 3) := by decide +kernel
theorem dX3_findMend_185 : decode cX3_findMend 185 = .ok (.goto (-98), 3) := by decide +kernel
theorem dX3_findMend_188 : decode cX3_findMend 188 = .ok (.iinc 2 1, 3) := by decide +kernel
theorem dX3_findMend_191 : decode cX3_findMend 191 = .ok (.goto (-165), 3) := by decide +kernel
theorem dX3_findMend_194 : decode cX3_findMend 194 = .ok (.return_, 1) := by decide +kernel
theorem dX3_offerMend_0 : decode cX3_offerMend 0 = .ok (.iload_n 3, 1) := by decide +kernel
theorem dX3_offerMend_1 : decode cX3_offerMend 1 = .ok (.aload_n 0, 1) := by decide +kernel
theorem dX3_offerMend_2 : decode cX3_offerMend 2 = .ok (.getfield 67, 3) := by decide +kernel
theorem dX3_offerMend_5 : decode cX3_offerMend 5 = .ok (.if_icmp .gt 19, 3) := by decide +kernel
theorem dX3_offerMend_8 : decode cX3_offerMend 8 = .ok (.iload_n 3, 1) := by decide +kernel
theorem dX3_offerMend_9 : decode cX3_offerMend 9 = .ok (.aload_n 0, 1) := by decide +kernel
theorem dX3_offerMend_10 : decode cX3_offerMend 10 = .ok (.getfield 67, 3) := by decide +kernel
theorem dX3_offerMend_13 : decode cX3_offerMend 13 = .ok (.if_icmp .ne 26, 3) := by decide +kernel
theorem dX3_offerMend_16 : decode cX3_offerMend 16 = .ok (.iload_n 1, 1) := by decide +kernel
theorem dX3_offerMend_17 : decode cX3_offerMend 17 = .ok (.aload_n 0, 1) := by decide +kernel
theorem dX3_offerMend_18 : decode cX3_offerMend 18 = .ok (.getfield 61, 3) := by decide +kernel
theorem dX3_offerMend_21 : decode cX3_offerMend 21 = .ok (.if_icmp .ge 18, 3) := by decide +kernel
theorem dX3_offerMend_24 : decode cX3_offerMend 24 = .ok (.aload_n 0, 1) := by decide +kernel
theorem dX3_offerMend_25 : decode cX3_offerMend 25 = .ok (.iload_n 1, 1) := by decide +kernel
theorem dX3_offerMend_26 : decode cX3_offerMend 26 = .ok (.putfield 61, 3) := by decide +kernel
theorem dX3_offerMend_29 : decode cX3_offerMend 29 = .ok (.aload_n 0, 1) := by decide +kernel
theorem dX3_offerMend_30 : decode cX3_offerMend 30 = .ok (.iload_n 2, 1) := by decide +kernel
theorem dX3_offerMend_31 : decode cX3_offerMend 31 = .ok (.putfield 64, 3) := by decide +kernel
theorem dX3_offerMend_34 : decode cX3_offerMend 34 = .ok (.aload_n 0, 1) := by decide +kernel
theorem dX3_offerMend_35 : decode cX3_offerMend 35 = .ok (.iload_n 3, 1) := by decide +kernel
theorem dX3_offerMend_36 : decode cX3_offerMend 36 = .ok (.putfield 67, 3) := by decide +kernel
theorem dX3_offerMend_39 : decode cX3_offerMend 39 = .ok (.return_, 1) := by decide +kernel
theorem dX3_wouldLead_0 : decode cX3_wouldLead 0 = .ok (.iload_n 1, 1) := by decide +kernel
theorem dX3_wouldLead_1 : decode cX3_wouldLead 1 = .ok (.aload_n 0, 1) := by decide +kernel
theorem dX3_wouldLead_2 : decode cX3_wouldLead 2 = .ok (.getfield 19, 3) := by decide +kernel
theorem dX3_wouldLead_5 : decode cX3_wouldLead 5 = .ok (.getfield 195, 3) := by decide +kernel
theorem dX3_wouldLead_8 : decode cX3_wouldLead 8 = .ok (.iload_n 2, 1) := by decide +kernel
theorem dX3_wouldLead_9 : decode cX3_wouldLead 9 = .ok (.iaload, 1) := by decide +kernel
theorem dX3_wouldLead_10 : decode cX3_wouldLead 10 = .ok (.iconst (-1), 1) := by decide +kernel
theorem dX3_wouldLead_11 : decode cX3_wouldLead 11 = .ok (.ixor, 1) := by decide +kernel
theorem dX3_wouldLead_12 : decode cX3_wouldLead 12 = .ok (.iand, 1) := by decide +kernel
theorem dX3_wouldLead_13 : decode cX3_wouldLead 13 = .ok (.ifCond .eq 5, 3) := by decide +kernel
theorem dX3_wouldLead_16 : decode cX3_wouldLead 16 = .ok (.iconst 0, 1) := by decide +kernel
theorem dX3_wouldLead_17 : decode cX3_wouldLead 17 = .ok (.ireturn, 1) := by decide +kernel
theorem dX3_wouldLead_18 : decode cX3_wouldLead 18 = .ok (.iconst 0, 1) := by decide +kernel
theorem dX3_wouldLead_19 : decode cX3_wouldLead 19 = .ok (.istore_n 3, 1) := by decide +kernel
theorem dX3_wouldLead_20 : decode cX3_wouldLead 20 = .ok (.iload_n 3, 1) := by decide +kernel
theorem dX3_wouldLead_21 : decode cX3_wouldLead 21 = .ok (.bipush 10, 2) := by decide +kernel
theorem dX3_wouldLead_23 : decode cX3_wouldLead 23 = .ok (.if_icmp .ge 39, 3) := by decide +kernel
theorem dX3_wouldLead_26 : decode cX3_wouldLead 26 = .ok (.aload_n 0, 1) := by decide +kernel
theorem dX3_wouldLead_27 : decode cX3_wouldLead 27 = .ok (.getfield 48, 3) := by decide +kernel
theorem dX3_wouldLead_30 : decode cX3_wouldLead 30 = .ok (.iload_n 3, 1) := by decide +kernel
theorem dX3_wouldLead_31 : decode cX3_wouldLead 31 = .ok (.iload_n 1, 1) := by decide +kernel
theorem dX3_wouldLead_32 : decode cX3_wouldLead 32 = .ok (.iload_n 3, 1) := by decide +kernel
theorem dX3_wouldLead_33 : decode cX3_wouldLead 33 = .ok (.invokestatic 112, 3) := by decide +kernel
theorem dX3_wouldLead_36 : decode cX3_wouldLead 36 = .ok (.ifCond .eq 17, 3) := by decide +kernel
theorem dX3_wouldLead_39 : decode cX3_wouldLead 39 = .ok (.aload_n 0, 1) := by decide +kernel
theorem dX3_wouldLead_40 : decode cX3_wouldLead 40 = .ok (.getfield 19, 3) := by decide +kernel
theorem dX3_wouldLead_43 : decode cX3_wouldLead 43 = .ok (.getfield 122, 3) := by decide +kernel
theorem dX3_wouldLead_46 : decode cX3_wouldLead 46 = .ok (.iload_n 2, 1) := by decide +kernel
theorem dX3_wouldLead_47 : decode cX3_wouldLead 47 = .ok (.aaload, 1) := by decide +kernel
theorem dX3_wouldLead_48 : decode cX3_wouldLead 48 = .ok (.iload_n 3, 1) := by decide +kernel
theorem dX3_wouldLead_49 : decode cX3_wouldLead 49 = .ok (.iaload, 1) := by decide +kernel
theorem dX3_wouldLead_50 : decode cX3_wouldLead 50 = .ok (.goto 5, 3) := by decide +kernel
theorem dX3_wouldLead_53 : decode cX3_wouldLead 53 = .ok (.bipush (-9), 2) := by decide +kernel
theorem dX3_wouldLead_55 : decode cX3_wouldLead 55 = .ok (.iastore, 1) := by decide +kernel
theorem dX3_wouldLead_56 : decode cX3_wouldLead 56 = .ok (.iinc 3 1, 3) := by decide +kernel
theorem dX3_wouldLead_59 : decode cX3_wouldLead 59 = .ok (.goto (-39), 3) := by decide +kernel
theorem dX3_wouldLead_62 : decode cX3_wouldLead 62 = .ok (.iconst 0, 1) := by decide +kernel
theorem dX3_wouldLead_63 : decode cX3_wouldLead 63 = .ok (.istore_n 3, 1) := by decide +kernel
theorem dX3_wouldLead_64 : decode cX3_wouldLead 64 = .ok (.iload_n 3, 1) := by decide +kernel
theorem dX3_wouldLead_65 : decode cX3_wouldLead 65 = .ok (.bipush 10, 2) := by decide +kernel
theorem dX3_wouldLead_67 : decode cX3_wouldLead 67 = .ok (.if_icmp .ge 80, 3) := by decide +kernel
theorem dX3_wouldLead_70 : decode cX3_wouldLead 70 = .ok (.aload_n 0, 1) := by decide +kernel
theorem dX3_wouldLead_71 : decode cX3_wouldLead 71 = .ok (.getfield 55, 3) := by decide +kernel
theorem dX3_wouldLead_74 : decode cX3_wouldLead 74 = .ok (.iload_n 3, 1) := by decide +kernel
theorem dX3_wouldLead_75 : decode cX3_wouldLead 75 = .ok (.invokestatic 112, 3) := by decide +kernel
theorem dX3_wouldLead_78 : decode cX3_wouldLead 78 = .ok (.ifCond .eq 63, 3) := by decide +kernel
theorem dX3_wouldLead_81 : decode cX3_wouldLead 81 = .ok (.aload_n 0, 1) := by decide +kernel
theorem dX3_wouldLead_82 : decode cX3_wouldLead 82 = .ok (.getfield 26, 3) := by decide +kernel
theorem dX3_wouldLead_85 : decode cX3_wouldLead 85 = .ok (.aload_n 0, 1) := by decide +kernel
theorem dX3_wouldLead_86 : decode cX3_wouldLead 86 = .ok (.getfield 12, 3) := by decide +kernel
theorem dX3_wouldLead_89 : decode cX3_wouldLead 89 = .ok (.iload_n 3, 1) := by decide +kernel
theorem dX3_wouldLead_90 : decode cX3_wouldLead 90 = .ok (.aload_n 0, 1) := by decide +kernel
theorem dX3_wouldLead_91 : decode cX3_wouldLead 91 = .ok (.getfield 33, 3) := by decide +kernel
theorem dX3_wouldLead_94 : decode cX3_wouldLead 94 = .ok (.iload_n 2, 1) := by decide +kernel
theorem dX3_wouldLead_95 : decode cX3_wouldLead 95 = .ok (.iaload, 1) := by decide +kernel
theorem dX3_wouldLead_96 : decode cX3_wouldLead 96 = .ok (.aload_n 0, 1) := by decide +kernel
theorem dX3_wouldLead_97 : decode cX3_wouldLead 97 = .ok (.getfield 48, 3) := by decide +kernel
theorem dX3_wouldLead_100 : decode cX3_wouldLead 100 = .ok (.invokevirtual 128, 3) := by decide +kernel
theorem dX3_wouldLead_103 : decode cX3_wouldLead 103 = .ok (.aload_n 0, 1) := by decide +kernel
theorem dX3_wouldLead_104 : decode cX3_wouldLead 104 = .ok (.getfield 26, 3) := by decide +kernel
theorem dX3_wouldLead_107 : decode cX3_wouldLead 107 = .ok (.getfield 132, 3) := by decide +kernel
theorem dX3_wouldLead_110 : decode cX3_wouldLead 110 = .ok (.ifCond .ne 29, 3) := by decide +kernel
theorem dX3_wouldLead_113 : decode cX3_wouldLead 113 = .ok (.aload_n 0, 1) := by decide +kernel
theorem dX3_wouldLead_114 : decode cX3_wouldLead 114 = .ok (.getfield 26, 3) := by decide +kernel
theorem dX3_wouldLead_117 : decode cX3_wouldLead 117 = .ok (.getfield 138, 3) := by decide +kernel
theorem dX3_wouldLead_120 : decode cX3_wouldLead 120 = .ok (.aload_n 0, 1) := by decide +kernel
theorem dX3_wouldLead_121 : decode cX3_wouldLead 121 = .ok (.getfield 19, 3) := by decide +kernel
theorem dX3_wouldLead_124 : decode cX3_wouldLead 124 = .ok (.getfield 119, 3) := by decide +kernel
theorem dX3_wouldLead_127 : decode cX3_wouldLead 127 = .ok (.iload_n 2, 1) := by decide +kernel
theorem dX3_wouldLead_128 : decode cX3_wouldLead 128 = .ok (.aaload, 1) := by decide +kernel
theorem dX3_wouldLead_129 : decode cX3_wouldLead 129 = .ok (.iload_n 3, 1) := by decide +kernel
theorem dX3_wouldLead_130 : decode cX3_wouldLead 130 = .ok (.iaload, 1) := by decide +kernel
theorem dX3_wouldLead_131 : decode cX3_wouldLead 131 = .ok (.aload_n 0, 1) := by decide +kernel
theorem dX3_wouldLead_132 : decode cX3_wouldLead 132 = .ok (.getfield 58, 3) := by decide +kernel
theorem dX3_wouldLead_135 : decode cX3_wouldLead 135 = .ok (.iadd, 1) := by decide +kernel
theorem dX3_wouldLead_136 : decode cX3_wouldLead 136 = .ok (.if_icmp .le 5, 3) := by decide +kernel
theorem dX3_wouldLead_139 : decode cX3_wouldLead 139 = .ok (.iconst 0, 1) := by decide +kernel
theorem dX3_wouldLead_140 : decode cX3_wouldLead 140 = .ok (.ireturn, 1) := by decide +kernel
theorem dX3_wouldLead_141 : decode cX3_wouldLead 141 = .ok (.iinc 3 1, 3) := by decide +kernel
theorem dX3_wouldLead_144 : decode cX3_wouldLead 144 = .ok (.goto (-80), 3) := by decide +kernel
theorem dX3_wouldLead_147 : decode cX3_wouldLead 147 = .ok (.iconst 1, 1) := by decide +kernel
theorem dX3_wouldLead_148 : decode cX3_wouldLead 148 = .ok (.ireturn, 1) := by decide +kernel
theorem dX3_leastSet_0 : decode cX3_leastSet 0 = .ok (.iconst 0, 1) := by decide +kernel
theorem dX3_leastSet_1 : decode cX3_leastSet 1 = .ok (.istore_n 3, 1) := by decide +kernel
theorem dX3_leastSet_2 : decode cX3_leastSet 2 = .ok (.iload_n 1, 1) := by decide +kernel
theorem dX3_leastSet_3 : decode cX3_leastSet 3 = .ok (.istore 4, 2) := by decide +kernel
theorem dX3_leastSet_5 : decode cX3_leastSet 5 = .ok (.iload 4, 2) := by decide +kernel
theorem dX3_leastSet_7 : decode cX3_leastSet 7 = .ok (.iload_n 2, 1) := by decide +kernel
theorem dX3_leastSet_8 : decode cX3_leastSet 8 = .ok (.if_icmp .ge 38, 3) := by decide +kernel
theorem dX3_leastSet_11 : decode cX3_leastSet 11 = .ok (.aload_n 0, 1) := by decide +kernel
theorem dX3_leastSet_12 : decode cX3_leastSet 12 = .ok (.getfield 19, 3) := by decide +kernel
theorem dX3_leastSet_15 : decode cX3_leastSet 15 = .ok (.aload_n 0, 1) := by decide +kernel
theorem dX3_leastSet_16 : decode cX3_leastSet 16 = .ok (.getfield 12, 3) := by decide +kernel
theorem dX3_leastSet_19 : decode cX3_leastSet 19 = .ok (.iload 4, 2) := by decide +kernel
theorem dX3_leastSet_21 : decode cX3_leastSet 21 = .ok (.aload_n 0, 1) := by decide +kernel
theorem dX3_leastSet_22 : decode cX3_leastSet 22 = .ok (.getfield 33, 3) := by decide +kernel
theorem dX3_leastSet_25 : decode cX3_leastSet 25 = .ok (.iload 4, 2) := by decide +kernel
theorem dX3_leastSet_27 : decode cX3_leastSet 27 = .ok (.iaload, 1) := by decide +kernel
theorem dX3_leastSet_28 : decode cX3_leastSet 28 = .ok (.invokevirtual 115, 3) := by decide +kernel
theorem dX3_leastSet_31 : decode cX3_leastSet 31 = .ok (.iload_n 3, 1) := by decide +kernel
theorem dX3_leastSet_32 : decode cX3_leastSet 32 = .ok (.aload_n 0, 1) := by decide +kernel
theorem dX3_leastSet_33 : decode cX3_leastSet 33 = .ok (.iload 4, 2) := by decide +kernel
theorem dX3_leastSet_35 : decode cX3_leastSet 35 = .ok (.invokevirtual 202, 3) := by decide +kernel
theorem dX3_leastSet_38 : decode cX3_leastSet 38 = .ok (.ior, 1) := by decide +kernel
theorem dX3_leastSet_39 : decode cX3_leastSet 39 = .ok (.istore_n 3, 1) := by decide +kernel
theorem dX3_leastSet_40 : decode cX3_leastSet 40 = .ok (.iinc 4 1, 3) := by decide +kernel
theorem dX3_leastSet_43 : decode cX3_leastSet 43 = .ok (.goto (-38), 3) := by decide +kernel
theorem dX3_leastSet_46 : decode cX3_leastSet 46 = .ok (.iload_n 1, 1) := by decide +kernel
theorem dX3_leastSet_47 : decode cX3_leastSet 47 = .ok (.istore 4, 2) := by decide +kernel
theorem dX3_leastSet_49 : decode cX3_leastSet 49 = .ok (.iload 4, 2) := by decide +kernel
theorem dX3_leastSet_51 : decode cX3_leastSet 51 = .ok (.iload_n 2, 1) := by decide +kernel
theorem dX3_leastSet_52 : decode cX3_leastSet 52 = .ok (.if_icmp .ge 33, 3) := by decide +kernel
theorem dX3_leastSet_55 : decode cX3_leastSet 55 = .ok (.aload_n 0, 1) := by decide +kernel
theorem dX3_leastSet_56 : decode cX3_leastSet 56 = .ok (.iload_n 3, 1) := by decide +kernel
theorem dX3_leastSet_57 : decode cX3_leastSet 57 = .ok (.aload_n 0, 1) := by decide +kernel
theorem dX3_leastSet_58 : decode cX3_leastSet 58 = .ok (.getfield 19, 3) := by decide +kernel
theorem dX3_leastSet_61 : decode cX3_leastSet 61 = .ok (.getfield 195, 3) := by decide +kernel
theorem dX3_leastSet_64 : decode cX3_leastSet 64 = .ok (.iload 4, 2) := by decide +kernel
theorem dX3_leastSet_66 : decode cX3_leastSet 66 = .ok (.iaload, 1) := by decide +kernel
theorem dX3_leastSet_67 : decode cX3_leastSet 67 = .ok (.iand, 1) := by decide +kernel
theorem dX3_leastSet_68 : decode cX3_leastSet 68 = .ok (.iload 4, 2) := by decide +kernel
theorem dX3_leastSet_70 : decode cX3_leastSet 70 = .ok (.invokevirtual 158, 3) := by decide +kernel
theorem dX3_leastSet_73 : decode cX3_leastSet 73 = .ok (.ifCond .ne 6, 3) := by decide +kernel
theorem dX3_leastSet_76 : decode cX3_leastSet 76 = .ok (.bipush (-9), 2) := by decide +kernel
theorem dX3_leastSet_78 : decode cX3_leastSet 78 = .ok (.ireturn, 1) := by decide +kernel
theorem dX3_leastSet_79 : decode cX3_leastSet 79 = .ok (.iinc 4 1, 3) := by decide +kernel
theorem dX3_leastSet_82 : decode cX3_leastSet 82 = .ok (.goto (-33), 3) := by decide +kernel
theorem dX3_leastSet_85 : decode cX3_leastSet 85 = .ok (.iload_n 3, 1) := by decide +kernel
theorem dX3_leastSet_86 : decode cX3_leastSet 86 = .ok (.ireturn, 1) := by decide +kernel
theorem dX3_choicesOnBestWays_0 : decode cX3_choicesOnBestWays 0 = .ok (.iconst 0, 1) := by decide +kernel
theorem dX3_choicesOnBestWays_1 : decode cX3_choicesOnBestWays 1 = .ok (.istore_n 2, 1) := by decide +kernel
theorem dX3_choicesOnBestWays_2 : decode cX3_choicesOnBestWays 2 = .ok (.iconst 0, 1) := by decide +kernel
theorem dX3_choicesOnBestWays_3 : decode cX3_choicesOnBestWays 3 = .ok (.istore_n 3, 1) := by decide +kernel
theorem dX3_choicesOnBestWays_4 : decode cX3_choicesOnBestWays 4 = .ok (.iload_n 3, 1) := by decide +kernel
theorem dX3_choicesOnBestWays_5 : decode cX3_choicesOnBestWays 5 = .ok (.bipush 10, 2) := by decide +kernel
theorem dX3_choicesOnBestWays_7 : decode cX3_choicesOnBestWays 7 = .ok (.if_icmp .ge 29, 3) := by decide +kernel
theorem dX3_choicesOnBestWays_10 : decode cX3_choicesOnBestWays 10 = .ok (.aload_n 0, 1) := by decide +kernel
theorem dX3_choicesOnBestWays_11 : decode cX3_choicesOnBestWays 11 = .ok (.getfield 55, 3) := by decide +kernel
theorem dX3_choicesOnBestWays_14 : decode cX3_choicesOnBestWays 14 = .ok (.iload_n 3, 1) := by decide +kernel
theorem dX3_choicesOnBestWays_15 : decode cX3_choicesOnBestWays 15 = .ok (.invokestatic 112, 3) := by decide +kernel
theorem dX3_choicesOnBestWays_18 : decode cX3_choicesOnBestWays 18 = .ok (.ifCond .eq 12, 3) := by decide +kernel
theorem dX3_choicesOnBestWays_21 : decode cX3_choicesOnBestWays 21 = .ok (.iload_n 2, 1) := by decide +kernel
theorem dX3_choicesOnBestWays_22 : decode cX3_choicesOnBestWays 22 = .ok (.aload_n 0, 1) := by decide +kernel
theorem dX3_choicesOnBestWays_23 : decode cX3_choicesOnBestWays 23 = .ok (.iload_n 3, 1) := by decide +kernel
theorem dX3_choicesOnBestWays_24 : decode cX3_choicesOnBestWays 24 = .ok (.iload_n 1, 1) := by decide +kernel
theorem dX3_choicesOnBestWays_25 : decode cX3_choicesOnBestWays 25 = .ok (.invokevirtual 205, 3) := by decide +kernel
theorem dX3_choicesOnBestWays_28 : decode cX3_choicesOnBestWays 28 = .ok (.ior, 1) := by decide +kernel
theorem dX3_choicesOnBestWays_29 : decode cX3_choicesOnBestWays 29 = .ok (.istore_n 2, 1) := by decide +kernel
theorem dX3_choicesOnBestWays_30 : decode cX3_choicesOnBestWays 30 = .ok (.iinc 3 1, 3) := by decide +kernel
theorem dX3_choicesOnBestWays_33 : decode cX3_choicesOnBestWays 33 = .ok (.goto (-29), 3) := by decide +kernel
theorem dX3_choicesOnBestWays_36 : decode cX3_choicesOnBestWays 36 = .ok (.iload_n 2, 1) := by decide +kernel
theorem dX3_choicesOnBestWays_37 : decode cX3_choicesOnBestWays 37 = .ok (.ireturn, 1) := by decide +kernel
theorem dX3_choicesFrom_0 : decode cX3_choicesFrom 0 = .ok (.iconst 0, 1) := by decide +kernel
theorem dX3_choicesFrom_1 : decode cX3_choicesFrom 1 = .ok (.istore_n 3, 1) := by decide +kernel
theorem dX3_choicesFrom_2 : decode cX3_choicesFrom 2 = .ok (.iconst 0, 1) := by decide +kernel
theorem dX3_choicesFrom_3 : decode cX3_choicesFrom 3 = .ok (.istore 4, 2) := by decide +kernel
theorem dX3_choicesFrom_5 : decode cX3_choicesFrom 5 = .ok (.iload_n 1, 1) := by decide +kernel
theorem dX3_choicesFrom_6 : decode cX3_choicesFrom 6 = .ok (.istore 5, 2) := by decide +kernel
theorem dX3_choicesFrom_8 : decode cX3_choicesFrom 8 = .ok (.iconst 0, 1) := by decide +kernel
theorem dX3_choicesFrom_9 : decode cX3_choicesFrom 9 = .ok (.istore 6, 2) := by decide +kernel
theorem dX3_choicesFrom_11 : decode cX3_choicesFrom 11 = .ok (.iload 6, 2) := by decide +kernel
theorem dX3_choicesFrom_13 : decode cX3_choicesFrom 13 = .ok (.bipush 10, 2) := by decide +kernel
theorem dX3_choicesFrom_15 : decode cX3_choicesFrom 15 = .ok (.if_icmp .ge 75, 3) := by decide +kernel
theorem dX3_choicesFrom_18 : decode cX3_choicesFrom 18 = .ok (.aload_n 0, 1) := by decide +kernel
theorem dX3_choicesFrom_19 : decode cX3_choicesFrom 19 = .ok (.getfield 19, 3) := by decide +kernel
theorem dX3_choicesFrom_22 : decode cX3_choicesFrom 22 = .ok (.getfield 122, 3) := by decide +kernel
theorem dX3_choicesFrom_25 : decode cX3_choicesFrom 25 = .ok (.iload_n 2, 1) := by decide +kernel
theorem dX3_choicesFrom_26 : decode cX3_choicesFrom 26 = .ok (.aaload, 1) := by decide +kernel
theorem dX3_choicesFrom_27 : decode cX3_choicesFrom 27 = .ok (.iload 5, 2) := by decide +kernel
theorem dX3_choicesFrom_29 : decode cX3_choicesFrom 29 = .ok (.iaload, 1) := by decide +kernel
theorem dX3_choicesFrom_30 : decode cX3_choicesFrom 30 = .ok (.bipush (-9), 2) := by decide +kernel
theorem dX3_choicesFrom_32 : decode cX3_choicesFrom 32 = .ok (.if_icmp .eq 58, 3) := by decide +kernel
theorem dX3_choicesFrom_35 : decode cX3_choicesFrom 35 = .ok (.aload_n 0, 1) := by decide +kernel
theorem dX3_choicesFrom_36 : decode cX3_choicesFrom 36 = .ok (.getfield 12, 3) := by decide +kernel
theorem dX3_choicesFrom_39 : decode cX3_choicesFrom 39 = .ok (.getfield 125, 3) := by decide +kernel
theorem dX3_choicesFrom_42 : decode cX3_choicesFrom 42 = .ok (.iload 5, 2) := by decide +kernel
theorem dX3_choicesFrom_44 : decode cX3_choicesFrom 44 = .ok (.iaload, 1) := by decide +kernel
theorem dX3_choicesFrom_45 : decode cX3_choicesFrom 45 = .ok (.iload 4, 2) := by decide +kernel
theorem dX3_choicesFrom_47 : decode cX3_choicesFrom 47 = .ok (.iconst (-1), 1) := by decide +kernel
theorem dX3_choicesFrom_48 : decode cX3_choicesFrom 48 = .ok (.ixor, 1) := by decide +kernel
theorem dX3_choicesFrom_49 : decode cX3_choicesFrom 49 = .ok (.iand, 1) := by decide +kernel
theorem dX3_choicesFrom_50 : decode cX3_choicesFrom 50 = .ok (.invokestatic 168, 3) := by decide +kernel
theorem dX3_choicesFrom_53 : decode cX3_choicesFrom 53 = .ok (.iconst 1, 1) := by decide +kernel
theorem dX3_choicesFrom_54 : decode cX3_choicesFrom 54 = .ok (.if_icmp .le 10, 3) := by decide +kernel
theorem dX3_choicesFrom_57 : decode cX3_choicesFrom 57 = .ok (.iload_n 3, 1) := by decide +kernel
theorem dX3_choicesFrom_58 : decode cX3_choicesFrom 58 = .ok (.iconst 1, 1) := by decide +kernel
theorem dX3_choicesFrom_59 : decode cX3_choicesFrom 59 = .ok (.iload 5, 2) := by decide +kernel
theorem dX3_choicesFrom_61 : decode cX3_choicesFrom 61 = .ok (.ishl, 1) := by decide +kernel
theorem dX3_choicesFrom_62 : decode cX3_choicesFrom 62 = .ok (.ior, 1) := by decide +kernel
theorem dX3_choicesFrom_63 : decode cX3_choicesFrom 63 = .ok (.istore_n 3, 1) := by decide +kernel
theorem dX3_choicesFrom_64 : decode cX3_choicesFrom 64 = .ok (.iconst 1, 1) := by decide +kernel
theorem dX3_choicesFrom_65 : decode cX3_choicesFrom 65 = .ok (.iload 5, 2) := by decide +kernel
theorem dX3_choicesFrom_67 : decode cX3_choicesFrom 67 = .ok (.ishl, 1) := by decide +kernel
theorem dX3_choicesFrom_68 : decode cX3_choicesFrom 68 = .ok (.istore 4, 2) := by decide +kernel
theorem dX3_choicesFrom_70 : decode cX3_choicesFrom 70 = .ok (.aload_n 0, 1) := by decide +kernel
theorem dX3_choicesFrom_71 : decode cX3_choicesFrom 71 = .ok (.getfield 19, 3) := by decide +kernel
theorem dX3_choicesFrom_74 : decode cX3_choicesFrom 74 = .ok (.getfield 122, 3) := by decide +kernel
theorem dX3_choicesFrom_77 : decode cX3_choicesFrom 77 = .ok (.iload_n 2, 1) := by decide +kernel
theorem dX3_choicesFrom_78 : decode cX3_choicesFrom 78 = .ok (.aaload, 1) := by decide +kernel
theorem dX3_choicesFrom_79 : decode cX3_choicesFrom 79 = .ok (.iload 5, 2) := by decide +kernel
theorem dX3_choicesFrom_81 : decode cX3_choicesFrom 81 = .ok (.iaload, 1) := by decide +kernel
theorem dX3_choicesFrom_82 : decode cX3_choicesFrom 82 = .ok (.istore 5, 2) := by decide +kernel
theorem dX3_choicesFrom_84 : decode cX3_choicesFrom 84 = .ok (.iinc 6 1, 3) := by decide +kernel
theorem dX3_choicesFrom_87 : decode cX3_choicesFrom 87 = .ok (.goto (-76), 3) := by decide +kernel
theorem dX3_choicesFrom_90 : decode cX3_choicesFrom 90 = .ok (.iload_n 3, 1) := by decide +kernel
theorem dX3_choicesFrom_91 : decode cX3_choicesFrom 91 = .ok (.ireturn, 1) := by decide +kernel
theorem dJ6_bitCount_0f7a4_0 : decode cJ6_bitCount_0f7a4 0 = .ok (.iload_n 0, 1) := by decide +kernel
theorem dJ6_bitCount_0f7a4_1 : decode cJ6_bitCount_0f7a4 1 = .ok (.iload_n 0, 1) := by decide +kernel
theorem dJ6_bitCount_0f7a4_2 : decode cJ6_bitCount_0f7a4 2 = .ok (.iconst 1, 1) := by decide +kernel
theorem dJ6_bitCount_0f7a4_3 : decode cJ6_bitCount_0f7a4 3 = .ok (.iushr, 1) := by decide +kernel
theorem dJ6_bitCount_0f7a4_4 : decode cJ6_bitCount_0f7a4 4 = .ok (.ldc_w 265, 3) := by decide +kernel
theorem dJ6_bitCount_0f7a4_7 : decode cJ6_bitCount_0f7a4 7 = .ok (.iand, 1) := by decide +kernel
theorem dJ6_bitCount_0f7a4_8 : decode cJ6_bitCount_0f7a4 8 = .ok (.isub, 1) := by decide +kernel
theorem dJ6_bitCount_0f7a4_9 : decode cJ6_bitCount_0f7a4 9 = .ok (.istore_n 0, 1) := by decide +kernel
theorem dJ6_bitCount_0f7a4_10 : decode cJ6_bitCount_0f7a4 10 = .ok (.iload_n 0, 1) := by decide +kernel
theorem dJ6_bitCount_0f7a4_11 : decode cJ6_bitCount_0f7a4 11 = .ok (.ldc_w 266, 3) := by decide +kernel
theorem dJ6_bitCount_0f7a4_14 : decode cJ6_bitCount_0f7a4 14 = .ok (.iand, 1) := by decide +kernel
theorem dJ6_bitCount_0f7a4_15 : decode cJ6_bitCount_0f7a4 15 = .ok (.iload_n 0, 1) := by decide +kernel
theorem dJ6_bitCount_0f7a4_16 : decode cJ6_bitCount_0f7a4 16 = .ok (.iconst 2, 1) := by decide +kernel
theorem dJ6_bitCount_0f7a4_17 : decode cJ6_bitCount_0f7a4 17 = .ok (.iushr, 1) := by decide +kernel
theorem dJ6_bitCount_0f7a4_18 : decode cJ6_bitCount_0f7a4 18 = .ok (.ldc_w 266, 3) := by decide +kernel
theorem dJ6_bitCount_0f7a4_21 : decode cJ6_bitCount_0f7a4 21 = .ok (.iand, 1) := by decide +kernel
theorem dJ6_bitCount_0f7a4_22 : decode cJ6_bitCount_0f7a4 22 = .ok (.iadd, 1) := by decide +kernel
theorem dJ6_bitCount_0f7a4_23 : decode cJ6_bitCount_0f7a4 23 = .ok (.istore_n 0, 1) := by decide +kernel
theorem dJ6_bitCount_0f7a4_24 : decode cJ6_bitCount_0f7a4 24 = .ok (.iload_n 0, 1) := by decide +kernel
theorem dJ6_bitCount_0f7a4_25 : decode cJ6_bitCount_0f7a4 25 = .ok (.iload_n 0, 1) := by decide +kernel
theorem dJ6_bitCount_0f7a4_26 : decode cJ6_bitCount_0f7a4 26 = .ok (.iconst 4, 1) := by decide +kernel
theorem dJ6_bitCount_0f7a4_27 : decode cJ6_bitCount_0f7a4 27 = .ok (.iushr, 1) := by decide +kernel
theorem dJ6_bitCount_0f7a4_28 : decode cJ6_bitCount_0f7a4 28 = .ok (.iadd, 1) := by decide +kernel
theorem dJ6_bitCount_0f7a4_29 : decode cJ6_bitCount_0f7a4 29 = .ok (.ldc_w 267, 3) := by decide +kernel
theorem dJ6_bitCount_0f7a4_32 : decode cJ6_bitCount_0f7a4 32 = .ok (.iand, 1) := by decide +kernel
theorem dJ6_bitCount_0f7a4_33 : decode cJ6_bitCount_0f7a4 33 = .ok (.istore_n 0, 1) := by decide +kernel
theorem dJ6_bitCount_0f7a4_34 : decode cJ6_bitCount_0f7a4 34 = .ok (.iload_n 0, 1) := by decide +kernel
theorem dJ6_bitCount_0f7a4_35 : decode cJ6_bitCount_0f7a4 35 = .ok (.iload_n 0, 1) := by decide +kernel
theorem dJ6_bitCount_0f7a4_36 : decode cJ6_bitCount_0f7a4 36 = .ok (.bipush 8, 2) := by decide +kernel
theorem dJ6_bitCount_0f7a4_38 : decode cJ6_bitCount_0f7a4 38 = .ok (.iushr, 1) := by decide +kernel
theorem dJ6_bitCount_0f7a4_39 : decode cJ6_bitCount_0f7a4 39 = .ok (.iadd, 1) := by decide +kernel
theorem dJ6_bitCount_0f7a4_40 : decode cJ6_bitCount_0f7a4 40 = .ok (.istore_n 0, 1) := by decide +kernel
theorem dJ6_bitCount_0f7a4_41 : decode cJ6_bitCount_0f7a4 41 = .ok (.iload_n 0, 1) := by decide +kernel
theorem dJ6_bitCount_0f7a4_42 : decode cJ6_bitCount_0f7a4 42 = .ok (.iload_n 0, 1) := by decide +kernel
theorem dJ6_bitCount_0f7a4_43 : decode cJ6_bitCount_0f7a4 43 = .ok (.bipush 16, 2) := by decide +kernel
theorem dJ6_bitCount_0f7a4_45 : decode cJ6_bitCount_0f7a4 45 = .ok (.iushr, 1) := by decide +kernel
theorem dJ6_bitCount_0f7a4_46 : decode cJ6_bitCount_0f7a4 46 = .ok (.iadd, 1) := by decide +kernel
theorem dJ6_bitCount_0f7a4_47 : decode cJ6_bitCount_0f7a4 47 = .ok (.istore_n 0, 1) := by decide +kernel
theorem dJ6_bitCount_0f7a4_48 : decode cJ6_bitCount_0f7a4 48 = .ok (.iload_n 0, 1) := by decide +kernel
theorem dJ6_bitCount_0f7a4_49 : decode cJ6_bitCount_0f7a4 49 = .ok (.bipush 63, 2) := by decide +kernel
theorem dJ6_bitCount_0f7a4_51 : decode cJ6_bitCount_0f7a4 51 = .ok (.iand, 1) := by decide +kernel
theorem dJ6_bitCount_0f7a4_52 : decode cJ6_bitCount_0f7a4 52 = .ok (.ireturn, 1) := by decide +kernel
theorem dJ9_max_7cf53_0 : decode cJ9_max_7cf53 0 = .ok (.iload_n 0, 1) := by decide +kernel
theorem dJ9_max_7cf53_1 : decode cJ9_max_7cf53 1 = .ok (.iload_n 1, 1) := by decide +kernel
theorem dJ9_max_7cf53_2 : decode cJ9_max_7cf53 2 = .ok (.if_icmp .lt 7, 3) := by decide +kernel
theorem dJ9_max_7cf53_5 : decode cJ9_max_7cf53 5 = .ok (.iload_n 0, 1) := by decide +kernel
theorem dJ9_max_7cf53_6 : decode cJ9_max_7cf53 6 = .ok (.goto 4, 3) := by decide +kernel
theorem dJ9_max_7cf53_9 : decode cJ9_max_7cf53 9 = .ok (.iload_n 1, 1) := by decide +kernel
theorem dJ9_max_7cf53_10 : decode cJ9_max_7cf53 10 = .ok (.ireturn, 1) := by decide +kernel
theorem dJ9_min_7cf53_0 : decode cJ9_min_7cf53 0 = .ok (.iload_n 0, 1) := by decide +kernel
theorem dJ9_min_7cf53_1 : decode cJ9_min_7cf53 1 = .ok (.iload_n 1, 1) := by decide +kernel
theorem dJ9_min_7cf53_2 : decode cJ9_min_7cf53 2 = .ok (.if_icmp .gt 7, 3) := by decide +kernel
theorem dJ9_min_7cf53_5 : decode cJ9_min_7cf53 5 = .ok (.iload_n 0, 1) := by decide +kernel
theorem dJ9_min_7cf53_6 : decode cJ9_min_7cf53 6 = .ok (.goto 4, 3) := by decide +kernel
theorem dJ9_min_7cf53_9 : decode cJ9_min_7cf53 9 = .ok (.iload_n 1, 1) := by decide +kernel
theorem dJ9_min_7cf53_10 : decode cJ9_min_7cf53 10 = .ok (.ireturn, 1) := by decide +kernel
theorem dJ7_fill_53178_0 : decode cJ7_fill_53178 0 = .ok (.iconst 0, 1) := by decide +kernel
theorem dJ7_fill_53178_1 : decode cJ7_fill_53178 1 = .ok (.istore_n 2, 1) := by decide +kernel
theorem dJ7_fill_53178_2 : decode cJ7_fill_53178 2 = .ok (.aload_n 0, 1) := by decide +kernel
theorem dJ7_fill_53178_3 : decode cJ7_fill_53178 3 = .ok (.arraylength, 1) := by decide +kernel
theorem dJ7_fill_53178_4 : decode cJ7_fill_53178 4 = .ok (.istore_n 3, 1) := by decide +kernel
theorem dJ7_fill_53178_5 : decode cJ7_fill_53178 5 = .ok (.iload_n 2, 1) := by decide +kernel
theorem dJ7_fill_53178_6 : decode cJ7_fill_53178 6 = .ok (.iload_n 3, 1) := by decide +kernel
theorem dJ7_fill_53178_7 : decode cJ7_fill_53178 7 = .ok (.if_icmp .ge 13, 3) := by decide +kernel
theorem dJ7_fill_53178_10 : decode cJ7_fill_53178 10 = .ok (.aload_n 0, 1) := by decide +kernel
theorem dJ7_fill_53178_11 : decode cJ7_fill_53178 11 = .ok (.iload_n 2, 1) := by decide +kernel
theorem dJ7_fill_53178_12 : decode cJ7_fill_53178 12 = .ok (.iload_n 1, 1) := by decide +kernel
theorem dJ7_fill_53178_13 : decode cJ7_fill_53178 13 = .ok (.iastore, 1) := by decide +kernel
theorem dJ7_fill_53178_14 : decode cJ7_fill_53178 14 = .ok (.iinc 2 1, 3) := by decide +kernel
theorem dJ7_fill_53178_17 : decode cJ7_fill_53178 17 = .ok (.goto (-12), 3) := by decide +kernel
theorem dJ7_fill_53178_20 : decode cJ7_fill_53178 20 = .ok (.return_, 1) := by decide +kernel
end
section
theorem dX4_init_0 : decode cX4_init 0 = .ok (.aload_n 0, 1) := by decide +kernel
theorem dX4_init_1 : decode cX4_init 1 = .ok (.invokespecial 1, 3) := by decide +kernel
theorem dX4_init_4 : decode cX4_init 4 = .ok (.aload_n 0, 1) := by decide +kernel
theorem dX4_init_5 : decode cX4_init 5 = .ok (.bipush 14, 2) := by decide +kernel
theorem dX4_init_7 : decode cX4_init 7 = .ok (.newarray .int, 2) := by decide +kernel
theorem dX4_init_9 : decode cX4_init 9 = .ok (.putfield 7, 3) := by decide +kernel
theorem dX4_init_12 : decode cX4_init 12 = .ok (.aload_n 0, 1) := by decide +kernel
theorem dX4_init_13 : decode cX4_init 13 = .ok (.bipush 14, 2) := by decide +kernel
theorem dX4_init_15 : decode cX4_init 15 = .ok (.newarray .int, 2) := by decide +kernel
theorem dX4_init_17 : decode cX4_init 17 = .ok (.putfield 13, 3) := by decide +kernel
theorem dX4_init_20 : decode cX4_init 20 = .ok (.aload_n 0, 1) := by decide +kernel
theorem dX4_init_21 : decode cX4_init 21 = .ok (.bipush 14, 2) := by decide +kernel
theorem dX4_init_23 : decode cX4_init 23 = .ok (.newarray .int, 2) := by decide +kernel
theorem dX4_init_25 : decode cX4_init 25 = .ok (.putfield 16, 3) := by decide +kernel
theorem dX4_init_28 : decode cX4_init 28 = .ok (.aload_n 0, 1) := by decide +kernel
theorem dX4_init_29 : decode cX4_init 29 = .ok (.bipush 14, 2) := by decide +kernel
theorem dX4_init_31 : decode cX4_init 31 = .ok (.newarray .boolean, 2) := by decide +kernel
theorem dX4_init_33 : decode cX4_init 33 = .ok (.putfield 19, 3) := by decide +kernel
theorem dX4_init_36 : decode cX4_init 36 = .ok (.aload_n 0, 1) := by decide +kernel
theorem dX4_init_37 : decode cX4_init 37 = .ok (.iconst 5, 1) := by decide +kernel
theorem dX4_init_38 : decode cX4_init 38 = .ok (.newarray .int, 2) := by decide +kernel
theorem dX4_init_40 : decode cX4_init 40 = .ok (.putfield 23, 3) := by decide +kernel
theorem dX4_init_43 : decode cX4_init 43 = .ok (.aload_n 0, 1) := by decide +kernel
theorem dX4_init_44 : decode cX4_init 44 = .ok (.bipush 50, 2) := by decide +kernel
theorem dX4_init_46 : decode cX4_init 46 = .ok (.newarray .int, 2) := by decide +kernel
theorem dX4_init_48 : decode cX4_init 48 = .ok (.putfield 26, 3) := by decide +kernel
theorem dX4_init_51 : decode cX4_init 51 = .ok (.aload_n 0, 1) := by decide +kernel
theorem dX4_init_52 : decode cX4_init 52 = .ok (.bipush 10, 2) := by decide +kernel
theorem dX4_init_54 : decode cX4_init 54 = .ok (.newarray .int, 2) := by decide +kernel
theorem dX4_init_56 : decode cX4_init 56 = .ok (.putfield 29, 3) := by decide +kernel
theorem dX4_init_59 : decode cX4_init 59 = .ok (.aload_n 0, 1) := by decide +kernel
theorem dX4_init_60 : decode cX4_init 60 = .ok (.bipush 10, 2) := by decide +kernel
theorem dX4_init_62 : decode cX4_init 62 = .ok (.newarray .int, 2) := by decide +kernel
theorem dX4_init_64 : decode cX4_init 64 = .ok (.putfield 32, 3) := by decide +kernel
theorem dX4_init_67 : decode cX4_init 67 = .ok (.aload_n 0, 1) := by decide +kernel
theorem dX4_init_68 : decode cX4_init 68 = .ok (.sipush 140, 3) := by decide +kernel
theorem dX4_init_71 : decode cX4_init 71 = .ok (.newarray .boolean, 2) := by decide +kernel
theorem dX4_init_73 : decode cX4_init 73 = .ok (.putfield 35, 3) := by decide +kernel
theorem dX4_init_76 : decode cX4_init 76 = .ok (.aload_n 0, 1) := by decide +kernel
theorem dX4_init_77 : decode cX4_init 77 = .ok (.bipush 41, 2) := by decide +kernel
theorem dX4_init_79 : decode cX4_init 79 = .ok (.newarray .int, 2) := by decide +kernel
theorem dX4_init_81 : decode cX4_init 81 = .ok (.putfield 38, 3) := by decide +kernel
theorem dX4_init_84 : decode cX4_init 84 = .ok (.aload_n 0, 1) := by decide +kernel
theorem dX4_init_85 : decode cX4_init 85 = .ok (.bipush 41, 2) := by decide +kernel
theorem dX4_init_87 : decode cX4_init 87 = .ok (.newarray .int, 2) := by decide +kernel
theorem dX4_init_89 : decode cX4_init 89 = .ok (.putfield 41, 3) := by decide +kernel
theorem dX4_init_92 : decode cX4_init 92 = .ok (.aload_n 0, 1) := by decide +kernel
theorem dX4_init_93 : decode cX4_init 93 = .ok (.sipush 1024, 3) := by decide +kernel
theorem dX4_init_96 : decode cX4_init 96 = .ok (.newarray .boolean, 2) := by decide +kernel
theorem dX4_init_98 : decode cX4_init 98 = .ok (.putfield 44, 3) := by decide +kernel
theorem dX4_init_101 : decode cX4_init 101 = .ok (.iconst 0, 1) := by decide +kernel
theorem dX4_init_102 : decode cX4_init 102 = .ok (.istore_n 1, 1) := by decide +kernel
theorem dX4_init_103 : decode cX4_init 103 = .ok (.iload_n 1, 1) := by decide +kernel
theorem dX4_init_104 : decode cX4_init 104 = .ok (.bipush 50, 2) := by decide +kernel
theorem dX4_init_106 : decode cX4_init 106 = .ok (.if_icmp .ge 17, 3) := by decide +kernel
theorem dX4_init_109 : decode cX4_init 109 = .ok (.aload_n 0, 1) := by decide +kernel
theorem dX4_init_110 : decode cX4_init 110 = .ok (.getfield 26, 3) := by decide +kernel
theorem dX4_init_113 : decode cX4_init 113 = .ok (.iload_n 1, 1) := by decide +kernel
theorem dX4_init_114 : decode cX4_init 114 = .ok (.bipush (-9), 2) := by decide +kernel
theorem dX4_init_116 : decode cX4_init 116 = .ok (.iastore, 1) := by decide +kernel
theorem dX4_init_117 : decode cX4_init 117 = .ok (.iinc 1 1, 3) := by decide +kernel
theorem dX4_init_120 : decode cX4_init 120 = .ok (.goto (-17), 3) := by decide +kernel
theorem dX4_init_123 : decode cX4_init 123 = .ok (.return_, 1) := by decide +kernel
theorem dX4_within_0 : decode cX4_within 0 = .ok (.iload_n 0, 1) := by decide +kernel
theorem dX4_within_1 : decode cX4_within 1 = .ok (.iload_n 1, 1) := by decide +kernel
theorem dX4_within_2 : decode cX4_within 2 = .ok (.if_icmp .lt 12, 3) := by decide +kernel
theorem dX4_within_5 : decode cX4_within 5 = .ok (.iload_n 0, 1) := by decide +kernel
theorem dX4_within_6 : decode cX4_within 6 = .ok (.iload_n 2, 1) := by decide +kernel
theorem dX4_within_7 : decode cX4_within 7 = .ok (.if_icmp .gt 7, 3) := by decide +kernel
theorem dX4_within_10 : decode cX4_within 10 = .ok (.iconst 1, 1) := by decide +kernel
theorem dX4_within_11 : decode cX4_within 11 = .ok (.goto 4, 3) := by decide +kernel
theorem dX4_within_14 : decode cX4_within 14 = .ok (.iconst 0, 1) := by decide +kernel
theorem dX4_within_15 : decode cX4_within 15 = .ok (.ireturn, 1) := by decide +kernel
theorem dX4_isPlace_0 : decode cX4_isPlace 0 = .ok (.iload_n 0, 1) := by decide +kernel
theorem dX4_isPlace_1 : decode cX4_isPlace 1 = .ok (.iconst 0, 1) := by decide +kernel
theorem dX4_isPlace_2 : decode cX4_isPlace 2 = .ok (.bipush 9, 2) := by decide +kernel
theorem dX4_isPlace_4 : decode cX4_isPlace 4 = .ok (.invokestatic 47, 3) := by decide +kernel
theorem dX4_isPlace_7 : decode cX4_isPlace 7 = .ok (.ireturn, 1) := by decide +kernel
theorem dX4_isWalk_0 : decode cX4_isWalk 0 = .ok (.iload_n 1, 1) := by decide +kernel
theorem dX4_isWalk_1 : decode cX4_isWalk 1 = .ok (.iconst 0, 1) := by decide +kernel
theorem dX4_isWalk_2 : decode cX4_isWalk 2 = .ok (.aload_n 0, 1) := by decide +kernel
theorem dX4_isWalk_3 : decode cX4_isWalk 3 = .ok (.getfield 51, 3) := by decide +kernel
theorem dX4_isWalk_6 : decode cX4_isWalk 6 = .ok (.iconst 1, 1) := by decide +kernel
theorem dX4_isWalk_7 : decode cX4_isWalk 7 = .ok (.isub, 1) := by decide +kernel
theorem dX4_isWalk_8 : decode cX4_isWalk 8 = .ok (.invokestatic 47, 3) := by decide +kernel
theorem dX4_isWalk_11 : decode cX4_isWalk 11 = .ok (.ireturn, 1) := by decide +kernel
theorem dX4_isName_0 : decode cX4_isName 0 = .ok (.iload_n 1, 1) := by decide +kernel
theorem dX4_isName_1 : decode cX4_isName 1 = .ok (.iconst 0, 1) := by decide +kernel
theorem dX4_isName_2 : decode cX4_isName 2 = .ok (.aload_n 0, 1) := by decide +kernel
theorem dX4_isName_3 : decode cX4_isName 3 = .ok (.getfield 55, 3) := by decide +kernel
theorem dX4_isName_6 : decode cX4_isName 6 = .ok (.iconst 1, 1) := by decide +kernel
theorem dX4_isName_7 : decode cX4_isName 7 = .ok (.isub, 1) := by decide +kernel
theorem dX4_isName_8 : decode cX4_isName 8 = .ok (.invokestatic 47, 3) := by decide +kernel
theorem dX4_isName_11 : decode cX4_isName 11 = .ok (.ireturn, 1) := by decide +kernel
theorem dX4_walkBetween_0 : decode cX4_walkBetween 0 = .ok (.iconst 0, 1) := by decide +kernel
theorem dX4_walkBetween_1 : decode cX4_walkBetween 1 = .ok (.istore_n 3, 1) := by decide +kernel
theorem dX4_walkBetween_2 : decode cX4_walkBetween 2 = .ok (.iload_n 3, 1) := by decide +kernel
theorem dX4_walkBetween_3 : decode cX4_walkBetween 3 = .ok (.aload_n 0, 1) := by decide +kernel
theorem dX4_walkBetween_4 : decode cX4_walkBetween 4 = .ok (.getfield 51, 3) := by decide +kernel
theorem dX4_walkBetween_7 : decode cX4_walkBetween 7 = .ok (.if_icmp .ge 51, 3) := by decide +kernel
theorem dX4_walkBetween_10 : decode cX4_walkBetween 10 = .ok (.aload_n 0, 1) := by decide +kernel
theorem dX4_walkBetween_11 : decode cX4_walkBetween 11 = .ok (.getfield 7, 3) := by decide +kernel
theorem dX4_walkBetween_14 : decode cX4_walkBetween 14 = .ok (.iload_n 3, 1) := by decide +kernel
theorem dX4_walkBetween_15 : decode cX4_walkBetween 15 = .ok (.iaload, 1) := by decide +kernel
theorem dX4_walkBetween_16 : decode cX4_walkBetween 16 = .ok (.iload_n 1, 1) := by decide +kernel
theorem dX4_walkBetween_17 : decode cX4_walkBetween 17 = .ok (.if_icmp .ne 13, 3) := by decide +kernel
theorem dX4_walkBetween_20 : decode cX4_walkBetween 20 = .ok (.aload_n 0, 1) := by decide +kernel
theorem dX4_walkBetween_21 : decode cX4_walkBetween 21 = .ok (.getfield 13, 3) := by decide +kernel
theorem dX4_walkBetween_24 : decode cX4_walkBetween 24 = .ok (.iload_n 3, 1) := by decide +kernel
theorem dX4_walkBetween_25 : decode cX4_walkBetween 25 = .ok (.iaload, 1) := by decide +kernel
theorem dX4_walkBetween_26 : decode cX4_walkBetween 26 = .ok (.iload_n 2, 1) := by decide +kernel
theorem dX4_walkBetween_27 : decode cX4_walkBetween 27 = .ok (.if_icmp .eq 23, 3) := by decide +kernel
theorem dX4_walkBetween_30 : decode cX4_walkBetween 30 = .ok (.aload_n 0, 1) := by decide +kernel
theorem dX4_walkBetween_31 : decode cX4_walkBetween 31 = .ok (.getfield 7, 3) := by decide +kernel
theorem dX4_walkBetween_34 : decode cX4_walkBetween 34 = .ok (.iload_n 3, 1) := by decide +kernel
theorem dX4_walkBetween_35 : decode cX4_walkBetween 35 = .ok (.iaload, 1) := by decide +kernel
theorem dX4_walkBetween_36 : decode cX4_walkBetween 36 = .ok (.iload_n 2, 1) := by decide +kernel
theorem dX4_walkBetween_37 : decode cX4_walkBetween 37 = .ok (.if_icmp .ne 15, 3) := by decide +kernel
theorem dX4_walkBetween_40 : decode cX4_walkBetween 40 = .ok (.aload_n 0, 1) := by decide +kernel
theorem dX4_walkBetween_41 : decode cX4_walkBetween 41 = .ok (.getfield 13, 3) := by decide +kernel
theorem dX4_walkBetween_44 : decode cX4_walkBetween 44 = .ok (.iload_n 3, 1) := by decide +kernel
theorem dX4_walkBetween_45 : decode cX4_walkBetween 45 = .ok (.iaload, 1) := by decide +kernel
theorem dX4_walkBetween_46 : decode cX4_walkBetween 46 = .ok (.iload_n 1, 1) := by decide +kernel
theorem dX4_walkBetween_47 : decode cX4_walkBetween 47 = .ok (.if_icmp .ne 5, 3) := by decide +kernel
theorem dX4_walkBetween_50 : decode cX4_walkBetween 50 = .ok (.iload_n 3, 1) := by decide +kernel
theorem dX4_walkBetween_51 : decode cX4_walkBetween 51 = .ok (.ireturn, 1) := by decide +kernel
theorem dX4_walkBetween_52 : decode cX4_walkBetween 52 = .ok (.iinc 3 1, 3) := by decide +kernel
theorem dX4_walkBetween_55 : decode cX4_walkBetween 55 = .ok (.goto (-53), 3) := by decide +kernel
theorem dX4_walkBetween_58 : decode cX4_walkBetween 58 = .ok (.bipush (-9), 2) := by decide +kernel
theorem dX4_walkBetween_60 : decode cX4_walkBetween 60 = .ok (.ireturn, 1) := by decide +kernel
theorem dX4_openBetween_0 : decode cX4_openBetween 0 = .ok (.aload_n 0, 1) := by decide +kernel
theorem dX4_openBetween_1 : decode cX4_openBetween 1 = .ok (.iload_n 1, 1) := by decide +kernel
theorem dX4_openBetween_2 : decode cX4_openBetween 2 = .ok (.iload_n 2, 1) := by decide +kernel
theorem dX4_openBetween_3 : decode cX4_openBetween 3 = .ok (.invokevirtual 58, 3) := by decide +kernel
theorem dX4_openBetween_6 : decode cX4_openBetween 6 = .ok (.istore_n 3, 1) := by decide +kernel
theorem dX4_openBetween_7 : decode cX4_openBetween 7 = .ok (.iload_n 3, 1) := by decide +kernel
theorem dX4_openBetween_8 : decode cX4_openBetween 8 = .ok (.bipush (-9), 2) := by decide +kernel
theorem dX4_openBetween_10 : decode cX4_openBetween 10 = .ok (.if_icmp .eq 16, 3) := by decide +kernel
theorem dX4_openBetween_13 : decode cX4_openBetween 13 = .ok (.aload_n 0, 1) := by decide +kernel
theorem dX4_openBetween_14 : decode cX4_openBetween 14 = .ok (.getfield 19, 3) := by decide +kernel
theorem dX4_openBetween_17 : decode cX4_openBetween 17 = .ok (.iload_n 3, 1) := by decide +kernel
theorem dX4_openBetween_18 : decode cX4_openBetween 18 = .ok (.baload, 1) := by decide +kernel
theorem dX4_openBetween_19 : decode cX4_openBetween 19 = .ok (.ifCond .eq 7, 3) := by decide +kernel
theorem dX4_openBetween_22 : decode cX4_openBetween 22 = .ok (.iload_n 3, 1) := by decide +kernel
theorem dX4_openBetween_23 : decode cX4_openBetween 23 = .ok (.goto 5, 3) := by decide +kernel
theorem dX4_openBetween_26 : decode cX4_openBetween 26 = .ok (.bipush (-9), 2) := by decide +kernel
theorem dX4_openBetween_28 : decode cX4_openBetween 28 = .ok (.ireturn, 1) := by decide +kernel
theorem dX4_walk_0 : decode cX4_walk 0 = .ok (.iload_n 1, 1) := by decide +kernel
theorem dX4_walk_1 : decode cX4_walk 1 = .ok (.invokestatic 62, 3) := by decide +kernel
theorem dX4_walk_4 : decode cX4_walk 4 = .ok (.ifCond .eq 15, 3) := by decide +kernel
theorem dX4_walk_7 : decode cX4_walk 7 = .ok (.iload_n 2, 1) := by decide +kernel
theorem dX4_walk_8 : decode cX4_walk 8 = .ok (.invokestatic 62, 3) := by decide +kernel
theorem dX4_walk_11 : decode cX4_walk 11 = .ok (.ifCond .eq 8, 3) := by decide +kernel
theorem dX4_walk_14 : decode cX4_walk 14 = .ok (.iload_n 1, 1) := by decide +kernel
theorem dX4_walk_15 : decode cX4_walk 15 = .ok (.iload_n 2, 1) := by decide +kernel
theorem dX4_walk_16 : decode cX4_walk 16 = .ok (.if_icmp .ne 5, 3) := by decide +kernel
theorem dX4_walk_19 : decode cX4_walk 19 = .ok (.iconst (-1), 1) := by decide +kernel
theorem dX4_walk_20 : decode cX4_walk 20 = .ok (.ireturn, 1) := by decide +kernel
theorem dX4_walk_21 : decode cX4_walk 21 = .ok (.iload_n 3, 1) := by decide +kernel
theorem dX4_walk_22 : decode cX4_walk 22 = .ok (.iconst 1, 1) := by decide +kernel
theorem dX4_walk_23 : decode cX4_walk 23 = .ok (.bipush 99, 2) := by decide +kernel
theorem dX4_walk_25 : decode cX4_walk 25 = .ok (.invokestatic 47, 3) := by decide +kernel
theorem dX4_walk_28 : decode cX4_walk 28 = .ok (.ifCond .ne 6, 3) := by decide +kernel
theorem dX4_walk_31 : decode cX4_walk 31 = .ok (.bipush (-2), 2) := by decide +kernel
theorem dX4_walk_33 : decode cX4_walk 33 = .ok (.ireturn, 1) := by decide +kernel
theorem dX4_walk_34 : decode cX4_walk 34 = .ok (.aload_n 0, 1) := by decide +kernel
theorem dX4_walk_35 : decode cX4_walk 35 = .ok (.iload_n 1, 1) := by decide +kernel
theorem dX4_walk_36 : decode cX4_walk 36 = .ok (.iload_n 2, 1) := by decide +kernel
theorem dX4_walk_37 : decode cX4_walk 37 = .ok (.invokevirtual 58, 3) := by decide +kernel
theorem dX4_walk_40 : decode cX4_walk 40 = .ok (.bipush (-9), 2) := by decide +kernel
theorem dX4_walk_42 : decode cX4_walk 42 = .ok (.if_icmp .eq 6, 3) := by decide +kernel
theorem dX4_walk_45 : decode cX4_walk 45 = .ok (.bipush (-3), 2) := by decide +kernel
theorem dX4_walk_47 : decode cX4_walk 47 = .ok (.ireturn, 1) := by decide +kernel
theorem dX4_walk_48 : decode cX4_walk 48 = .ok (.aload_n 0, 1) := by decide +kernel
theorem dX4_walk_49 : decode cX4_walk 49 = .ok (.getfield 51, 3) := by decide +kernel
theorem dX4_walk_52 : decode cX4_walk 52 = .ok (.bipush 14, 2) := by decide +kernel
theorem dX4_walk_54 : decode cX4_walk 54 = .ok (.if_icmp .ne 6, 3) := by decide +kernel
theorem dX4_walk_57 : decode cX4_walk 57 = .ok (.bipush (-4), 2) := by decide +kernel
theorem dX4_walk_59 : decode cX4_walk 59 = .ok (.ireturn, 1) := by decide +kernel
theorem dX4_walk_60 : decode cX4_walk 60 = .ok (.aload_n 0, 1) := by decide +kernel
theorem dX4_walk_61 : decode cX4_walk 61 = .ok (.getfield 7, 3) := by decide +kernel
theorem dX4_walk_64 : decode cX4_walk 64 = .ok (.aload_n 0, 1) := by decide +kernel
theorem dX4_walk_65 : decode cX4_walk 65 = .ok (.getfield 51, 3) := by decide +kernel
theorem dX4_walk_68 : decode cX4_walk 68 = .ok (.iload_n 1, 1) := by decide +kernel
theorem dX4_walk_69 : decode cX4_walk 69 = .ok (.iload_n 2, 1) := by decide +kernel
theorem dX4_walk_70 : decode cX4_walk 70 = .ok (.if_icmp .ge 7, 3) := by decide +kernel
theorem dX4_walk_73 : decode cX4_walk 73 = .ok (.iload_n 1, 1) := by decide +kernel
theorem dX4_walk_74 : decode cX4_walk 74 = .ok (.goto 4, 3) := by decide +kernel
theorem dX4_walk_77 : decode cX4_walk 77 = .ok (.iload_n 2, 1) := by decide +kernel
theorem dX4_walk_78 : decode cX4_walk 78 = .ok (.iastore, 1) := by decide +kernel
theorem dX4_walk_79 : decode cX4_walk 79 = .ok (.aload_n 0, 1) := by decide +kernel
theorem dX4_walk_80 : decode cX4_walk 80 = .ok (.getfield 13, 3) := by decide +kernel
theorem dX4_walk_83 : decode cX4_walk 83 = .ok (.aload_n 0, 1) := by decide +kernel
theorem dX4_walk_84 : decode cX4_walk 84 = .ok (.getfield 51, 3) := by decide +kernel
theorem dX4_walk_87 : decode cX4_walk 87 = .ok (.iload_n 1, 1) := by decide +kernel
theorem dX4_walk_88 : decode cX4_walk 88 = .ok (.iload_n 2, 1) := by decide +kernel
theorem dX4_walk_89 : decode cX4_walk 89 = .ok (.if_icmp .ge 7, 3) := by decide +kernel
theorem dX4_walk_92 : decode cX4_walk 92 = .ok (.iload_n 2, 1) := by decide +kernel
theorem dX4_walk_93 : decode cX4_walk 93 = .ok (.goto 4, 3) := by decide +kernel
theorem dX4_walk_96 : decode cX4_walk 96 = .ok (.iload_n 1, 1) := by decide +kernel
theorem dX4_walk_97 : decode cX4_walk 97 = .ok (.iastore, 1) := by decide +kernel
theorem dX4_walk_98 : decode cX4_walk 98 = .ok (.aload_n 0, 1) := by decide +kernel
theorem dX4_walk_99 : decode cX4_walk 99 = .ok (.getfield 16, 3) := by decide +kernel
theorem dX4_walk_102 : decode cX4_walk 102 = .ok (.aload_n 0, 1) := by decide +kernel
theorem dX4_walk_103 : decode cX4_walk 103 = .ok (.getfield 51, 3) := by decide +kernel
theorem dX4_walk_106 : decode cX4_walk 106 = .ok (.iload_n 3, 1) := by decide +kernel
theorem dX4_walk_107 : decode cX4_walk 107 = .ok (.iastore, 1) := by decide +kernel
theorem dX4_walk_108 : decode cX4_walk 108 = .ok (.aload_n 0, 1) := by decide +kernel
theorem dX4_walk_109 : decode cX4_walk 109 = .ok (.getfield 19, 3) := by decide +kernel
theorem dX4_walk_112 : decode cX4_walk 112 = .ok (.aload_n 0, 1) := by decide +kernel
theorem dX4_walk_113 : decode cX4_walk 113 = .ok (.getfield 51, 3) := by decide +kernel
theorem dX4_walk_116 : decode cX4_walk 116 = .ok (.iconst 1, 1) := by decide +kernel
theorem dX4_walk_117 : decode cX4_walk 117 = .ok (.bastore, 1) := by decide +kernel
theorem dX4_walk_118 : decode cX4_walk 118 = .ok (.aload_n 0, 1) := by decide +kernel
theorem dX4_walk_119 : decode cX4_walk 119 = .ok (.dup, 1) := by decide +kernel
theorem dX4_walk_120 : decode cX4_walk 120 = .ok (.getfield 51, 3) := by decide +kernel
theorem dX4_walk_123 : decode cX4_walk 123 = .ok (.iconst 1, 1) := by decide +kernel
theorem dX4_walk_124 : decode cX4_walk 124 = .ok (.iadd, 1) := by decide +kernel
theorem dX4_walk_125 : decode cX4_walk 125 = .ok (.putfield 51, 3) := by decide +kernel
theorem dX4_walk_128 : decode cX4_walk 128 = .ok (.aload_n 0, 1) := by decide +kernel
theorem dX4_walk_129 : decode cX4_walk 129 = .ok (.getfield 51, 3) := by decide +kernel
theorem dX4_walk_132 : decode cX4_walk 132 = .ok (.iconst 1, 1) := by decide +kernel
theorem dX4_walk_133 : decode cX4_walk 133 = .ok (.isub, 1) := by decide +kernel
theorem dX4_walk_134 : decode cX4_walk 134 = .ok (.ireturn, 1) := by decide +kernel
theorem dX4_unwalk_0 : decode cX4_unwalk 0 = .ok (.aload_n 0, 1) := by decide +kernel
theorem dX4_unwalk_1 : decode cX4_unwalk 1 = .ok (.getfield 51, 3) := by decide +kernel
theorem dX4_unwalk_4 : decode cX4_unwalk 4 = .ok (.ifCond .ne 6, 3) := by decide +kernel
theorem dX4_unwalk_7 : decode cX4_unwalk 7 = .ok (.bipush (-3), 2) := by decide +kernel
theorem dX4_unwalk_9 : decode cX4_unwalk 9 = .ok (.ireturn, 1) := by decide +kernel
theorem dX4_unwalk_10 : decode cX4_unwalk 10 = .ok (.aload_n 0, 1) := by decide +kernel
theorem dX4_unwalk_11 : decode cX4_unwalk 11 = .ok (.dup, 1) := by decide +kernel
theorem dX4_unwalk_12 : decode cX4_unwalk 12 = .ok (.getfield 51, 3) := by decide +kernel
theorem dX4_unwalk_15 : decode cX4_unwalk 15 = .ok (.iconst 1, 1) := by decide +kernel
theorem dX4_unwalk_16 : decode cX4_unwalk 16 = .ok (.isub, 1) := by decide +kernel
theorem dX4_unwalk_17 : decode cX4_unwalk 17 = .ok (.putfield 51, 3) := by decide +kernel
theorem dX4_unwalk_20 : decode cX4_unwalk 20 = .ok (.aload_n 0, 1) := by decide +kernel
theorem dX4_unwalk_21 : decode cX4_unwalk 21 = .ok (.getfield 51, 3) := by decide +kernel
theorem dX4_unwalk_24 : decode cX4_unwalk 24 = .ok (.ireturn, 1) := by decide +kernel
theorem dX4_open_0 : decode cX4_open 0 = .ok (.aload_n 0, 1) := by decide +kernel
theorem dX4_open_1 : decode cX4_open 1 = .ok (.iload_n 1, 1) := by decide +kernel
theorem dX4_open_2 : decode cX4_open 2 = .ok (.invokevirtual 66, 3) := by decide +kernel
theorem dX4_open_5 : decode cX4_open 5 = .ok (.ifCond .ne 5, 3) := by decide +kernel
theorem dX4_open_8 : decode cX4_open 8 = .ok (.iconst (-1), 1) := by decide +kernel
theorem dX4_open_9 : decode cX4_open 9 = .ok (.ireturn, 1) := by decide +kernel
theorem dX4_open_10 : decode cX4_open 10 = .ok (.aload_n 0, 1) := by decide +kernel
theorem dX4_open_11 : decode cX4_open 11 = .ok (.getfield 19, 3) := by decide +kernel
theorem dX4_open_14 : decode cX4_open 14 = .ok (.iload_n 1, 1) := by decide +kernel
theorem dX4_open_15 : decode cX4_open 15 = .ok (.baload, 1) := by decide +kernel
theorem dX4_open_16 : decode cX4_open 16 = .ok (.iload_n 2, 1) := by decide +kernel
theorem dX4_open_17 : decode cX4_open 17 = .ok (.if_icmp .ne 5, 3) := by decide +kernel
theorem dX4_open_20 : decode cX4_open 20 = .ok (.iconst 0, 1) := by decide +kernel
theorem dX4_open_21 : decode cX4_open 21 = .ok (.ireturn, 1) := by decide +kernel
theorem dX4_open_22 : decode cX4_open 22 = .ok (.aload_n 0, 1) := by decide +kernel
theorem dX4_open_23 : decode cX4_open 23 = .ok (.getfield 19, 3) := by decide +kernel
theorem dX4_open_26 : decode cX4_open 26 = .ok (.iload_n 1, 1) := by decide +kernel
theorem dX4_open_27 : decode cX4_open 27 = .ok (.iload_n 2, 1) := by decide +kernel
theorem dX4_open_28 : decode cX4_open 28 = .ok (.bastore, 1) := by decide +kernel
theorem dX4_open_29 : decode cX4_open 29 = .ok (.iconst 1, 1) := by decide +kernel
theorem dX4_open_30 : decode cX4_open 30 = .ok (.ireturn, 1) := by decide +kernel
theorem dX4_ofWalk_0 : decode cX4_ofWalk 0 = .ok (.aload_n 0, 1) := by decide +kernel
theorem dX4_ofWalk_1 : decode cX4_ofWalk 1 = .ok (.iload_n 1, 1) := by decide +kernel
theorem dX4_ofWalk_2 : decode cX4_ofWalk 2 = .ok (.invokevirtual 66, 3) := by decide +kernel
theorem dX4_ofWalk_5 : decode cX4_ofWalk 5 = .ok (.ifCond .ne 5, 3) := by decide +kernel
theorem dX4_ofWalk_8 : decode cX4_ofWalk 8 = .ok (.iconst (-1), 1) := by decide +kernel
theorem dX4_ofWalk_9 : decode cX4_ofWalk 9 = .ok (.ireturn, 1) := by decide +kernel
theorem dX4_ofWalk_10 : decode cX4_ofWalk 10 = .ok (.iload_n 2, 1) := by decide +kernel
theorem dX4_ofWalk_11 : decode cX4_ofWalk 11 = .ok (.tableswitch 65 0 3 #[29, 36, 43, 50], 29) := by decide +kernel
theorem dX4_ofWalk_40 : decode cX4_ofWalk 40 = .ok (.aload_n 0, 1) := by decide +kernel
theorem dX4_ofWalk_41 : decode cX4_ofWalk 41 = .ok (.getfield 7, 3) := by decide +kernel
theorem dX4_ofWalk_44 : decode cX4_ofWalk 44 = .ok (.iload_n 1, 1) := by decide +kernel
theorem dX4_ofWalk_45 : decode cX4_ofWalk 45 = .ok (.iaload, 1) := by decide +kernel
theorem dX4_ofWalk_46 : decode cX4_ofWalk 46 = .ok (.ireturn, 1) := by decide +kernel
theorem dX4_ofWalk_47 : decode cX4_ofWalk 47 = .ok (.aload_n 0, 1) := by decide +kernel
theorem dX4_ofWalk_48 : decode cX4_ofWalk 48 = .ok (.getfield 13, 3) := by decide +kernel
theorem dX4_ofWalk_51 : decode cX4_ofWalk 51 = .ok (.iload_n 1, 1) := by decide +kernel
theorem dX4_ofWalk_52 : decode cX4_ofWalk 52 = .ok (.iaload, 1) := by decide +kernel
theorem dX4_ofWalk_53 : decode cX4_ofWalk 53 = .ok (.ireturn, 1) := by decide +kernel
theorem dX4_ofWalk_54 : decode cX4_ofWalk 54 = .ok (.aload_n 0, 1) := by decide +kernel
theorem dX4_ofWalk_55 : decode cX4_ofWalk 55 = .ok (.getfield 16, 3) := by decide +kernel
theorem dX4_ofWalk_58 : decode cX4_ofWalk 58 = .ok (.iload_n 1, 1) := by decide +kernel
theorem dX4_ofWalk_59 : decode cX4_ofWalk 59 = .ok (.iaload, 1) := by decide +kernel
theorem dX4_ofWalk_60 : decode cX4_ofWalk 60 = .ok (.ireturn, 1) := by decide +kernel
theorem dX4_ofWalk_61 : decode cX4_ofWalk 61 = .ok (.aload_n 0, 1) := by decide +kernel
theorem dX4_ofWalk_62 : decode cX4_ofWalk 62 = .ok (.getfield 19, 3) := by decide +kernel
theorem dX4_ofWalk_65 : decode cX4_ofWalk 65 = .ok (.iload_n 1, 1) := by decide +kernel
theorem dX4_ofWalk_66 : decode cX4_ofWalk 66 = .ok (.baload, 1) := by decide +kernel
theorem dX4_ofWalk_67 : decode cX4_ofWalk 67 = .ok (.ifCond .eq 7, 3) := by decide +kernel
theorem dX4_ofWalk_70 : decode cX4_ofWalk 70 = .ok (.iconst 1, 1) := by decide +kernel
theorem dX4_ofWalk_71 : decode cX4_ofWalk 71 = .ok (.goto 4, 3) := by decide +kernel
theorem dX4_ofWalk_74 : decode cX4_ofWalk 74 = .ok (.iconst 0, 1) := by decide +kernel
theorem dX4_ofWalk_75 : decode cX4_ofWalk 75 = .ok (.ireturn, 1) := by decide +kernel
theorem dX4_ofWalk_76 : decode cX4_ofWalk 76 = .ok (.bipush (-2), 2) := by decide +kernel
theorem dX4_ofWalk_78 : decode cX4_ofWalk 78 = .ok (.ireturn, 1) := by decide +kernel
theorem dX4_name_0 : decode cX4_name 0 = .ok (.iload_n 1, 1) := by decide +kernel
theorem dX4_name_1 : decode cX4_name 1 = .ok (.invokestatic 62, 3) := by decide +kernel
theorem dX4_name_4 : decode cX4_name 4 = .ok (.ifCond .ne 5, 3) := by decide +kernel
theorem dX4_name_7 : decode cX4_name 7 = .ok (.iconst (-1), 1) := by decide +kernel
theorem dX4_name_8 : decode cX4_name 8 = .ok (.ireturn, 1) := by decide +kernel
theorem dX4_name_9 : decode cX4_name 9 = .ok (.aload_n 0, 1) := by decide +kernel
theorem dX4_name_10 : decode cX4_name 10 = .ok (.getfield 55, 3) := by decide +kernel
theorem dX4_name_13 : decode cX4_name 13 = .ok (.iconst 5, 1) := by decide +kernel
theorem dX4_name_14 : decode cX4_name 14 = .ok (.if_icmp .ne 6, 3) := by decide +kernel
theorem dX4_name_17 : decode cX4_name 17 = .ok (.bipush (-4), 2) := by decide +kernel
theorem dX4_name_19 : decode cX4_name 19 = .ok (.ireturn, 1) := by decide +kernel
theorem dX4_name_20 : decode cX4_name 20 = .ok (.aload_n 0, 1) := by decide +kernel
theorem dX4_name_21 : decode cX4_name 21 = .ok (.getfield 23, 3) := by decide +kernel
theorem dX4_name_24 : decode cX4_name 24 = .ok (.aload_n 0, 1) := by decide +kernel
theorem dX4_name_25 : decode cX4_name 25 = .ok (.getfield 55, 3) := by decide +kernel
theorem dX4_name_28 : decode cX4_name 28 = .ok (.iload_n 1, 1) := by decide +kernel
theorem dX4_name_29 : decode cX4_name 29 = .ok (.iastore, 1) := by decide +kernel
theorem dX4_name_30 : decode cX4_name 30 = .ok (.aload_n 0, 1) := by decide +kernel
theorem dX4_name_31 : decode cX4_name 31 = .ok (.dup, 1) := by decide +kernel
theorem dX4_name_32 : decode cX4_name 32 = .ok (.getfield 55, 3) := by decide +kernel
theorem dX4_name_35 : decode cX4_name 35 = .ok (.iconst 1, 1) := by decide +kernel
theorem dX4_name_36 : decode cX4_name 36 = .ok (.iadd, 1) := by decide +kernel
theorem dX4_name_37 : decode cX4_name 37 = .ok (.putfield 55, 3) := by decide +kernel
theorem dX4_name_40 : decode cX4_name 40 = .ok (.aload_n 0, 1) := by decide +kernel
theorem dX4_name_41 : decode cX4_name 41 = .ok (.getfield 55, 3) := by decide +kernel
theorem dX4_name_44 : decode cX4_name 44 = .ok (.iconst 1, 1) := by decide +kernel
theorem dX4_name_45 : decode cX4_name 45 = .ok (.isub, 1) := by decide +kernel
theorem dX4_name_46 : decode cX4_name 46 = .ok (.ireturn, 1) := by decide +kernel
theorem dX4_moves_0 : decode cX4_moves 0 = .ok (.aload_n 0, 1) := by decide +kernel
theorem dX4_moves_1 : decode cX4_moves 1 = .ok (.iload_n 1, 1) := by decide +kernel
theorem dX4_moves_2 : decode cX4_moves 2 = .ok (.invokevirtual 69, 3) := by decide +kernel
theorem dX4_moves_5 : decode cX4_moves 5 = .ok (.ifCond .eq 10, 3) := by decide +kernel
theorem dX4_moves_8 : decode cX4_moves 8 = .ok (.iload_n 2, 1) := by decide +kernel
theorem dX4_moves_9 : decode cX4_moves 9 = .ok (.invokestatic 62, 3) := by decide +kernel
theorem dX4_moves_12 : decode cX4_moves 12 = .ok (.ifCond .ne 5, 3) := by decide +kernel
theorem dX4_moves_15 : decode cX4_moves 15 = .ok (.iconst (-1), 1) := by decide +kernel
theorem dX4_moves_16 : decode cX4_moves 16 = .ok (.ireturn, 1) := by decide +kernel
theorem dX4_moves_17 : decode cX4_moves 17 = .ok (.aload_n 0, 1) := by decide +kernel
theorem dX4_moves_18 : decode cX4_moves 18 = .ok (.getfield 23, 3) := by decide +kernel
theorem dX4_moves_21 : decode cX4_moves 21 = .ok (.iload_n 1, 1) := by decide +kernel
theorem dX4_moves_22 : decode cX4_moves 22 = .ok (.iaload, 1) := by decide +kernel
theorem dX4_moves_23 : decode cX4_moves 23 = .ok (.istore_n 3, 1) := by decide +kernel
theorem dX4_moves_24 : decode cX4_moves 24 = .ok (.aload_n 0, 1) := by decide +kernel
theorem dX4_moves_25 : decode cX4_moves 25 = .ok (.getfield 23, 3) := by decide +kernel
theorem dX4_moves_28 : decode cX4_moves 28 = .ok (.iload_n 1, 1) := by decide +kernel
theorem dX4_moves_29 : decode cX4_moves 29 = .ok (.iload_n 2, 1) := by decide +kernel
theorem dX4_moves_30 : decode cX4_moves 30 = .ok (.iastore, 1) := by decide +kernel
theorem dX4_moves_31 : decode cX4_moves 31 = .ok (.iload_n 3, 1) := by decide +kernel
theorem dX4_moves_32 : decode cX4_moves 32 = .ok (.ireturn, 1) := by decide +kernel
theorem dX4_isIn_0 : decode cX4_isIn 0 = .ok (.iload_n 0, 1) := by decide +kernel
theorem dX4_isIn_1 : decode cX4_isIn 1 = .ok (.iload_n 1, 1) := by decide +kernel
theorem dX4_isIn_2 : decode cX4_isIn 2 = .ok (.ishr, 1) := by decide +kernel
theorem dX4_isIn_3 : decode cX4_isIn 3 = .ok (.iconst 1, 1) := by decide +kernel
theorem dX4_isIn_4 : decode cX4_isIn 4 = .ok (.iand, 1) := by decide +kernel
theorem dX4_isIn_5 : decode cX4_isIn 5 = .ok (.iconst 1, 1) := by decide +kernel
theorem dX4_isIn_6 : decode cX4_isIn 6 = .ok (.if_icmp .ne 7, 3) := by decide +kernel
theorem dX4_isIn_9 : decode cX4_isIn 9 = .ok (.iconst 1, 1) := by decide +kernel
theorem dX4_isIn_10 : decode cX4_isIn 10 = .ok (.goto 4, 3) := by decide +kernel
theorem dX4_isIn_13 : decode cX4_isIn 13 = .ok (.iconst 0, 1) := by decide +kernel
theorem dX4_isIn_14 : decode cX4_isIn 14 = .ok (.ireturn, 1) := by decide +kernel
theorem dX4_entrance_0 : decode cX4_entrance 0 = .ok (.iload_n 1, 1) := by decide +kernel
theorem dX4_entrance_1 : decode cX4_entrance 1 = .ok (.invokestatic 62, 3) := by decide +kernel
theorem dX4_entrance_4 : decode cX4_entrance 4 = .ok (.ifCond .ne 5, 3) := by decide +kernel
theorem dX4_entrance_7 : decode cX4_entrance 7 = .ok (.iconst (-1), 1) := by decide +kernel
theorem dX4_entrance_8 : decode cX4_entrance 8 = .ok (.ireturn, 1) := by decide +kernel
theorem dX4_entrance_9 : decode cX4_entrance 9 = .ok (.aload_n 0, 1) := by decide +kernel
theorem dX4_entrance_10 : decode cX4_entrance 10 = .ok (.getfield 72, 3) := by decide +kernel
theorem dX4_entrance_13 : decode cX4_entrance 13 = .ok (.iload_n 1, 1) := by decide +kernel
theorem dX4_entrance_14 : decode cX4_entrance 14 = .ok (.invokestatic 75, 3) := by decide +kernel
theorem dX4_entrance_17 : decode cX4_entrance 17 = .ok (.iload_n 2, 1) := by decide +kernel
theorem dX4_entrance_18 : decode cX4_entrance 18 = .ok (.if_icmp .ne 5, 3) := by decide +kernel
theorem dX4_entrance_21 : decode cX4_entrance 21 = .ok (.iconst 0, 1) := by decide +kernel
theorem dX4_entrance_22 : decode cX4_entrance 22 = .ok (.ireturn, 1) := by decide +kernel
theorem dX4_entrance_23 : decode cX4_entrance 23 = .ok (.aload_n 0, 1) := by decide +kernel
theorem dX4_entrance_24 : decode cX4_entrance 24 = .ok (.dup, 1) := by decide +kernel
theorem dX4_entrance_25 : decode cX4_entrance 25 = .ok (.getfield 72, 3) := by decide +kernel
theorem dX4_entrance_28 : decode cX4_entrance 28 = .ok (.iconst 1, 1) := by decide +kernel
theorem dX4_entrance_29 : decode cX4_entrance 29 = .ok (.iload_n 1, 1) := by decide +kernel
theorem dX4_entrance_30 : decode cX4_entrance 30 = .ok (.ishl, 1) := by decide +kernel
theorem dX4_entrance_31 : decode cX4_entrance 31 = .ok (.ixor, 1) := by decide +kernel
theorem dX4_entrance_32 : decode cX4_entrance 32 = .ok (.putfield 72, 3) := by decide +kernel
theorem dX4_entrance_35 : decode cX4_entrance 35 = .ok (.iconst 1, 1) := by decide +kernel
theorem dX4_entrance_36 : decode cX4_entrance 36 = .ok (.ireturn, 1) := by decide +kernel
theorem dX4_detour_0 : decode cX4_detour 0 = .ok (.iload_n 1, 1) := by decide +kernel
theorem dX4_detour_1 : decode cX4_detour 1 = .ok (.iconst 0, 1) := by decide +kernel
theorem dX4_detour_2 : decode cX4_detour 2 = .ok (.sipush 999, 3) := by decide +kernel
theorem dX4_detour_5 : decode cX4_detour 5 = .ok (.invokestatic 47, 3) := by decide +kernel
theorem dX4_detour_8 : decode cX4_detour 8 = .ok (.ifCond .ne 6, 3) := by decide +kernel
theorem dX4_detour_11 : decode cX4_detour 11 = .ok (.bipush (-2), 2) := by decide +kernel
theorem dX4_detour_13 : decode cX4_detour 13 = .ok (.ireturn, 1) := by decide +kernel
theorem dX4_detour_14 : decode cX4_detour 14 = .ok (.aload_n 0, 1) := by decide +kernel
theorem dX4_detour_15 : decode cX4_detour 15 = .ok (.getfield 79, 3) := by decide +kernel
theorem dX4_detour_18 : decode cX4_detour 18 = .ok (.istore_n 2, 1) := by decide +kernel
theorem dX4_detour_19 : decode cX4_detour 19 = .ok (.aload_n 0, 1) := by decide +kernel
theorem dX4_detour_20 : decode cX4_detour 20 = .ok (.iload_n 1, 1) := by decide +kernel
theorem dX4_detour_21 : decode cX4_detour 21 = .ok (.putfield 79, 3) := by decide +kernel
theorem dX4_detour_24 : decode cX4_detour 24 = .ok (.iload_n 2, 1) := by decide +kernel
theorem dX4_detour_25 : decode cX4_detour 25 = .ok (.ireturn, 1) := by decide +kernel
theorem dX4_board_0 : decode cX4_board 0 = .ok (.iload_n 1, 1) := by decide +kernel
theorem dX4_board_1 : decode cX4_board 1 = .ok (.invokestatic 62, 3) := by decide +kernel
theorem dX4_board_4 : decode cX4_board 4 = .ok (.ifCond .eq 18, 3) := by decide +kernel
theorem dX4_board_7 : decode cX4_board 7 = .ok (.aload_n 0, 1) := by decide +kernel
theorem dX4_board_8 : decode cX4_board 8 = .ok (.iload_n 2, 1) := by decide +kernel
theorem dX4_board_9 : decode cX4_board 9 = .ok (.invokevirtual 69, 3) := by decide +kernel
theorem dX4_board_12 : decode cX4_board 12 = .ok (.ifCond .eq 10, 3) := by decide +kernel
theorem dX4_board_15 : decode cX4_board 15 = .ok (.iload_n 3, 1) := by decide +kernel
theorem dX4_board_16 : decode cX4_board 16 = .ok (.invokestatic 62, 3) := by decide +kernel
theorem dX4_board_19 : decode cX4_board 19 = .ok (.ifCond .ne 5, 3) := by decide +kernel
theorem dX4_board_22 : decode cX4_board 22 = .ok (.iconst (-1), 1) := by decide +kernel
theorem dX4_board_23 : decode cX4_board 23 = .ok (.ireturn, 1) := by decide +kernel
theorem dX4_board_24 : decode cX4_board 24 = .ok (.aload_n 0, 1) := by decide +kernel
theorem dX4_board_25 : decode cX4_board 25 = .ok (.iload_n 1, 1) := by decide +kernel
theorem dX4_board_26 : decode cX4_board 26 = .ok (.iload_n 3, 1) := by decide +kernel
theorem dX4_board_27 : decode cX4_board 27 = .ok (.invokevirtual 58, 3) := by decide +kernel
theorem dX4_board_30 : decode cX4_board 30 = .ok (.bipush (-9), 2) := by decide +kernel
theorem dX4_board_32 : decode cX4_board 32 = .ok (.if_icmp .ne 6, 3) := by decide +kernel
theorem dX4_board_35 : decode cX4_board 35 = .ok (.bipush (-3), 2) := by decide +kernel
theorem dX4_board_37 : decode cX4_board 37 = .ok (.ireturn, 1) := by decide +kernel
theorem dX4_board_38 : decode cX4_board 38 = .ok (.aload_n 0, 1) := by decide +kernel
theorem dX4_board_39 : decode cX4_board 39 = .ok (.getfield 26, 3) := by decide +kernel
theorem dX4_board_42 : decode cX4_board 42 = .ok (.iconst 5, 1) := by decide +kernel
theorem dX4_board_43 : decode cX4_board 43 = .ok (.iload_n 1, 1) := by decide +kernel
theorem dX4_board_44 : decode cX4_board 44 = .ok (.imul, 1) := by decide +kernel
theorem dX4_board_45 : decode cX4_board 45 = .ok (.iload_n 2, 1) := by decide +kernel
theorem dX4_board_46 : decode cX4_board 46 = .ok (.iadd, 1) := by decide +kernel
theorem dX4_board_47 : decode cX4_board 47 = .ok (.iaload, 1) := by decide +kernel
theorem dX4_board_48 : decode cX4_board 48 = .ok (.istore 4, 2) := by decide +kernel
theorem dX4_board_50 : decode cX4_board 50 = .ok (.aload_n 0, 1) := by decide +kernel
theorem dX4_board_51 : decode cX4_board 51 = .ok (.getfield 26, 3) := by decide +kernel
theorem dX4_board_54 : decode cX4_board 54 = .ok (.iconst 5, 1) := by decide +kernel
theorem dX4_board_55 : decode cX4_board 55 = .ok (.iload_n 1, 1) := by decide +kernel
theorem dX4_board_56 : decode cX4_board 56 = .ok (.imul, 1) := by decide +kernel
theorem dX4_board_57 : decode cX4_board 57 = .ok (.iload_n 2, 1) := by decide +kernel
theorem dX4_board_58 : decode cX4_board 58 = .ok (.iadd, 1) := by decide +kernel
theorem dX4_board_59 : decode cX4_board 59 = .ok (.iload_n 3, 1) := by decide +kernel
theorem dX4_board_60 : decode cX4_board 60 = .ok (.iastore, 1) := by decide +kernel
theorem dX4_board_61 : decode cX4_board 61 = .ok (.iload 4, 2) := by decide +kernel
theorem dX4_board_63 : decode cX4_board 63 = .ok (.ireturn, 1) := by decide +kernel
theorem dX4_unboard_0 : decode cX4_unboard 0 = .ok (.iload_n 1, 1) := by decide +kernel
theorem dX4_unboard_1 : decode cX4_unboard 1 = .ok (.invokestatic 62, 3) := by decide +kernel
theorem dX4_unboard_4 : decode cX4_unboard 4 = .ok (.ifCond .eq 11, 3) := by decide +kernel
theorem dX4_unboard_7 : decode cX4_unboard 7 = .ok (.aload_n 0, 1) := by decide +kernel
theorem dX4_unboard_8 : decode cX4_unboard 8 = .ok (.iload_n 2, 1) := by decide +kernel
theorem dX4_unboard_9 : decode cX4_unboard 9 = .ok (.invokevirtual 69, 3) := by decide +kernel
theorem dX4_unboard_12 : decode cX4_unboard 12 = .ok (.ifCond .ne 5, 3) := by decide +kernel
theorem dX4_unboard_15 : decode cX4_unboard 15 = .ok (.iconst (-1), 1) := by decide +kernel
theorem dX4_unboard_16 : decode cX4_unboard 16 = .ok (.ireturn, 1) := by decide +kernel
theorem dX4_unboard_17 : decode cX4_unboard 17 = .ok (.aload_n 0, 1) := by decide +kernel
theorem dX4_unboard_18 : decode cX4_unboard 18 = .ok (.getfield 26, 3) := by decide +kernel
theorem dX4_unboard_21 : decode cX4_unboard 21 = .ok (.iconst 5, 1) := by decide +kernel
theorem dX4_unboard_22 : decode cX4_unboard 22 = .ok (.iload_n 1, 1) := by decide +kernel
theorem dX4_unboard_23 : decode cX4_unboard 23 = .ok (.imul, 1) := by decide +kernel
theorem dX4_unboard_24 : decode cX4_unboard 24 = .ok (.iload_n 2, 1) := by decide +kernel
theorem dX4_unboard_25 : decode cX4_unboard 25 = .ok (.iadd, 1) := by decide +kernel
theorem dX4_unboard_26 : decode cX4_unboard 26 = .ok (.iaload, 1) := by decide +kernel
theorem dX4_unboard_27 : decode cX4_unboard 27 = .ok (.istore_n 3, 1) := by decide +kernel
theorem dX4_unboard_28 : decode cX4_unboard 28 = .ok (.iload_n 3, 1) := by decide +kernel
theorem dX4_unboard_29 : decode cX4_unboard 29 = .ok (.bipush (-9), 2) := by decide +kernel
theorem dX4_unboard_31 : decode cX4_unboard 31 = .ok (.if_icmp .ne 6, 3) := by decide +kernel
theorem dX4_unboard_34 : decode cX4_unboard 34 = .ok (.bipush (-3), 2) := by decide +kernel
theorem dX4_unboard_36 : decode cX4_unboard 36 = .ok (.ireturn, 1) := by decide +kernel
theorem dX4_unboard_37 : decode cX4_unboard 37 = .ok (.aload_n 0, 1) := by decide +kernel
theorem dX4_unboard_38 : decode cX4_unboard 38 = .ok (.getfield 26, 3) := by decide +kernel
theorem dX4_unboard_41 : decode cX4_unboard 41 = .ok (.iconst 5, 1) := by decide +kernel
theorem dX4_unboard_42 : decode cX4_unboard 42 = .ok (.iload_n 1, 1) := by decide +kernel
theorem dX4_unboard_43 : decode cX4_unboard 43 = .ok (.imul, 1) := by decide +kernel
theorem dX4_unboard_44 : decode cX4_unboard 44 = .ok (.iload_n 2, 1) := by decide +kernel
theorem dX4_unboard_45 : decode cX4_unboard 45 = .ok (.iadd, 1) := by decide +kernel
theorem dX4_unboard_46 : decode cX4_unboard 46 = .ok (.bipush (-9), 2) := by decide +kernel
theorem dX4_unboard_48 : decode cX4_unboard 48 = .ok (.iastore, 1) := by decide +kernel
theorem dX4_unboard_49 : decode cX4_unboard 49 = .ok (.iload_n 3, 1) := by decide +kernel
theorem dX4_unboard_50 : decode cX4_unboard 50 = .ok (.ireturn, 1) := by decide +kernel
theorem dX4_arrow_0 : decode cX4_arrow 0 = .ok (.iload_n 1, 1) := by decide +kernel
theorem dX4_arrow_1 : decode cX4_arrow 1 = .ok (.invokestatic 62, 3) := by decide +kernel
theorem dX4_arrow_4 : decode cX4_arrow 4 = .ok (.ifCond .eq 24, 3) := by decide +kernel
theorem dX4_arrow_7 : decode cX4_arrow 7 = .ok (.aload_n 0, 1) := by decide +kernel
theorem dX4_arrow_8 : decode cX4_arrow 8 = .ok (.iload_n 2, 1) := by decide +kernel
theorem dX4_arrow_9 : decode cX4_arrow 9 = .ok (.invokevirtual 69, 3) := by decide +kernel
theorem dX4_arrow_12 : decode cX4_arrow 12 = .ok (.ifCond .eq 16, 3) := by decide +kernel
theorem dX4_arrow_15 : decode cX4_arrow 15 = .ok (.aload_n 0, 1) := by decide +kernel
theorem dX4_arrow_16 : decode cX4_arrow 16 = .ok (.getfield 26, 3) := by decide +kernel
theorem dX4_arrow_19 : decode cX4_arrow 19 = .ok (.iconst 5, 1) := by decide +kernel
theorem dX4_arrow_20 : decode cX4_arrow 20 = .ok (.iload_n 1, 1) := by decide +kernel
theorem dX4_arrow_21 : decode cX4_arrow 21 = .ok (.imul, 1) := by decide +kernel
theorem dX4_arrow_22 : decode cX4_arrow 22 = .ok (.iload_n 2, 1) := by decide +kernel
theorem dX4_arrow_23 : decode cX4_arrow 23 = .ok (.iadd, 1) := by decide +kernel
theorem dX4_arrow_24 : decode cX4_arrow 24 = .ok (.iaload, 1) := by decide +kernel
theorem dX4_arrow_25 : decode cX4_arrow 25 = .ok (.goto 4, 3) := by decide +kernel
theorem dX4_arrow_28 : decode cX4_arrow 28 = .ok (.iconst (-1), 1) := by decide +kernel
theorem dX4_arrow_29 : decode cX4_arrow 29 = .ok (.ireturn, 1) := by decide +kernel
theorem dX4_draws_0 : decode cX4_draws 0 = .ok (.aload_n 0, 1) := by decide +kernel
theorem dX4_draws_1 : decode cX4_draws 1 = .ok (.getfield 29, 3) := by decide +kernel
theorem dX4_draws_4 : decode cX4_draws 4 = .ok (.iload_n 2, 1) := by decide +kernel
theorem dX4_draws_5 : decode cX4_draws 5 = .ok (.iaload, 1) := by decide +kernel
theorem dX4_draws_6 : decode cX4_draws 6 = .ok (.iload_n 3, 1) := by decide +kernel
theorem dX4_draws_7 : decode cX4_draws 7 = .ok (.iadd, 1) := by decide +kernel
theorem dX4_draws_8 : decode cX4_draws 8 = .ok (.istore 4, 2) := by decide +kernel
theorem dX4_draws_10 : decode cX4_draws 10 = .ok (.aload_n 0, 1) := by decide +kernel
theorem dX4_draws_11 : decode cX4_draws 11 = .ok (.getfield 29, 3) := by decide +kernel
theorem dX4_draws_14 : decode cX4_draws 14 = .ok (.iload_n 1, 1) := by decide +kernel
theorem dX4_draws_15 : decode cX4_draws 15 = .ok (.iload 4, 2) := by decide +kernel
theorem dX4_draws_17 : decode cX4_draws 17 = .ok (.aload_n 0, 1) := by decide +kernel
theorem dX4_draws_18 : decode cX4_draws 18 = .ok (.getfield 29, 3) := by decide +kernel
theorem dX4_draws_21 : decode cX4_draws 21 = .ok (.iload_n 1, 1) := by decide +kernel
theorem dX4_draws_22 : decode cX4_draws 22 = .ok (.iaload, 1) := by decide +kernel
theorem dX4_draws_23 : decode cX4_draws 23 = .ok (.if_icmp .ge 8, 3) := by decide +kernel
theorem dX4_draws_26 : decode cX4_draws 26 = .ok (.iload 4, 2) := by decide +kernel
theorem dX4_draws_28 : decode cX4_draws 28 = .ok (.goto 9, 3) := by decide +kernel
theorem dX4_draws_31 : decode cX4_draws 31 = .ok (.aload_n 0, 1) := by decide +kernel
theorem dX4_draws_32 : decode cX4_draws 32 = .ok (.getfield 29, 3) := by decide +kernel
theorem dX4_draws_35 : decode cX4_draws 35 = .ok (.iload_n 1, 1) := by decide +kernel
theorem dX4_draws_36 : decode cX4_draws 36 = .ok (.iaload, 1) := by decide +kernel
theorem dX4_draws_37 : decode cX4_draws 37 = .ok (.iastore, 1) := by decide +kernel
theorem dX4_draws_38 : decode cX4_draws 38 = .ok (.return_, 1) := by decide +kernel
theorem dX4_findFar_0 : decode cX4_findFar 0 = .ok (.iconst 0, 1) := by decide +kernel
theorem dX4_findFar_1 : decode cX4_findFar 1 = .ok (.istore_n 2, 1) := by decide +kernel
theorem dX4_findFar_2 : decode cX4_findFar 2 = .ok (.iload_n 2, 1) := by decide +kernel
theorem dX4_findFar_3 : decode cX4_findFar 3 = .ok (.bipush 10, 2) := by decide +kernel
theorem dX4_findFar_5 : decode cX4_findFar 5 = .ok (.if_icmp .ge 31, 3) := by decide +kernel
theorem dX4_findFar_8 : decode cX4_findFar 8 = .ok (.aload_n 0, 1) := by decide +kernel
theorem dX4_findFar_9 : decode cX4_findFar 9 = .ok (.getfield 29, 3) := by decide +kernel
theorem dX4_findFar_12 : decode cX4_findFar 12 = .ok (.iload_n 2, 1) := by decide +kernel
theorem dX4_findFar_13 : decode cX4_findFar 13 = .ok (.iload_n 2, 1) := by decide +kernel
theorem dX4_findFar_14 : decode cX4_findFar 14 = .ok (.aload_n 0, 1) := by decide +kernel
theorem dX4_findFar_15 : decode cX4_findFar 15 = .ok (.getfield 23, 3) := by decide +kernel
theorem dX4_findFar_18 : decode cX4_findFar 18 = .ok (.iload_n 1, 1) := by decide +kernel
theorem dX4_findFar_19 : decode cX4_findFar 19 = .ok (.iaload, 1) := by decide +kernel
theorem dX4_findFar_20 : decode cX4_findFar 20 = .ok (.if_icmp .ne 7, 3) := by decide +kernel
theorem dX4_findFar_23 : decode cX4_findFar 23 = .ok (.iconst 0, 1) := by decide +kernel
theorem dX4_findFar_24 : decode cX4_findFar 24 = .ok (.goto 5, 3) := by decide +kernel
theorem dX4_findFar_27 : decode cX4_findFar 27 = .ok (.ldc 82, 2) := by decide +kernel
theorem dX4_findFar_29 : decode cX4_findFar 29 = .ok (.iastore, 1) := by decide +kernel
theorem dX4_findFar_30 : decode cX4_findFar 30 = .ok (.iinc 2 1, 3) := by decide +kernel
theorem dX4_findFar_33 : decode cX4_findFar 33 = .ok (.goto (-31), 3) := by decide +kernel
theorem dX4_findFar_36 : decode cX4_findFar 36 = .ok (.iconst 1, 1) := by decide +kernel
theorem dX4_findFar_37 : decode cX4_findFar 37 = .ok (.istore_n 2, 1) := by decide +kernel
theorem dX4_findFar_38 : decode cX4_findFar 38 = .ok (.iload_n 2, 1) := by decide +kernel
theorem dX4_findFar_39 : decode cX4_findFar 39 = .ok (.bipush 10, 2) := by decide +kernel
theorem dX4_findFar_41 : decode cX4_findFar 41 = .ok (.if_icmp .ge 78, 3) := by decide +kernel
theorem dX4_findFar_44 : decode cX4_findFar 44 = .ok (.iconst 0, 1) := by decide +kernel
theorem dX4_findFar_45 : decode cX4_findFar 45 = .ok (.istore_n 3, 1) := by decide +kernel
theorem dX4_findFar_46 : decode cX4_findFar 46 = .ok (.iload_n 3, 1) := by decide +kernel
theorem dX4_findFar_47 : decode cX4_findFar 47 = .ok (.aload_n 0, 1) := by decide +kernel
theorem dX4_findFar_48 : decode cX4_findFar 48 = .ok (.getfield 51, 3) := by decide +kernel
theorem dX4_findFar_51 : decode cX4_findFar 51 = .ok (.if_icmp .ge 62, 3) := by decide +kernel
theorem dX4_findFar_54 : decode cX4_findFar 54 = .ok (.aload_n 0, 1) := by decide +kernel
theorem dX4_findFar_55 : decode cX4_findFar 55 = .ok (.getfield 19, 3) := by decide +kernel
theorem dX4_findFar_58 : decode cX4_findFar 58 = .ok (.iload_n 3, 1) := by decide +kernel
theorem dX4_findFar_59 : decode cX4_findFar 59 = .ok (.baload, 1) := by decide +kernel
theorem dX4_findFar_60 : decode cX4_findFar 60 = .ok (.ifCond .eq 47, 3) := by decide +kernel
theorem dX4_findFar_63 : decode cX4_findFar 63 = .ok (.aload_n 0, 1) := by decide +kernel
theorem dX4_findFar_64 : decode cX4_findFar 64 = .ok (.aload_n 0, 1) := by decide +kernel
theorem dX4_findFar_65 : decode cX4_findFar 65 = .ok (.getfield 13, 3) := by decide +kernel
theorem dX4_findFar_68 : decode cX4_findFar 68 = .ok (.iload_n 3, 1) := by decide +kernel
theorem dX4_findFar_69 : decode cX4_findFar 69 = .ok (.iaload, 1) := by decide +kernel
theorem dX4_findFar_70 : decode cX4_findFar 70 = .ok (.aload_n 0, 1) := by decide +kernel
theorem dX4_findFar_71 : decode cX4_findFar 71 = .ok (.getfield 7, 3) := by decide +kernel
theorem dX4_findFar_74 : decode cX4_findFar 74 = .ok (.iload_n 3, 1) := by decide +kernel
theorem dX4_findFar_75 : decode cX4_findFar 75 = .ok (.iaload, 1) := by decide +kernel
theorem dX4_findFar_76 : decode cX4_findFar 76 = .ok (.aload_n 0, 1) := by decide +kernel
theorem dX4_findFar_77 : decode cX4_findFar 77 = .ok (.getfield 16, 3) := by decide +kernel
theorem dX4_findFar_80 : decode cX4_findFar 80 = .ok (.iload_n 3, 1) := by decide +kernel
theorem dX4_findFar_81 : decode cX4_findFar 81 = .ok (.iaload, 1) := by decide +kernel
theorem dX4_findFar_82 : decode cX4_findFar 82 = .ok (.invokevirtual 83, 3) := by decide +kernel
theorem dX4_findFar_85 : decode cX4_findFar 85 = .ok (.aload_n 0, 1) := by decide +kernel
theorem dX4_findFar_86 : decode cX4_findFar 86 = .ok (.aload_n 0, 1) := by decide +kernel
theorem dX4_findFar_87 : decode cX4_findFar 87 = .ok (.getfield 7, 3) := by decide +kernel
theorem dX4_findFar_90 : decode cX4_findFar 90 = .ok (.iload_n 3, 1) := by decide +kernel
theorem dX4_findFar_91 : decode cX4_findFar 91 = .ok (.iaload, 1) := by decide +kernel
theorem dX4_findFar_92 : decode cX4_findFar 92 = .ok (.aload_n 0, 1) := by decide +kernel
theorem dX4_findFar_93 : decode cX4_findFar 93 = .ok (.getfield 13, 3) := by decide +kernel
theorem dX4_findFar_96 : decode cX4_findFar 96 = .ok (.iload_n 3, 1) := by decide +kernel
theorem dX4_findFar_97 : decode cX4_findFar 97 = .ok (.iaload, 1) := by decide +kernel
theorem dX4_findFar_98 : decode cX4_findFar 98 = .ok (.aload_n 0, 1) := by decide +kernel
theorem dX4_findFar_99 : decode cX4_findFar 99 = .ok (.getfield 16, 3) := by decide +kernel
theorem dX4_findFar_102 : decode cX4_findFar 102 = .ok (.iload_n 3, 1) := by decide +kernel
theorem dX4_findFar_103 : decode cX4_findFar 103 = .ok (.iaload, 1) := by decide +kernel
theorem dX4_findFar_104 : decode cX4_findFar 104 = .ok (.invokevirtual 83, 3) := by decide +kernel
theorem dX4_findFar_107 : decode cX4_findFar 107 = .ok (.iinc 3 1, 3) := by decide +kernel
theorem dX4_findFar_110 : decode cX4_findFar 110 = .ok (.goto (-64), 3) := by decide +kernel
theorem dX4_findFar_113 : decode cX4_findFar 113 = .ok (.iinc 2 1, 3) := by decide +kernel
theorem dX4_findFar_116 : decode cX4_findFar 116 = .ok (.goto (-78), 3) := by decide +kernel
theorem dX4_findFar_119 : decode cX4_findFar 119 = .ok (.return_, 1) := by decide +kernel
theorem dX4_bestAt_0 : decode cX4_bestAt 0 = .ok (.aload_n 0, 1) := by decide +kernel
theorem dX4_bestAt_1 : decode cX4_bestAt 1 = .ok (.getfield 29, 3) := by decide +kernel
theorem dX4_bestAt_4 : decode cX4_bestAt 4 = .ok (.iload_n 1, 1) := by decide +kernel
theorem dX4_bestAt_5 : decode cX4_bestAt 5 = .ok (.iaload, 1) := by decide +kernel
theorem dX4_bestAt_6 : decode cX4_bestAt 6 = .ok (.ifCond .eq 14, 3) := by decide +kernel
theorem dX4_bestAt_9 : decode cX4_bestAt 9 = .ok (.aload_n 0, 1) := by decide +kernel
theorem dX4_bestAt_10 : decode cX4_bestAt 10 = .ok (.getfield 29, 3) := by decide +kernel
theorem dX4_bestAt_13 : decode cX4_bestAt 13 = .ok (.iload_n 1, 1) := by decide +kernel
theorem dX4_bestAt_14 : decode cX4_bestAt 14 = .ok (.iaload, 1) := by decide +kernel
theorem dX4_bestAt_15 : decode cX4_bestAt 15 = .ok (.ldc 82, 2) := by decide +kernel
theorem dX4_bestAt_17 : decode cX4_bestAt 17 = .ok (.if_icmp .lt 6, 3) := by decide +kernel
theorem dX4_bestAt_20 : decode cX4_bestAt 20 = .ok (.bipush (-9), 2) := by decide +kernel
theorem dX4_bestAt_22 : decode cX4_bestAt 22 = .ok (.ireturn, 1) := by decide +kernel
theorem dX4_bestAt_23 : decode cX4_bestAt 23 = .ok (.iconst 0, 1) := by decide +kernel
theorem dX4_bestAt_24 : decode cX4_bestAt 24 = .ok (.istore_n 2, 1) := by decide +kernel
theorem dX4_bestAt_25 : decode cX4_bestAt 25 = .ok (.iload_n 2, 1) := by decide +kernel
theorem dX4_bestAt_26 : decode cX4_bestAt 26 = .ok (.bipush 10, 2) := by decide +kernel
theorem dX4_bestAt_28 : decode cX4_bestAt 28 = .ok (.if_icmp .ge 56, 3) := by decide +kernel
theorem dX4_bestAt_31 : decode cX4_bestAt 31 = .ok (.iload_n 2, 1) := by decide +kernel
theorem dX4_bestAt_32 : decode cX4_bestAt 32 = .ok (.iload_n 1, 1) := by decide +kernel
theorem dX4_bestAt_33 : decode cX4_bestAt 33 = .ok (.if_icmp .ne 8, 3) := by decide +kernel
theorem dX4_bestAt_36 : decode cX4_bestAt 36 = .ok (.bipush (-9), 2) := by decide +kernel
theorem dX4_bestAt_38 : decode cX4_bestAt 38 = .ok (.goto 9, 3) := by decide +kernel
theorem dX4_bestAt_41 : decode cX4_bestAt 41 = .ok (.aload_n 0, 1) := by decide +kernel
theorem dX4_bestAt_42 : decode cX4_bestAt 42 = .ok (.iload_n 1, 1) := by decide +kernel
theorem dX4_bestAt_43 : decode cX4_bestAt 43 = .ok (.iload_n 2, 1) := by decide +kernel
theorem dX4_bestAt_44 : decode cX4_bestAt 44 = .ok (.invokevirtual 87, 3) := by decide +kernel
theorem dX4_bestAt_47 : decode cX4_bestAt 47 = .ok (.istore_n 3, 1) := by decide +kernel
theorem dX4_bestAt_48 : decode cX4_bestAt 48 = .ok (.iload_n 3, 1) := by decide +kernel
theorem dX4_bestAt_49 : decode cX4_bestAt 49 = .ok (.bipush (-9), 2) := by decide +kernel
theorem dX4_bestAt_51 : decode cX4_bestAt 51 = .ok (.if_icmp .eq 27, 3) := by decide +kernel
theorem dX4_bestAt_54 : decode cX4_bestAt 54 = .ok (.aload_n 0, 1) := by decide +kernel
theorem dX4_bestAt_55 : decode cX4_bestAt 55 = .ok (.getfield 29, 3) := by decide +kernel
theorem dX4_bestAt_58 : decode cX4_bestAt 58 = .ok (.iload_n 2, 1) := by decide +kernel
theorem dX4_bestAt_59 : decode cX4_bestAt 59 = .ok (.iaload, 1) := by decide +kernel
theorem dX4_bestAt_60 : decode cX4_bestAt 60 = .ok (.aload_n 0, 1) := by decide +kernel
theorem dX4_bestAt_61 : decode cX4_bestAt 61 = .ok (.getfield 16, 3) := by decide +kernel
theorem dX4_bestAt_64 : decode cX4_bestAt 64 = .ok (.iload_n 3, 1) := by decide +kernel
theorem dX4_bestAt_65 : decode cX4_bestAt 65 = .ok (.iaload, 1) := by decide +kernel
theorem dX4_bestAt_66 : decode cX4_bestAt 66 = .ok (.iadd, 1) := by decide +kernel
theorem dX4_bestAt_67 : decode cX4_bestAt 67 = .ok (.aload_n 0, 1) := by decide +kernel
theorem dX4_bestAt_68 : decode cX4_bestAt 68 = .ok (.getfield 29, 3) := by decide +kernel
theorem dX4_bestAt_71 : decode cX4_bestAt 71 = .ok (.iload_n 1, 1) := by decide +kernel
theorem dX4_bestAt_72 : decode cX4_bestAt 72 = .ok (.iaload, 1) := by decide +kernel
theorem dX4_bestAt_73 : decode cX4_bestAt 73 = .ok (.if_icmp .ne 5, 3) := by decide +kernel
theorem dX4_bestAt_76 : decode cX4_bestAt 76 = .ok (.iload_n 2, 1) := by decide +kernel
theorem dX4_bestAt_77 : decode cX4_bestAt 77 = .ok (.ireturn, 1) := by decide +kernel
theorem dX4_bestAt_78 : decode cX4_bestAt 78 = .ok (.iinc 2 1, 3) := by decide +kernel
theorem dX4_bestAt_81 : decode cX4_bestAt 81 = .ok (.goto (-56), 3) := by decide +kernel
theorem dX4_bestAt_84 : decode cX4_bestAt 84 = .ok (.bipush (-9), 2) := by decide +kernel
theorem dX4_bestAt_86 : decode cX4_bestAt 86 = .ok (.ireturn, 1) := by decide +kernel
theorem dX4_far_0 : decode cX4_far 0 = .ok (.iload_n 1, 1) := by decide +kernel
theorem dX4_far_1 : decode cX4_far 1 = .ok (.invokestatic 62, 3) := by decide +kernel
theorem dX4_far_4 : decode cX4_far 4 = .ok (.ifCond .eq 11, 3) := by decide +kernel
theorem dX4_far_7 : decode cX4_far 7 = .ok (.aload_n 0, 1) := by decide +kernel
theorem dX4_far_8 : decode cX4_far 8 = .ok (.iload_n 2, 1) := by decide +kernel
theorem dX4_far_9 : decode cX4_far 9 = .ok (.invokevirtual 69, 3) := by decide +kernel
theorem dX4_far_12 : decode cX4_far 12 = .ok (.ifCond .ne 5, 3) := by decide +kernel
theorem dX4_far_15 : decode cX4_far 15 = .ok (.iconst (-1), 1) := by decide +kernel
theorem dX4_far_16 : decode cX4_far 16 = .ok (.ireturn, 1) := by decide +kernel
theorem dX4_far_17 : decode cX4_far 17 = .ok (.iload_n 3, 1) := by decide +kernel
theorem dX4_far_18 : decode cX4_far 18 = .ok (.iconst 0, 1) := by decide +kernel
theorem dX4_far_19 : decode cX4_far 19 = .ok (.iconst 1, 1) := by decide +kernel
theorem dX4_far_20 : decode cX4_far 20 = .ok (.invokestatic 47, 3) := by decide +kernel
theorem dX4_far_23 : decode cX4_far 23 = .ok (.ifCond .ne 6, 3) := by decide +kernel
theorem dX4_far_26 : decode cX4_far 26 = .ok (.bipush (-2), 2) := by decide +kernel
theorem dX4_far_28 : decode cX4_far 28 = .ok (.ireturn, 1) := by decide +kernel
theorem dX4_far_29 : decode cX4_far 29 = .ok (.aload_n 0, 1) := by decide +kernel
theorem dX4_far_30 : decode cX4_far 30 = .ok (.iload_n 2, 1) := by decide +kernel
theorem dX4_far_31 : decode cX4_far 31 = .ok (.invokevirtual 90, 3) := by decide +kernel
theorem dX4_far_34 : decode cX4_far 34 = .ok (.iload_n 3, 1) := by decide +kernel
theorem dX4_far_35 : decode cX4_far 35 = .ok (.iconst 1, 1) := by decide +kernel
theorem dX4_far_36 : decode cX4_far 36 = .ok (.if_icmp .ne 9, 3) := by decide +kernel
theorem dX4_far_39 : decode cX4_far 39 = .ok (.aload_n 0, 1) := by decide +kernel
theorem dX4_far_40 : decode cX4_far 40 = .ok (.iload_n 1, 1) := by decide +kernel
theorem dX4_far_41 : decode cX4_far 41 = .ok (.invokevirtual 94, 3) := by decide +kernel
theorem dX4_far_44 : decode cX4_far 44 = .ok (.ireturn, 1) := by decide +kernel
theorem dX4_far_45 : decode cX4_far 45 = .ok (.aload_n 0, 1) := by decide +kernel
theorem dX4_far_46 : decode cX4_far 46 = .ok (.getfield 29, 3) := by decide +kernel
theorem dX4_far_49 : decode cX4_far 49 = .ok (.iload_n 1, 1) := by decide +kernel
theorem dX4_far_50 : decode cX4_far 50 = .ok (.iaload, 1) := by decide +kernel
theorem dX4_far_51 : decode cX4_far 51 = .ok (.ldc 82, 2) := by decide +kernel
theorem dX4_far_53 : decode cX4_far 53 = .ok (.if_icmp .ge 12, 3) := by decide +kernel
theorem dX4_far_56 : decode cX4_far 56 = .ok (.aload_n 0, 1) := by decide +kernel
theorem dX4_far_57 : decode cX4_far 57 = .ok (.getfield 29, 3) := by decide +kernel
theorem dX4_far_60 : decode cX4_far 60 = .ok (.iload_n 1, 1) := by decide +kernel
theorem dX4_far_61 : decode cX4_far 61 = .ok (.iaload, 1) := by decide +kernel
theorem dX4_far_62 : decode cX4_far 62 = .ok (.goto 5, 3) := by decide +kernel
theorem dX4_far_65 : decode cX4_far 65 = .ok (.bipush (-9), 2) := by decide +kernel
theorem dX4_far_67 : decode cX4_far 67 = .ok (.ireturn, 1) := by decide +kernel
theorem dX4_from_0 : decode cX4_from 0 = .ok (.iload_n 1, 1) := by decide +kernel
theorem dX4_from_1 : decode cX4_from 1 = .ok (.invokestatic 62, 3) := by decide +kernel
theorem dX4_from_4 : decode cX4_from 4 = .ok (.ifCond .ne 5, 3) := by decide +kernel
theorem dX4_from_7 : decode cX4_from 7 = .ok (.iconst (-1), 1) := by decide +kernel
theorem dX4_from_8 : decode cX4_from 8 = .ok (.ireturn, 1) := by decide +kernel
theorem dX4_from_9 : decode cX4_from 9 = .ok (.iconst 0, 1) := by decide +kernel
theorem dX4_from_10 : decode cX4_from 10 = .ok (.istore_n 2, 1) := by decide +kernel
theorem dX4_from_11 : decode cX4_from 11 = .ok (.iconst 0, 1) := by decide +kernel
theorem dX4_from_12 : decode cX4_from 12 = .ok (.istore_n 3, 1) := by decide +kernel
theorem dX4_from_13 : decode cX4_from 13 = .ok (.iload_n 3, 1) := by decide +kernel
theorem dX4_from_14 : decode cX4_from 14 = .ok (.aload_n 0, 1) := by decide +kernel
theorem dX4_from_15 : decode cX4_from 15 = .ok (.getfield 51, 3) := by decide +kernel
theorem dX4_from_18 : decode cX4_from 18 = .ok (.if_icmp .ge 77, 3) := by decide +kernel
theorem dX4_from_21 : decode cX4_from 21 = .ok (.iload_n 2, 1) := by decide +kernel
theorem dX4_from_22 : decode cX4_from 22 = .ok (.aload_n 0, 1) := by decide +kernel
theorem dX4_from_23 : decode cX4_from 23 = .ok (.getfield 19, 3) := by decide +kernel
theorem dX4_from_26 : decode cX4_from 26 = .ok (.iload_n 3, 1) := by decide +kernel
theorem dX4_from_27 : decode cX4_from 27 = .ok (.baload, 1) := by decide +kernel
theorem dX4_from_28 : decode cX4_from 28 = .ok (.ifCond .eq 24, 3) := by decide +kernel
theorem dX4_from_31 : decode cX4_from 31 = .ok (.aload_n 0, 1) := by decide +kernel
theorem dX4_from_32 : decode cX4_from 32 = .ok (.getfield 7, 3) := by decide +kernel
theorem dX4_from_35 : decode cX4_from 35 = .ok (.iload_n 3, 1) := by decide +kernel
theorem dX4_from_36 : decode cX4_from 36 = .ok (.iaload, 1) := by decide +kernel
theorem dX4_from_37 : decode cX4_from 37 = .ok (.iload_n 1, 1) := by decide +kernel
theorem dX4_from_38 : decode cX4_from 38 = .ok (.if_icmp .ne 14, 3) := by decide +kernel
theorem dX4_from_41 : decode cX4_from 41 = .ok (.iconst 1, 1) := by decide +kernel
theorem dX4_from_42 : decode cX4_from 42 = .ok (.aload_n 0, 1) := by decide +kernel
theorem dX4_from_43 : decode cX4_from 43 = .ok (.getfield 13, 3) := by decide +kernel
theorem dX4_from_46 : decode cX4_from 46 = .ok (.iload_n 3, 1) := by decide +kernel
theorem dX4_from_47 : decode cX4_from 47 = .ok (.iaload, 1) := by decide +kernel
theorem dX4_from_48 : decode cX4_from 48 = .ok (.ishl, 1) := by decide +kernel
theorem dX4_from_49 : decode cX4_from 49 = .ok (.goto 4, 3) := by decide +kernel
theorem dX4_from_52 : decode cX4_from 52 = .ok (.iconst 0, 1) := by decide +kernel
theorem dX4_from_53 : decode cX4_from 53 = .ok (.ior, 1) := by decide +kernel
theorem dX4_from_54 : decode cX4_from 54 = .ok (.istore_n 2, 1) := by decide +kernel
theorem dX4_from_55 : decode cX4_from 55 = .ok (.iload_n 2, 1) := by decide +kernel
theorem dX4_from_56 : decode cX4_from 56 = .ok (.aload_n 0, 1) := by decide +kernel
theorem dX4_from_57 : decode cX4_from 57 = .ok (.getfield 19, 3) := by decide +kernel
theorem dX4_from_60 : decode cX4_from 60 = .ok (.iload_n 3, 1) := by decide +kernel
theorem dX4_from_61 : decode cX4_from 61 = .ok (.baload, 1) := by decide +kernel
theorem dX4_from_62 : decode cX4_from 62 = .ok (.ifCond .eq 24, 3) := by decide +kernel
theorem dX4_from_65 : decode cX4_from 65 = .ok (.aload_n 0, 1) := by decide +kernel
theorem dX4_from_66 : decode cX4_from 66 = .ok (.getfield 13, 3) := by decide +kernel
theorem dX4_from_69 : decode cX4_from 69 = .ok (.iload_n 3, 1) := by decide +kernel
theorem dX4_from_70 : decode cX4_from 70 = .ok (.iaload, 1) := by decide +kernel
theorem dX4_from_71 : decode cX4_from 71 = .ok (.iload_n 1, 1) := by decide +kernel
theorem dX4_from_72 : decode cX4_from 72 = .ok (.if_icmp .ne 14, 3) := by decide +kernel
theorem dX4_from_75 : decode cX4_from 75 = .ok (.iconst 1, 1) := by decide +kernel
theorem dX4_from_76 : decode cX4_from 76 = .ok (.aload_n 0, 1) := by decide +kernel
theorem dX4_from_77 : decode cX4_from 77 = .ok (.getfield 7, 3) := by decide +kernel
theorem dX4_from_80 : decode cX4_from 80 = .ok (.iload_n 3, 1) := by decide +kernel
theorem dX4_from_81 : decode cX4_from 81 = .ok (.iaload, 1) := by decide +kernel
theorem dX4_from_82 : decode cX4_from 82 = .ok (.ishl, 1) := by decide +kernel
theorem dX4_from_83 : decode cX4_from 83 = .ok (.goto 4, 3) := by decide +kernel
theorem dX4_from_86 : decode cX4_from 86 = .ok (.iconst 0, 1) := by decide +kernel
theorem dX4_from_87 : decode cX4_from 87 = .ok (.ior, 1) := by decide +kernel
theorem dX4_from_88 : decode cX4_from 88 = .ok (.istore_n 2, 1) := by decide +kernel
theorem dX4_from_89 : decode cX4_from 89 = .ok (.iinc 3 1, 3) := by decide +kernel
theorem dX4_from_92 : decode cX4_from 92 = .ok (.goto (-79), 3) := by decide +kernel
theorem dX4_from_95 : decode cX4_from 95 = .ok (.iload_n 2, 1) := by decide +kernel
theorem dX4_from_96 : decode cX4_from 96 = .ok (.ireturn, 1) := by decide +kernel
theorem dX4_laysArrows_0 : decode cX4_laysArrows 0 = .ok (.iconst 0, 1) := by decide +kernel
theorem dX4_laysArrows_1 : decode cX4_laysArrows 1 = .ok (.istore_n 2, 1) := by decide +kernel
theorem dX4_laysArrows_2 : decode cX4_laysArrows 2 = .ok (.iload_n 2, 1) := by decide +kernel
theorem dX4_laysArrows_3 : decode cX4_laysArrows 3 = .ok (.bipush 10, 2) := by decide +kernel
theorem dX4_laysArrows_5 : decode cX4_laysArrows 5 = .ok (.if_icmp .ge 25, 3) := by decide +kernel
theorem dX4_laysArrows_8 : decode cX4_laysArrows 8 = .ok (.aload_n 0, 1) := by decide +kernel
theorem dX4_laysArrows_9 : decode cX4_laysArrows 9 = .ok (.getfield 32, 3) := by decide +kernel
theorem dX4_laysArrows_12 : decode cX4_laysArrows 12 = .ok (.iload_n 2, 1) := by decide +kernel
theorem dX4_laysArrows_13 : decode cX4_laysArrows 13 = .ok (.aload_n 0, 1) := by decide +kernel
theorem dX4_laysArrows_14 : decode cX4_laysArrows 14 = .ok (.getfield 26, 3) := by decide +kernel
theorem dX4_laysArrows_17 : decode cX4_laysArrows 17 = .ok (.iconst 5, 1) := by decide +kernel
theorem dX4_laysArrows_18 : decode cX4_laysArrows 18 = .ok (.iload_n 2, 1) := by decide +kernel
theorem dX4_laysArrows_19 : decode cX4_laysArrows 19 = .ok (.imul, 1) := by decide +kernel
theorem dX4_laysArrows_20 : decode cX4_laysArrows 20 = .ok (.iload_n 1, 1) := by decide +kernel
theorem dX4_laysArrows_21 : decode cX4_laysArrows 21 = .ok (.iadd, 1) := by decide +kernel
theorem dX4_laysArrows_22 : decode cX4_laysArrows 22 = .ok (.iaload, 1) := by decide +kernel
theorem dX4_laysArrows_23 : decode cX4_laysArrows 23 = .ok (.iastore, 1) := by decide +kernel
theorem dX4_laysArrows_24 : decode cX4_laysArrows 24 = .ok (.iinc 2 1, 3) := by decide +kernel
theorem dX4_laysArrows_27 : decode cX4_laysArrows 27 = .ok (.goto (-25), 3) := by decide +kernel
theorem dX4_laysArrows_30 : decode cX4_laysArrows 30 = .ok (.return_, 1) := by decide +kernel
theorem dX4_touches_0 : decode cX4_touches 0 = .ok (.aload_n 0, 1) := by decide +kernel
theorem dX4_touches_1 : decode cX4_touches 1 = .ok (.getfield 19, 3) := by decide +kernel
theorem dX4_touches_4 : decode cX4_touches 4 = .ok (.iload_n 1, 1) := by decide +kernel
theorem dX4_touches_5 : decode cX4_touches 5 = .ok (.baload, 1) := by decide +kernel
theorem dX4_touches_6 : decode cX4_touches 6 = .ok (.ifCond .eq 27, 3) := by decide +kernel
theorem dX4_touches_9 : decode cX4_touches 9 = .ok (.aload_n 0, 1) := by decide +kernel
theorem dX4_touches_10 : decode cX4_touches 10 = .ok (.getfield 7, 3) := by decide +kernel
theorem dX4_touches_13 : decode cX4_touches 13 = .ok (.iload_n 1, 1) := by decide +kernel
theorem dX4_touches_14 : decode cX4_touches 14 = .ok (.iaload, 1) := by decide +kernel
theorem dX4_touches_15 : decode cX4_touches 15 = .ok (.iload_n 2, 1) := by decide +kernel
theorem dX4_touches_16 : decode cX4_touches 16 = .ok (.if_icmp .eq 13, 3) := by decide +kernel
theorem dX4_touches_19 : decode cX4_touches 19 = .ok (.aload_n 0, 1) := by decide +kernel
theorem dX4_touches_20 : decode cX4_touches 20 = .ok (.getfield 13, 3) := by decide +kernel
theorem dX4_touches_23 : decode cX4_touches 23 = .ok (.iload_n 1, 1) := by decide +kernel
theorem dX4_touches_24 : decode cX4_touches 24 = .ok (.iaload, 1) := by decide +kernel
theorem dX4_touches_25 : decode cX4_touches 25 = .ok (.iload_n 2, 1) := by decide +kernel
theorem dX4_touches_26 : decode cX4_touches 26 = .ok (.if_icmp .ne 7, 3) := by decide +kernel
theorem dX4_touches_29 : decode cX4_touches 29 = .ok (.iconst 1, 1) := by decide +kernel
theorem dX4_touches_30 : decode cX4_touches 30 = .ok (.goto 4, 3) := by decide +kernel
theorem dX4_touches_33 : decode cX4_touches 33 = .ok (.iconst 0, 1) := by decide +kernel
theorem dX4_touches_34 : decode cX4_touches 34 = .ok (.ireturn, 1) := by decide +kernel
theorem dX4_onlyWalk_0 : decode cX4_onlyWalk 0 = .ok (.bipush (-9), 2) := by decide +kernel
theorem dX4_onlyWalk_2 : decode cX4_onlyWalk 2 = .ok (.istore_n 3, 1) := by decide +kernel
theorem dX4_onlyWalk_3 : decode cX4_onlyWalk 3 = .ok (.iconst 0, 1) := by decide +kernel
theorem dX4_onlyWalk_4 : decode cX4_onlyWalk 4 = .ok (.istore 4, 2) := by decide +kernel
theorem dX4_onlyWalk_6 : decode cX4_onlyWalk 6 = .ok (.iload 4, 2) := by decide +kernel
theorem dX4_onlyWalk_8 : decode cX4_onlyWalk 8 = .ok (.aload_n 0, 1) := by decide +kernel
theorem dX4_onlyWalk_9 : decode cX4_onlyWalk 9 = .ok (.getfield 51, 3) := by decide +kernel
theorem dX4_onlyWalk_12 : decode cX4_onlyWalk 12 = .ok (.if_icmp .ge 45, 3) := by decide +kernel
theorem dX4_onlyWalk_15 : decode cX4_onlyWalk 15 = .ok (.iload 4, 2) := by decide +kernel
theorem dX4_onlyWalk_17 : decode cX4_onlyWalk 17 = .ok (.iload_n 2, 1) := by decide +kernel
theorem dX4_onlyWalk_18 : decode cX4_onlyWalk 18 = .ok (.if_icmp .eq 33, 3) := by decide +kernel
theorem dX4_onlyWalk_21 : decode cX4_onlyWalk 21 = .ok (.aload_n 0, 1) := by decide +kernel
theorem dX4_onlyWalk_22 : decode cX4_onlyWalk 22 = .ok (.iload 4, 2) := by decide +kernel
theorem dX4_onlyWalk_24 : decode cX4_onlyWalk 24 = .ok (.iload_n 1, 1) := by decide +kernel
theorem dX4_onlyWalk_25 : decode cX4_onlyWalk 25 = .ok (.invokevirtual 98, 3) := by decide +kernel
theorem dX4_onlyWalk_28 : decode cX4_onlyWalk 28 = .ok (.ifCond .eq 23, 3) := by decide +kernel
theorem dX4_onlyWalk_31 : decode cX4_onlyWalk 31 = .ok (.iload_n 3, 1) := by decide +kernel
theorem dX4_onlyWalk_32 : decode cX4_onlyWalk 32 = .ok (.bipush (-9), 2) := by decide +kernel
theorem dX4_onlyWalk_34 : decode cX4_onlyWalk 34 = .ok (.if_icmp .ne 8, 3) := by decide +kernel
theorem dX4_onlyWalk_37 : decode cX4_onlyWalk 37 = .ok (.iload 4, 2) := by decide +kernel
theorem dX4_onlyWalk_39 : decode cX4_onlyWalk 39 = .ok (.goto 4, 3) := by decide +kernel
theorem dX4_onlyWalk_42 : decode cX4_onlyWalk 42 = .ok (.iconst (-1), 1) := by decide +kernel
theorem dX4_onlyWalk_43 : decode cX4_onlyWalk 43 = .ok (.istore_n 3, 1) := by decide +kernel
theorem dX4_onlyWalk_44 : decode cX4_onlyWalk 44 = .ok (.iload_n 3, 1) := by decide +kernel
theorem dX4_onlyWalk_45 : decode cX4_onlyWalk 45 = .ok (.iconst (-1), 1) := by decide +kernel
theorem dX4_onlyWalk_46 : decode cX4_onlyWalk 46 = .ok (.if_icmp .ne 5, 3) := by decide +kernel
theorem dX4_onlyWalk_49 : decode cX4_onlyWalk 49 = .ok (.iload_n 3, 1) := by decide +kernel
theorem dX4_onlyWalk_50 : decode cX4_onlyWalk 50 = .ok (.ireturn, 1) := by decide +kernel
theorem dX4_onlyWalk_51 : decode cX4_onlyWalk 51 = .ok (.iinc 4 1, 3) := by decide +kernel
theorem dX4_onlyWalk_54 : decode cX4_onlyWalk 54 = .ok (.goto (-48), 3) := by decide +kernel
theorem dX4_onlyWalk_57 : decode cX4_onlyWalk 57 = .ok (.iload_n 3, 1) := by decide +kernel
theorem dX4_onlyWalk_58 : decode cX4_onlyWalk 58 = .ok (.ireturn, 1) := by decide +kernel
theorem dX4_nextWalk_0 : decode cX4_nextWalk 0 = .ok (.aload_n 0, 1) := by decide +kernel
theorem dX4_nextWalk_1 : decode cX4_nextWalk 1 = .ok (.bipush (-9), 2) := by decide +kernel
theorem dX4_nextWalk_3 : decode cX4_nextWalk 3 = .ok (.putfield 101, 3) := by decide +kernel
theorem dX4_nextWalk_6 : decode cX4_nextWalk 6 = .ok (.aload_n 0, 1) := by decide +kernel
theorem dX4_nextWalk_7 : decode cX4_nextWalk 7 = .ok (.getfield 32, 3) := by decide +kernel
theorem dX4_nextWalk_10 : decode cX4_nextWalk 10 = .ok (.iload_n 1, 1) := by decide +kernel
theorem dX4_nextWalk_11 : decode cX4_nextWalk 11 = .ok (.iaload, 1) := by decide +kernel
theorem dX4_nextWalk_12 : decode cX4_nextWalk 12 = .ok (.bipush (-9), 2) := by decide +kernel
theorem dX4_nextWalk_14 : decode cX4_nextWalk 14 = .ok (.if_icmp .eq 33, 3) := by decide +kernel
theorem dX4_nextWalk_17 : decode cX4_nextWalk 17 = .ok (.aload_n 0, 1) := by decide +kernel
theorem dX4_nextWalk_18 : decode cX4_nextWalk 18 = .ok (.iload_n 1, 1) := by decide +kernel
theorem dX4_nextWalk_19 : decode cX4_nextWalk 19 = .ok (.aload_n 0, 1) := by decide +kernel
theorem dX4_nextWalk_20 : decode cX4_nextWalk 20 = .ok (.getfield 32, 3) := by decide +kernel
theorem dX4_nextWalk_23 : decode cX4_nextWalk 23 = .ok (.iload_n 1, 1) := by decide +kernel
theorem dX4_nextWalk_24 : decode cX4_nextWalk 24 = .ok (.iaload, 1) := by decide +kernel
theorem dX4_nextWalk_25 : decode cX4_nextWalk 25 = .ok (.invokevirtual 87, 3) := by decide +kernel
theorem dX4_nextWalk_28 : decode cX4_nextWalk 28 = .ok (.istore_n 3, 1) := by decide +kernel
theorem dX4_nextWalk_29 : decode cX4_nextWalk 29 = .ok (.aload_n 0, 1) := by decide +kernel
theorem dX4_nextWalk_30 : decode cX4_nextWalk 30 = .ok (.iload_n 3, 1) := by decide +kernel
theorem dX4_nextWalk_31 : decode cX4_nextWalk 31 = .ok (.bipush (-9), 2) := by decide +kernel
theorem dX4_nextWalk_33 : decode cX4_nextWalk 33 = .ok (.if_icmp .ne 7, 3) := by decide +kernel
theorem dX4_nextWalk_36 : decode cX4_nextWalk 36 = .ok (.iconst 3, 1) := by decide +kernel
theorem dX4_nextWalk_37 : decode cX4_nextWalk 37 = .ok (.goto 5, 3) := by decide +kernel
theorem dX4_nextWalk_40 : decode cX4_nextWalk 40 = .ok (.bipush (-9), 2) := by decide +kernel
theorem dX4_nextWalk_42 : decode cX4_nextWalk 42 = .ok (.putfield 101, 3) := by decide +kernel
theorem dX4_nextWalk_45 : decode cX4_nextWalk 45 = .ok (.iload_n 3, 1) := by decide +kernel
theorem dX4_nextWalk_46 : decode cX4_nextWalk 46 = .ok (.ireturn, 1) := by decide +kernel
theorem dX4_nextWalk_47 : decode cX4_nextWalk 47 = .ok (.aload_n 0, 1) := by decide +kernel
theorem dX4_nextWalk_48 : decode cX4_nextWalk 48 = .ok (.iload_n 1, 1) := by decide +kernel
theorem dX4_nextWalk_49 : decode cX4_nextWalk 49 = .ok (.iload_n 2, 1) := by decide +kernel
theorem dX4_nextWalk_50 : decode cX4_nextWalk 50 = .ok (.invokevirtual 104, 3) := by decide +kernel
theorem dX4_nextWalk_53 : decode cX4_nextWalk 53 = .ok (.istore_n 3, 1) := by decide +kernel
theorem dX4_nextWalk_54 : decode cX4_nextWalk 54 = .ok (.aload_n 0, 1) := by decide +kernel
theorem dX4_nextWalk_55 : decode cX4_nextWalk 55 = .ok (.iload_n 3, 1) := by decide +kernel
theorem dX4_nextWalk_56 : decode cX4_nextWalk 56 = .ok (.bipush (-9), 2) := by decide +kernel
theorem dX4_nextWalk_58 : decode cX4_nextWalk 58 = .ok (.if_icmp .ne 7, 3) := by decide +kernel
theorem dX4_nextWalk_61 : decode cX4_nextWalk 61 = .ok (.iconst 2, 1) := by decide +kernel
theorem dX4_nextWalk_62 : decode cX4_nextWalk 62 = .ok (.goto 13, 3) := by decide +kernel
theorem dX4_nextWalk_65 : decode cX4_nextWalk 65 = .ok (.iload_n 3, 1) := by decide +kernel
theorem dX4_nextWalk_66 : decode cX4_nextWalk 66 = .ok (.ifCond .ge 7, 3) := by decide +kernel
theorem dX4_nextWalk_69 : decode cX4_nextWalk 69 = .ok (.iconst 1, 1) := by decide +kernel
theorem dX4_nextWalk_70 : decode cX4_nextWalk 70 = .ok (.goto 5, 3) := by decide +kernel
theorem dX4_nextWalk_73 : decode cX4_nextWalk 73 = .ok (.bipush (-9), 2) := by decide +kernel
theorem dX4_nextWalk_75 : decode cX4_nextWalk 75 = .ok (.putfield 101, 3) := by decide +kernel
theorem dX4_nextWalk_78 : decode cX4_nextWalk 78 = .ok (.iload_n 3, 1) := by decide +kernel
theorem dX4_nextWalk_79 : decode cX4_nextWalk 79 = .ok (.ireturn, 1) := by decide +kernel
theorem dX4_follows_0 : decode cX4_follows 0 = .ok (.iconst 0, 1) := by decide +kernel
theorem dX4_follows_1 : decode cX4_follows 1 = .ok (.istore_n 3, 1) := by decide +kernel
theorem dX4_follows_2 : decode cX4_follows 2 = .ok (.iload_n 3, 1) := by decide +kernel
theorem dX4_follows_3 : decode cX4_follows 3 = .ok (.sipush 140, 3) := by decide +kernel
theorem dX4_follows_6 : decode cX4_follows 6 = .ok (.if_icmp .ge 16, 3) := by decide +kernel
theorem dX4_follows_9 : decode cX4_follows 9 = .ok (.aload_n 0, 1) := by decide +kernel
theorem dX4_follows_10 : decode cX4_follows 10 = .ok (.getfield 35, 3) := by decide +kernel
theorem dX4_follows_13 : decode cX4_follows 13 = .ok (.iload_n 3, 1) := by decide +kernel
theorem dX4_follows_14 : decode cX4_follows 14 = .ok (.iconst 0, 1) := by decide +kernel
theorem dX4_follows_15 : decode cX4_follows 15 = .ok (.bastore, 1) := by decide +kernel
theorem dX4_follows_16 : decode cX4_follows 16 = .ok (.iinc 3 1, 3) := by decide +kernel
theorem dX4_follows_19 : decode cX4_follows 19 = .ok (.goto (-17), 3) := by decide +kernel
theorem dX4_follows_22 : decode cX4_follows 22 = .ok (.aload_n 0, 1) := by decide +kernel
theorem dX4_follows_23 : decode cX4_follows 23 = .ok (.iconst 0, 1) := by decide +kernel
theorem dX4_follows_24 : decode cX4_follows 24 = .ok (.putfield 107, 3) := by decide +kernel
theorem dX4_follows_27 : decode cX4_follows 27 = .ok (.aload_n 0, 1) := by decide +kernel
theorem dX4_follows_28 : decode cX4_follows 28 = .ok (.iconst 0, 1) := by decide +kernel
theorem dX4_follows_29 : decode cX4_follows 29 = .ok (.putfield 110, 3) := by decide +kernel
theorem dX4_follows_32 : decode cX4_follows 32 = .ok (.aload_n 0, 1) := by decide +kernel
theorem dX4_follows_33 : decode cX4_follows 33 = .ok (.getfield 38, 3) := by decide +kernel
theorem dX4_follows_36 : decode cX4_follows 36 = .ok (.iconst 0, 1) := by decide +kernel
theorem dX4_follows_37 : decode cX4_follows 37 = .ok (.iload_n 1, 1) := by decide +kernel
theorem dX4_follows_38 : decode cX4_follows 38 = .ok (.iastore, 1) := by decide +kernel
theorem dX4_follows_39 : decode cX4_follows 39 = .ok (.iload_n 1, 1) := by decide +kernel
theorem dX4_follows_40 : decode cX4_follows 40 = .ok (.istore_n 3, 1) := by decide +kernel
theorem dX4_follows_41 : decode cX4_follows 41 = .ok (.bipush (-9), 2) := by decide +kernel
theorem dX4_follows_43 : decode cX4_follows 43 = .ok (.istore 4, 2) := by decide +kernel
theorem dX4_follows_45 : decode cX4_follows 45 = .ok (.aload_n 0, 1) := by decide +kernel
theorem dX4_follows_46 : decode cX4_follows 46 = .ok (.bipush (-9), 2) := by decide +kernel
theorem dX4_follows_48 : decode cX4_follows 48 = .ok (.putfield 101, 3) := by decide +kernel
theorem dX4_follows_51 : decode cX4_follows 51 = .ok (.aload_n 0, 1) := by decide +kernel
theorem dX4_follows_52 : decode cX4_follows 52 = .ok (.getfield 101, 3) := by decide +kernel
theorem dX4_follows_55 : decode cX4_follows 55 = .ok (.bipush (-9), 2) := by decide +kernel
theorem dX4_follows_57 : decode cX4_follows 57 = .ok (.if_icmp .ne 148, 3) := by decide +kernel
theorem dX4_follows_60 : decode cX4_follows 60 = .ok (.iload_n 3, 1) := by decide +kernel
theorem dX4_follows_61 : decode cX4_follows 61 = .ok (.aload_n 0, 1) := by decide +kernel
theorem dX4_follows_62 : decode cX4_follows 62 = .ok (.getfield 23, 3) := by decide +kernel
theorem dX4_follows_65 : decode cX4_follows 65 = .ok (.iload_n 2, 1) := by decide +kernel
theorem dX4_follows_66 : decode cX4_follows 66 = .ok (.iaload, 1) := by decide +kernel
theorem dX4_follows_67 : decode cX4_follows 67 = .ok (.if_icmp .ne 9, 3) := by decide +kernel
theorem dX4_follows_70 : decode cX4_follows 70 = .ok (.aload_n 0, 1) := by decide +kernel
theorem dX4_follows_71 : decode cX4_follows 71 = .ok (.iconst 0, 1) := by decide +kernel
theorem dX4_follows_72 : decode cX4_follows 72 = .ok (.putfield 101, 3) := by decide +kernel
theorem dX4_follows_75 : decode cX4_follows 75 = .ok (.return_, 1) := by decide +kernel
theorem dX4_follows_76 : decode cX4_follows 76 = .ok (.aload_n 0, 1) := by decide +kernel
theorem dX4_follows_77 : decode cX4_follows 77 = .ok (.iload_n 3, 1) := by decide +kernel
theorem dX4_follows_78 : decode cX4_follows 78 = .ok (.iload 4, 2) := by decide +kernel
theorem dX4_follows_80 : decode cX4_follows 80 = .ok (.invokevirtual 113, 3) := by decide +kernel
theorem dX4_follows_83 : decode cX4_follows 83 = .ok (.istore 5, 2) := by decide +kernel
theorem dX4_follows_85 : decode cX4_follows 85 = .ok (.aload_n 0, 1) := by decide +kernel
theorem dX4_follows_86 : decode cX4_follows 86 = .ok (.getfield 101, 3) := by decide +kernel
theorem dX4_follows_89 : decode cX4_follows 89 = .ok (.bipush (-9), 2) := by decide +kernel
theorem dX4_follows_91 : decode cX4_follows 91 = .ok (.if_icmp .eq 4, 3) := by decide +kernel
theorem dX4_follows_94 : decode cX4_follows 94 = .ok (.return_, 1) := by decide +kernel
theorem dX4_follows_95 : decode cX4_follows 95 = .ok (.aload_n 0, 1) := by decide +kernel
theorem dX4_follows_96 : decode cX4_follows 96 = .ok (.getfield 7, 3) := by decide +kernel
theorem dX4_follows_99 : decode cX4_follows 99 = .ok (.iload 5, 2) := by decide +kernel
theorem dX4_follows_101 : decode cX4_follows 101 = .ok (.iaload, 1) := by decide +kernel
theorem dX4_follows_102 : decode cX4_follows 102 = .ok (.iload_n 3, 1) := by decide +kernel
theorem dX4_follows_103 : decode cX4_follows 103 = .ok (.if_icmp .ne 13, 3) := by decide +kernel
theorem dX4_follows_106 : decode cX4_follows 106 = .ok (.aload_n 0, 1) := by decide +kernel
theorem dX4_follows_107 : decode cX4_follows 107 = .ok (.getfield 13, 3) := by decide +kernel
theorem dX4_follows_110 : decode cX4_follows 110 = .ok (.iload 5, 2) := by decide +kernel
theorem dX4_follows_112 : decode cX4_follows 112 = .ok (.iaload, 1) := by decide +kernel
theorem dX4_follows_113 : decode cX4_follows 113 = .ok (.goto 10, 3) := by decide +kernel
theorem dX4_follows_116 : decode cX4_follows 116 = .ok (.aload_n 0, 1) := by decide +kernel
theorem dX4_follows_117 : decode cX4_follows 117 = .ok (.getfield 7, 3) := by decide +kernel
theorem dX4_follows_120 : decode cX4_follows 120 = .ok (.iload 5, 2) := by decide +kernel
theorem dX4_follows_122 : decode cX4_follows 122 = .ok (.iaload, 1) := by decide +kernel
theorem dX4_follows_123 : decode cX4_follows 123 = .ok (.istore_n 3, 1) := by decide +kernel
theorem dX4_follows_124 : decode cX4_follows 124 = .ok (.iload 5, 2) := by decide +kernel
theorem dX4_follows_126 : decode cX4_follows 126 = .ok (.istore 4, 2) := by decide +kernel
theorem dX4_follows_128 : decode cX4_follows 128 = .ok (.aload_n 0, 1) := by decide +kernel
theorem dX4_follows_129 : decode cX4_follows 129 = .ok (.dup, 1) := by decide +kernel
theorem dX4_follows_130 : decode cX4_follows 130 = .ok (.getfield 107, 3) := by decide +kernel
theorem dX4_follows_133 : decode cX4_follows 133 = .ok (.iconst 1, 1) := by decide +kernel
theorem dX4_follows_134 : decode cX4_follows 134 = .ok (.iadd, 1) := by decide +kernel
theorem dX4_follows_135 : decode cX4_follows 135 = .ok (.putfield 107, 3) := by decide +kernel
theorem dX4_follows_138 : decode cX4_follows 138 = .ok (.aload_n 0, 1) := by decide +kernel
theorem dX4_follows_139 : decode cX4_follows 139 = .ok (.dup, 1) := by decide +kernel
theorem dX4_follows_140 : decode cX4_follows 140 = .ok (.getfield 110, 3) := by decide +kernel
theorem dX4_follows_143 : decode cX4_follows 143 = .ok (.aload_n 0, 1) := by decide +kernel
theorem dX4_follows_144 : decode cX4_follows 144 = .ok (.getfield 16, 3) := by decide +kernel
theorem dX4_follows_147 : decode cX4_follows 147 = .ok (.iload 5, 2) := by decide +kernel
theorem dX4_follows_149 : decode cX4_follows 149 = .ok (.iaload, 1) := by decide +kernel
theorem dX4_follows_150 : decode cX4_follows 150 = .ok (.iadd, 1) := by decide +kernel
theorem dX4_follows_151 : decode cX4_follows 151 = .ok (.putfield 110, 3) := by decide +kernel
theorem dX4_follows_154 : decode cX4_follows 154 = .ok (.aload_n 0, 1) := by decide +kernel
theorem dX4_follows_155 : decode cX4_follows 155 = .ok (.getfield 38, 3) := by decide +kernel
theorem dX4_follows_158 : decode cX4_follows 158 = .ok (.aload_n 0, 1) := by decide +kernel
theorem dX4_follows_159 : decode cX4_follows 159 = .ok (.getfield 107, 3) := by decide +kernel
theorem dX4_follows_162 : decode cX4_follows 162 = .ok (.iload_n 3, 1) := by decide +kernel
theorem dX4_follows_163 : decode cX4_follows 163 = .ok (.iastore, 1) := by decide +kernel
theorem dX4_follows_164 : decode cX4_follows 164 = .ok (.aload_n 0, 1) := by decide +kernel
theorem dX4_follows_165 : decode cX4_follows 165 = .ok (.aload_n 0, 1) := by decide +kernel
theorem dX4_follows_166 : decode cX4_follows 166 = .ok (.getfield 35, 3) := by decide +kernel
theorem dX4_follows_169 : decode cX4_follows 169 = .ok (.bipush 14, 2) := by decide +kernel
theorem dX4_follows_171 : decode cX4_follows 171 = .ok (.iload_n 3, 1) := by decide +kernel
theorem dX4_follows_172 : decode cX4_follows 172 = .ok (.imul, 1) := by decide +kernel
theorem dX4_follows_173 : decode cX4_follows 173 = .ok (.iload 5, 2) := by decide +kernel
theorem dX4_follows_175 : decode cX4_follows 175 = .ok (.iadd, 1) := by decide +kernel
theorem dX4_follows_176 : decode cX4_follows 176 = .ok (.baload, 1) := by decide +kernel
theorem dX4_follows_177 : decode cX4_follows 177 = .ok (.ifCond .eq 7, 3) := by decide +kernel
theorem dX4_follows_180 : decode cX4_follows 180 = .ok (.iconst 4, 1) := by decide +kernel
theorem dX4_follows_181 : decode cX4_follows 181 = .ok (.goto 5, 3) := by decide +kernel
theorem dX4_follows_184 : decode cX4_follows 184 = .ok (.bipush (-9), 2) := by decide +kernel
theorem dX4_follows_186 : decode cX4_follows 186 = .ok (.putfield 101, 3) := by decide +kernel
theorem dX4_follows_189 : decode cX4_follows 189 = .ok (.aload_n 0, 1) := by decide +kernel
theorem dX4_follows_190 : decode cX4_follows 190 = .ok (.getfield 35, 3) := by decide +kernel
theorem dX4_follows_193 : decode cX4_follows 193 = .ok (.bipush 14, 2) := by decide +kernel
theorem dX4_follows_195 : decode cX4_follows 195 = .ok (.iload_n 3, 1) := by decide +kernel
theorem dX4_follows_196 : decode cX4_follows 196 = .ok (.imul, 1) := by decide +kernel
theorem dX4_follows_197 : decode cX4_follows 197 = .ok (.iload 5, 2) := by decide +kernel
theorem dX4_follows_199 : decode cX4_follows 199 = .ok (.iadd, 1) := by decide +kernel
theorem dX4_follows_200 : decode cX4_follows 200 = .ok (.iconst 1, 1) := by decide +kernel
theorem dX4_follows_201 : decode cX4_follows 201 = .ok (.bastore, 1) := by decide +kernel
theorem dX4_follows_202 : decode cX4_follows 202 = .ok (.goto (-151), 3) := by decide +kernel
theorem dX4_follows_205 : decode cX4_follows 205 = .ok (.return_, 1) := by decide +kernel
theorem dX4_follow_0 : decode cX4_follow 0 = .ok (.iload_n 1, 1) := by decide +kernel
theorem dX4_follow_1 : decode cX4_follow 1 = .ok (.invokestatic 62, 3) := by decide +kernel
theorem dX4_follow_4 : decode cX4_follow 4 = .ok (.ifCond .eq 11, 3) := by decide +kernel
theorem dX4_follow_7 : decode cX4_follow 7 = .ok (.aload_n 0, 1) := by decide +kernel
theorem dX4_follow_8 : decode cX4_follow 8 = .ok (.iload_n 2, 1) := by decide +kernel
theorem dX4_follow_9 : decode cX4_follow 9 = .ok (.invokevirtual 69, 3) := by decide +kernel
theorem dX4_follow_12 : decode cX4_follow 12 = .ok (.ifCond .ne 5, 3) := by decide +kernel
theorem dX4_follow_15 : decode cX4_follow 15 = .ok (.iconst (-1), 1) := by decide +kernel
theorem dX4_follow_16 : decode cX4_follow 16 = .ok (.ireturn, 1) := by decide +kernel
theorem dX4_follow_17 : decode cX4_follow 17 = .ok (.iload_n 3, 1) := by decide +kernel
theorem dX4_follow_18 : decode cX4_follow 18 = .ok (.iconst 0, 1) := by decide +kernel
theorem dX4_follow_19 : decode cX4_follow 19 = .ok (.iconst 3, 1) := by decide +kernel
theorem dX4_follow_20 : decode cX4_follow 20 = .ok (.invokestatic 47, 3) := by decide +kernel
theorem dX4_follow_23 : decode cX4_follow 23 = .ok (.ifCond .ne 17, 3) := by decide +kernel
theorem dX4_follow_26 : decode cX4_follow 26 = .ok (.iload_n 3, 1) := by decide +kernel
theorem dX4_follow_27 : decode cX4_follow 27 = .ok (.bipush 10, 2) := by decide +kernel
theorem dX4_follow_29 : decode cX4_follow 29 = .ok (.bipush 50, 2) := by decide +kernel
theorem dX4_follow_31 : decode cX4_follow 31 = .ok (.invokestatic 47, 3) := by decide +kernel
theorem dX4_follow_34 : decode cX4_follow 34 = .ok (.ifCond .ne 6, 3) := by decide +kernel
theorem dX4_follow_37 : decode cX4_follow 37 = .ok (.bipush (-2), 2) := by decide +kernel
theorem dX4_follow_39 : decode cX4_follow 39 = .ok (.ireturn, 1) := by decide +kernel
theorem dX4_follow_40 : decode cX4_follow 40 = .ok (.aload_n 0, 1) := by decide +kernel
theorem dX4_follow_41 : decode cX4_follow 41 = .ok (.iload_n 2, 1) := by decide +kernel
theorem dX4_follow_42 : decode cX4_follow 42 = .ok (.invokevirtual 116, 3) := by decide +kernel
theorem dX4_follow_45 : decode cX4_follow 45 = .ok (.aload_n 0, 1) := by decide +kernel
theorem dX4_follow_46 : decode cX4_follow 46 = .ok (.iload_n 1, 1) := by decide +kernel
theorem dX4_follow_47 : decode cX4_follow 47 = .ok (.iload_n 2, 1) := by decide +kernel
theorem dX4_follow_48 : decode cX4_follow 48 = .ok (.invokevirtual 119, 3) := by decide +kernel
theorem dX4_follow_51 : decode cX4_follow 51 = .ok (.iload_n 3, 1) := by decide +kernel
theorem dX4_follow_52 : decode cX4_follow 52 = .ok (.tableswitch 57 0 3 #[32, 37, 42, 47], 32) := by decide +kernel
theorem dX4_follow_84 : decode cX4_follow 84 = .ok (.aload_n 0, 1) := by decide +kernel
theorem dX4_follow_85 : decode cX4_follow 85 = .ok (.getfield 101, 3) := by decide +kernel
theorem dX4_follow_88 : decode cX4_follow 88 = .ok (.ireturn, 1) := by decide +kernel
theorem dX4_follow_89 : decode cX4_follow 89 = .ok (.aload_n 0, 1) := by decide +kernel
theorem dX4_follow_90 : decode cX4_follow 90 = .ok (.getfield 107, 3) := by decide +kernel
theorem dX4_follow_93 : decode cX4_follow 93 = .ok (.ireturn, 1) := by decide +kernel
theorem dX4_follow_94 : decode cX4_follow 94 = .ok (.aload_n 0, 1) := by decide +kernel
theorem dX4_follow_95 : decode cX4_follow 95 = .ok (.getfield 110, 3) := by decide +kernel
theorem dX4_follow_98 : decode cX4_follow 98 = .ok (.ireturn, 1) := by decide +kernel
theorem dX4_follow_99 : decode cX4_follow 99 = .ok (.aload_n 0, 1) := by decide +kernel
theorem dX4_follow_100 : decode cX4_follow 100 = .ok (.getfield 38, 3) := by decide +kernel
theorem dX4_follow_103 : decode cX4_follow 103 = .ok (.aload_n 0, 1) := by decide +kernel
theorem dX4_follow_104 : decode cX4_follow 104 = .ok (.getfield 107, 3) := by decide +kernel
theorem dX4_follow_107 : decode cX4_follow 107 = .ok (.iaload, 1) := by decide +kernel
theorem dX4_follow_108 : decode cX4_follow 108 = .ok (.ireturn, 1) := by decide +kernel
theorem dX4_follow_109 : decode cX4_follow 109 = .ok (.iload_n 3, 1) := by decide +kernel
theorem dX4_follow_110 : decode cX4_follow 110 = .ok (.bipush 10, 2) := by decide +kernel
theorem dX4_follow_112 : decode cX4_follow 112 = .ok (.isub, 1) := by decide +kernel
theorem dX4_follow_113 : decode cX4_follow 113 = .ok (.aload_n 0, 1) := by decide +kernel
theorem dX4_follow_114 : decode cX4_follow 114 = .ok (.getfield 107, 3) := by decide +kernel
theorem dX4_follow_117 : decode cX4_follow 117 = .ok (.if_icmp .gt 15, 3) := by decide +kernel
theorem dX4_follow_120 : decode cX4_follow 120 = .ok (.aload_n 0, 1) := by decide +kernel
theorem dX4_follow_121 : decode cX4_follow 121 = .ok (.getfield 38, 3) := by decide +kernel
theorem dX4_follow_124 : decode cX4_follow 124 = .ok (.iload_n 3, 1) := by decide +kernel
theorem dX4_follow_125 : decode cX4_follow 125 = .ok (.bipush 10, 2) := by decide +kernel
theorem dX4_follow_127 : decode cX4_follow 127 = .ok (.isub, 1) := by decide +kernel
theorem dX4_follow_128 : decode cX4_follow 128 = .ok (.iaload, 1) := by decide +kernel
theorem dX4_follow_129 : decode cX4_follow 129 = .ok (.goto 5, 3) := by decide +kernel
theorem dX4_follow_132 : decode cX4_follow 132 = .ok (.bipush (-9), 2) := by decide +kernel
theorem dX4_follow_134 : decode cX4_follow 134 = .ok (.ireturn, 1) := by decide +kernel
theorem dX4_manyEnd_0 : decode cX4_manyEnd 0 = .ok (.iconst 0, 1) := by decide +kernel
theorem dX4_manyEnd_1 : decode cX4_manyEnd 1 = .ok (.istore_n 3, 1) := by decide +kernel
theorem dX4_manyEnd_2 : decode cX4_manyEnd 2 = .ok (.iconst 0, 1) := by decide +kernel
theorem dX4_manyEnd_3 : decode cX4_manyEnd 3 = .ok (.istore 4, 2) := by decide +kernel
theorem dX4_manyEnd_5 : decode cX4_manyEnd 5 = .ok (.iload 4, 2) := by decide +kernel
theorem dX4_manyEnd_7 : decode cX4_manyEnd 7 = .ok (.bipush 10, 2) := by decide +kernel
theorem dX4_manyEnd_9 : decode cX4_manyEnd 9 = .ok (.if_icmp .ge 44, 3) := by decide +kernel
theorem dX4_manyEnd_12 : decode cX4_manyEnd 12 = .ok (.aload_n 0, 1) := by decide +kernel
theorem dX4_manyEnd_13 : decode cX4_manyEnd 13 = .ok (.getfield 72, 3) := by decide +kernel
theorem dX4_manyEnd_16 : decode cX4_manyEnd 16 = .ok (.iload 4, 2) := by decide +kernel
theorem dX4_manyEnd_18 : decode cX4_manyEnd 18 = .ok (.invokestatic 75, 3) := by decide +kernel
theorem dX4_manyEnd_21 : decode cX4_manyEnd 21 = .ok (.ifCond .eq 26, 3) := by decide +kernel
theorem dX4_manyEnd_24 : decode cX4_manyEnd 24 = .ok (.aload_n 0, 1) := by decide +kernel
theorem dX4_manyEnd_25 : decode cX4_manyEnd 25 = .ok (.iload 4, 2) := by decide +kernel
theorem dX4_manyEnd_27 : decode cX4_manyEnd 27 = .ok (.iload_n 1, 1) := by decide +kernel
theorem dX4_manyEnd_28 : decode cX4_manyEnd 28 = .ok (.invokevirtual 119, 3) := by decide +kernel
theorem dX4_manyEnd_31 : decode cX4_manyEnd 31 = .ok (.iload_n 3, 1) := by decide +kernel
theorem dX4_manyEnd_32 : decode cX4_manyEnd 32 = .ok (.aload_n 0, 1) := by decide +kernel
theorem dX4_manyEnd_33 : decode cX4_manyEnd 33 = .ok (.getfield 101, 3) := by decide +kernel
theorem dX4_manyEnd_36 : decode cX4_manyEnd 36 = .ok (.iload_n 2, 1) := by decide +kernel
theorem dX4_manyEnd_37 : decode cX4_manyEnd 37 = .ok (.if_icmp .ne 7, 3) := by decide +kernel
theorem dX4_manyEnd_40 : decode cX4_manyEnd 40 = .ok (.iconst 1, 1) := by decide +kernel
theorem dX4_manyEnd_41 : decode cX4_manyEnd 41 = .ok (.goto 4, 3) := by decide +kernel
theorem dX4_manyEnd_44 : decode cX4_manyEnd 44 = .ok (.iconst 0, 1) := by decide +kernel
theorem dX4_manyEnd_45 : decode cX4_manyEnd 45 = .ok (.iadd, 1) := by decide +kernel
theorem dX4_manyEnd_46 : decode cX4_manyEnd 46 = .ok (.istore_n 3, 1) := by decide +kernel
theorem dX4_manyEnd_47 : decode cX4_manyEnd 47 = .ok (.iinc 4 1, 3) := by decide +kernel
theorem dX4_manyEnd_50 : decode cX4_manyEnd 50 = .ok (.goto (-45), 3) := by decide +kernel
theorem dX4_manyEnd_53 : decode cX4_manyEnd 53 = .ok (.iload_n 3, 1) := by decide +kernel
theorem dX4_manyEnd_54 : decode cX4_manyEnd 54 = .ok (.ireturn, 1) := by decide +kernel
theorem dX4_ends_0 : decode cX4_ends 0 = .ok (.iload_n 1, 1) := by decide +kernel
theorem dX4_ends_1 : decode cX4_ends 1 = .ok (.iconst 0, 1) := by decide +kernel
theorem dX4_ends_2 : decode cX4_ends 2 = .ok (.iconst 4, 1) := by decide +kernel
theorem dX4_ends_3 : decode cX4_ends 3 = .ok (.invokestatic 47, 3) := by decide +kernel
theorem dX4_ends_6 : decode cX4_ends 6 = .ok (.ifCond .ne 6, 3) := by decide +kernel
theorem dX4_ends_9 : decode cX4_ends 9 = .ok (.bipush (-2), 2) := by decide +kernel
theorem dX4_ends_11 : decode cX4_ends 11 = .ok (.ireturn, 1) := by decide +kernel
theorem dX4_ends_12 : decode cX4_ends 12 = .ok (.iconst 0, 1) := by decide +kernel
theorem dX4_ends_13 : decode cX4_ends 13 = .ok (.istore_n 2, 1) := by decide +kernel
theorem dX4_ends_14 : decode cX4_ends 14 = .ok (.iconst 0, 1) := by decide +kernel
theorem dX4_ends_15 : decode cX4_ends 15 = .ok (.istore_n 3, 1) := by decide +kernel
theorem dX4_ends_16 : decode cX4_ends 16 = .ok (.iload_n 3, 1) := by decide +kernel
theorem dX4_ends_17 : decode cX4_ends 17 = .ok (.aload_n 0, 1) := by decide +kernel
theorem dX4_ends_18 : decode cX4_ends 18 = .ok (.getfield 55, 3) := by decide +kernel
theorem dX4_ends_21 : decode cX4_ends 21 = .ok (.if_icmp .ge 23, 3) := by decide +kernel
theorem dX4_ends_24 : decode cX4_ends 24 = .ok (.aload_n 0, 1) := by decide +kernel
theorem dX4_ends_25 : decode cX4_ends 25 = .ok (.iload_n 3, 1) := by decide +kernel
theorem dX4_ends_26 : decode cX4_ends 26 = .ok (.invokevirtual 116, 3) := by decide +kernel
theorem dX4_ends_29 : decode cX4_ends 29 = .ok (.iload_n 2, 1) := by decide +kernel
theorem dX4_ends_30 : decode cX4_ends 30 = .ok (.aload_n 0, 1) := by decide +kernel
theorem dX4_ends_31 : decode cX4_ends 31 = .ok (.iload_n 3, 1) := by decide +kernel
theorem dX4_ends_32 : decode cX4_ends 32 = .ok (.iload_n 1, 1) := by decide +kernel
theorem dX4_ends_33 : decode cX4_ends 33 = .ok (.invokevirtual 123, 3) := by decide +kernel
theorem dX4_ends_36 : decode cX4_ends 36 = .ok (.iadd, 1) := by decide +kernel
theorem dX4_ends_37 : decode cX4_ends 37 = .ok (.istore_n 2, 1) := by decide +kernel
theorem dX4_ends_38 : decode cX4_ends 38 = .ok (.iinc 3 1, 3) := by decide +kernel
theorem dX4_ends_41 : decode cX4_ends 41 = .ok (.goto (-25), 3) := by decide +kernel
theorem dX4_ends_44 : decode cX4_ends 44 = .ok (.iload_n 2, 1) := by decide +kernel
theorem dX4_ends_45 : decode cX4_ends 45 = .ok (.ireturn, 1) := by decide +kernel
theorem dX4_those_0 : decode cX4_those 0 = .ok (.aload_n 0, 1) := by decide +kernel
theorem dX4_those_1 : decode cX4_those 1 = .ok (.iload_n 1, 1) := by decide +kernel
theorem dX4_those_2 : decode cX4_those 2 = .ok (.invokevirtual 69, 3) := by decide +kernel
theorem dX4_those_5 : decode cX4_those 5 = .ok (.ifCond .ne 5, 3) := by decide +kernel
theorem dX4_those_8 : decode cX4_those 8 = .ok (.iconst (-1), 1) := by decide +kernel
theorem dX4_those_9 : decode cX4_those 9 = .ok (.ireturn, 1) := by decide +kernel
theorem dX4_those_10 : decode cX4_those 10 = .ok (.iload_n 2, 1) := by decide +kernel
theorem dX4_those_11 : decode cX4_those 11 = .ok (.iconst 0, 1) := by decide +kernel
theorem dX4_those_12 : decode cX4_those 12 = .ok (.iconst 4, 1) := by decide +kernel
theorem dX4_those_13 : decode cX4_those 13 = .ok (.invokestatic 47, 3) := by decide +kernel
theorem dX4_those_16 : decode cX4_those 16 = .ok (.ifCond .ne 6, 3) := by decide +kernel
theorem dX4_those_19 : decode cX4_those 19 = .ok (.bipush (-2), 2) := by decide +kernel
theorem dX4_those_21 : decode cX4_those 21 = .ok (.ireturn, 1) := by decide +kernel
theorem dX4_those_22 : decode cX4_those 22 = .ok (.aload_n 0, 1) := by decide +kernel
theorem dX4_those_23 : decode cX4_those 23 = .ok (.iload_n 1, 1) := by decide +kernel
theorem dX4_those_24 : decode cX4_those 24 = .ok (.invokevirtual 116, 3) := by decide +kernel
theorem dX4_those_27 : decode cX4_those 27 = .ok (.iconst 0, 1) := by decide +kernel
theorem dX4_those_28 : decode cX4_those 28 = .ok (.istore_n 3, 1) := by decide +kernel
theorem dX4_those_29 : decode cX4_those 29 = .ok (.iconst 0, 1) := by decide +kernel
theorem dX4_those_30 : decode cX4_those 30 = .ok (.istore 4, 2) := by decide +kernel
theorem dX4_those_32 : decode cX4_those 32 = .ok (.iload 4, 2) := by decide +kernel
theorem dX4_those_34 : decode cX4_those 34 = .ok (.bipush 10, 2) := by decide +kernel
theorem dX4_those_36 : decode cX4_those 36 = .ok (.if_icmp .ge 35, 3) := by decide +kernel
theorem dX4_those_39 : decode cX4_those 39 = .ok (.aload_n 0, 1) := by decide +kernel
theorem dX4_those_40 : decode cX4_those 40 = .ok (.iload 4, 2) := by decide +kernel
theorem dX4_those_42 : decode cX4_those 42 = .ok (.iload_n 1, 1) := by decide +kernel
theorem dX4_those_43 : decode cX4_those 43 = .ok (.invokevirtual 119, 3) := by decide +kernel
theorem dX4_those_46 : decode cX4_those 46 = .ok (.iload_n 3, 1) := by decide +kernel
theorem dX4_those_47 : decode cX4_those 47 = .ok (.aload_n 0, 1) := by decide +kernel
theorem dX4_those_48 : decode cX4_those 48 = .ok (.getfield 101, 3) := by decide +kernel
theorem dX4_those_51 : decode cX4_those 51 = .ok (.iload_n 2, 1) := by decide +kernel
theorem dX4_those_52 : decode cX4_those 52 = .ok (.if_icmp .ne 10, 3) := by decide +kernel
theorem dX4_those_55 : decode cX4_those 55 = .ok (.iconst 1, 1) := by decide +kernel
theorem dX4_those_56 : decode cX4_those 56 = .ok (.iload 4, 2) := by decide +kernel
theorem dX4_those_58 : decode cX4_those 58 = .ok (.ishl, 1) := by decide +kernel
theorem dX4_those_59 : decode cX4_those 59 = .ok (.goto 4, 3) := by decide +kernel
theorem dX4_those_62 : decode cX4_those 62 = .ok (.iconst 0, 1) := by decide +kernel
theorem dX4_those_63 : decode cX4_those 63 = .ok (.ior, 1) := by decide +kernel
theorem dX4_those_64 : decode cX4_those 64 = .ok (.istore_n 3, 1) := by decide +kernel
theorem dX4_those_65 : decode cX4_those 65 = .ok (.iinc 4 1, 3) := by decide +kernel
theorem dX4_those_68 : decode cX4_those 68 = .ok (.goto (-36), 3) := by decide +kernel
theorem dX4_those_71 : decode cX4_those 71 = .ok (.iload_n 3, 1) := by decide +kernel
theorem dX4_those_72 : decode cX4_those 72 = .ok (.ireturn, 1) := by decide +kernel
theorem dX4_keeps_0 : decode cX4_keeps 0 = .ok (.aload_n 0, 1) := by decide +kernel
theorem dX4_keeps_1 : decode cX4_keeps 1 = .ok (.aload_n 0, 1) := by decide +kernel
theorem dX4_keeps_2 : decode cX4_keeps 2 = .ok (.getfield 107, 3) := by decide +kernel
theorem dX4_keeps_5 : decode cX4_keeps 5 = .ok (.putfield 126, 3) := by decide +kernel
theorem dX4_keeps_8 : decode cX4_keeps 8 = .ok (.aload_n 0, 1) := by decide +kernel
theorem dX4_keeps_9 : decode cX4_keeps 9 = .ok (.aload_n 0, 1) := by decide +kernel
theorem dX4_keeps_10 : decode cX4_keeps 10 = .ok (.getfield 101, 3) := by decide +kernel
theorem dX4_keeps_13 : decode cX4_keeps 13 = .ok (.putfield 129, 3) := by decide +kernel
theorem dX4_keeps_16 : decode cX4_keeps 16 = .ok (.iconst 0, 1) := by decide +kernel
theorem dX4_keeps_17 : decode cX4_keeps 17 = .ok (.istore_n 1, 1) := by decide +kernel
theorem dX4_keeps_18 : decode cX4_keeps 18 = .ok (.iload_n 1, 1) := by decide +kernel
theorem dX4_keeps_19 : decode cX4_keeps 19 = .ok (.aload_n 0, 1) := by decide +kernel
theorem dX4_keeps_20 : decode cX4_keeps 20 = .ok (.getfield 107, 3) := by decide +kernel
theorem dX4_keeps_23 : decode cX4_keeps 23 = .ok (.if_icmp .gt 21, 3) := by decide +kernel
theorem dX4_keeps_26 : decode cX4_keeps 26 = .ok (.aload_n 0, 1) := by decide +kernel
theorem dX4_keeps_27 : decode cX4_keeps 27 = .ok (.getfield 41, 3) := by decide +kernel
theorem dX4_keeps_30 : decode cX4_keeps 30 = .ok (.iload_n 1, 1) := by decide +kernel
theorem dX4_keeps_31 : decode cX4_keeps 31 = .ok (.aload_n 0, 1) := by decide +kernel
theorem dX4_keeps_32 : decode cX4_keeps 32 = .ok (.getfield 38, 3) := by decide +kernel
theorem dX4_keeps_35 : decode cX4_keeps 35 = .ok (.iload_n 1, 1) := by decide +kernel
theorem dX4_keeps_36 : decode cX4_keeps 36 = .ok (.iaload, 1) := by decide +kernel
theorem dX4_keeps_37 : decode cX4_keeps 37 = .ok (.iastore, 1) := by decide +kernel
theorem dX4_keeps_38 : decode cX4_keeps 38 = .ok (.iinc 1 1, 3) := by decide +kernel
theorem dX4_keeps_41 : decode cX4_keeps 41 = .ok (.goto (-23), 3) := by decide +kernel
theorem dX4_keeps_44 : decode cX4_keeps 44 = .ok (.return_, 1) := by decide +kernel
theorem dX4_isAsKept_0 : decode cX4_isAsKept 0 = .ok (.aload_n 0, 1) := by decide +kernel
theorem dX4_isAsKept_1 : decode cX4_isAsKept 1 = .ok (.getfield 107, 3) := by decide +kernel
theorem dX4_isAsKept_4 : decode cX4_isAsKept 4 = .ok (.aload_n 0, 1) := by decide +kernel
theorem dX4_isAsKept_5 : decode cX4_isAsKept 5 = .ok (.getfield 126, 3) := by decide +kernel
theorem dX4_isAsKept_8 : decode cX4_isAsKept 8 = .ok (.if_icmp .ne 18, 3) := by decide +kernel
theorem dX4_isAsKept_11 : decode cX4_isAsKept 11 = .ok (.aload_n 0, 1) := by decide +kernel
theorem dX4_isAsKept_12 : decode cX4_isAsKept 12 = .ok (.getfield 101, 3) := by decide +kernel
theorem dX4_isAsKept_15 : decode cX4_isAsKept 15 = .ok (.aload_n 0, 1) := by decide +kernel
theorem dX4_isAsKept_16 : decode cX4_isAsKept 16 = .ok (.getfield 129, 3) := by decide +kernel
theorem dX4_isAsKept_19 : decode cX4_isAsKept 19 = .ok (.if_icmp .ne 7, 3) := by decide +kernel
theorem dX4_isAsKept_22 : decode cX4_isAsKept 22 = .ok (.iconst 1, 1) := by decide +kernel
theorem dX4_isAsKept_23 : decode cX4_isAsKept 23 = .ok (.goto 4, 3) := by decide +kernel
theorem dX4_isAsKept_26 : decode cX4_isAsKept 26 = .ok (.iconst 0, 1) := by decide +kernel
theorem dX4_isAsKept_27 : decode cX4_isAsKept 27 = .ok (.istore_n 1, 1) := by decide +kernel
theorem dX4_isAsKept_28 : decode cX4_isAsKept 28 = .ok (.iconst 0, 1) := by decide +kernel
theorem dX4_isAsKept_29 : decode cX4_isAsKept 29 = .ok (.istore_n 2, 1) := by decide +kernel
theorem dX4_isAsKept_30 : decode cX4_isAsKept 30 = .ok (.iload_n 2, 1) := by decide +kernel
theorem dX4_isAsKept_31 : decode cX4_isAsKept 31 = .ok (.aload_n 0, 1) := by decide +kernel
theorem dX4_isAsKept_32 : decode cX4_isAsKept 32 = .ok (.getfield 107, 3) := by decide +kernel
theorem dX4_isAsKept_35 : decode cX4_isAsKept 35 = .ok (.if_icmp .gt 34, 3) := by decide +kernel
theorem dX4_isAsKept_38 : decode cX4_isAsKept 38 = .ok (.iload_n 1, 1) := by decide +kernel
theorem dX4_isAsKept_39 : decode cX4_isAsKept 39 = .ok (.ifCond .eq 30, 3) := by decide +kernel
theorem dX4_isAsKept_42 : decode cX4_isAsKept 42 = .ok (.aload_n 0, 1) := by decide +kernel
theorem dX4_isAsKept_43 : decode cX4_isAsKept 43 = .ok (.getfield 38, 3) := by decide +kernel
theorem dX4_isAsKept_46 : decode cX4_isAsKept 46 = .ok (.iload_n 2, 1) := by decide +kernel
theorem dX4_isAsKept_47 : decode cX4_isAsKept 47 = .ok (.iaload, 1) := by decide +kernel
theorem dX4_isAsKept_48 : decode cX4_isAsKept 48 = .ok (.aload_n 0, 1) := by decide +kernel
theorem dX4_isAsKept_49 : decode cX4_isAsKept 49 = .ok (.getfield 41, 3) := by decide +kernel
theorem dX4_isAsKept_52 : decode cX4_isAsKept 52 = .ok (.iload_n 2, 1) := by decide +kernel
theorem dX4_isAsKept_53 : decode cX4_isAsKept 53 = .ok (.iaload, 1) := by decide +kernel
theorem dX4_isAsKept_54 : decode cX4_isAsKept 54 = .ok (.if_icmp .ne 7, 3) := by decide +kernel
theorem dX4_isAsKept_57 : decode cX4_isAsKept 57 = .ok (.iconst 1, 1) := by decide +kernel
theorem dX4_isAsKept_58 : decode cX4_isAsKept 58 = .ok (.goto 4, 3) := by decide +kernel
theorem dX4_isAsKept_61 : decode cX4_isAsKept 61 = .ok (.iconst 0, 1) := by decide +kernel
theorem dX4_isAsKept_62 : decode cX4_isAsKept 62 = .ok (.istore_n 1, 1) := by decide +kernel
theorem dX4_isAsKept_63 : decode cX4_isAsKept 63 = .ok (.iinc 2 1, 3) := by decide +kernel
theorem dX4_isAsKept_66 : decode cX4_isAsKept 66 = .ok (.goto (-36), 3) := by decide +kernel
theorem dX4_isAsKept_69 : decode cX4_isAsKept 69 = .ok (.iload_n 1, 1) := by decide +kernel
theorem dX4_isAsKept_70 : decode cX4_isAsKept 70 = .ok (.ireturn, 1) := by decide +kernel
theorem dX4_isIdle_0 : decode cX4_isIdle 0 = .ok (.aload_n 0, 1) := by decide +kernel
theorem dX4_isIdle_1 : decode cX4_isIdle 1 = .ok (.getfield 26, 3) := by decide +kernel
theorem dX4_isIdle_4 : decode cX4_isIdle 4 = .ok (.iconst 5, 1) := by decide +kernel
theorem dX4_isIdle_5 : decode cX4_isIdle 5 = .ok (.iload_n 1, 1) := by decide +kernel
theorem dX4_isIdle_6 : decode cX4_isIdle 6 = .ok (.imul, 1) := by decide +kernel
theorem dX4_isIdle_7 : decode cX4_isIdle 7 = .ok (.iload_n 2, 1) := by decide +kernel
theorem dX4_isIdle_8 : decode cX4_isIdle 8 = .ok (.iadd, 1) := by decide +kernel
theorem dX4_isIdle_9 : decode cX4_isIdle 9 = .ok (.iaload, 1) := by decide +kernel
theorem dX4_isIdle_10 : decode cX4_isIdle 10 = .ok (.istore_n 3, 1) := by decide +kernel
theorem dX4_isIdle_11 : decode cX4_isIdle 11 = .ok (.iload_n 3, 1) := by decide +kernel
theorem dX4_isIdle_12 : decode cX4_isIdle 12 = .ok (.bipush (-9), 2) := by decide +kernel
theorem dX4_isIdle_14 : decode cX4_isIdle 14 = .ok (.if_icmp .eq 7, 3) := by decide +kernel
theorem dX4_isIdle_17 : decode cX4_isIdle 17 = .ok (.iconst 1, 1) := by decide +kernel
theorem dX4_isIdle_18 : decode cX4_isIdle 18 = .ok (.goto 4, 3) := by decide +kernel
theorem dX4_isIdle_21 : decode cX4_isIdle 21 = .ok (.iconst 0, 1) := by decide +kernel
theorem dX4_isIdle_22 : decode cX4_isIdle 22 = .ok (.istore 4, 2) := by decide +kernel
theorem dX4_isIdle_24 : decode cX4_isIdle 24 = .ok (.aload_n 0, 1) := by decide +kernel
theorem dX4_isIdle_25 : decode cX4_isIdle 25 = .ok (.iload_n 2, 1) := by decide +kernel
theorem dX4_isIdle_26 : decode cX4_isIdle 26 = .ok (.invokevirtual 116, 3) := by decide +kernel
theorem dX4_isIdle_29 : decode cX4_isIdle 29 = .ok (.iconst 0, 1) := by decide +kernel
theorem dX4_isIdle_30 : decode cX4_isIdle 30 = .ok (.istore 5, 2) := by decide +kernel
theorem dX4_isIdle_32 : decode cX4_isIdle 32 = .ok (.iload 5, 2) := by decide +kernel
theorem dX4_isIdle_34 : decode cX4_isIdle 34 = .ok (.bipush 10, 2) := by decide +kernel
theorem dX4_isIdle_36 : decode cX4_isIdle 36 = .ok (.if_icmp .ge 65, 3) := by decide +kernel
theorem dX4_isIdle_39 : decode cX4_isIdle 39 = .ok (.iload 4, 2) := by decide +kernel
theorem dX4_isIdle_41 : decode cX4_isIdle 41 = .ok (.ifCond .eq 60, 3) := by decide +kernel
theorem dX4_isIdle_44 : decode cX4_isIdle 44 = .ok (.aload_n 0, 1) := by decide +kernel
theorem dX4_isIdle_45 : decode cX4_isIdle 45 = .ok (.getfield 72, 3) := by decide +kernel
theorem dX4_isIdle_48 : decode cX4_isIdle 48 = .ok (.iload 5, 2) := by decide +kernel
theorem dX4_isIdle_50 : decode cX4_isIdle 50 = .ok (.invokestatic 75, 3) := by decide +kernel
theorem dX4_isIdle_53 : decode cX4_isIdle 53 = .ok (.ifCond .eq 42, 3) := by decide +kernel
theorem dX4_isIdle_56 : decode cX4_isIdle 56 = .ok (.aload_n 0, 1) := by decide +kernel
theorem dX4_isIdle_57 : decode cX4_isIdle 57 = .ok (.getfield 32, 3) := by decide +kernel
theorem dX4_isIdle_60 : decode cX4_isIdle 60 = .ok (.iload_n 1, 1) := by decide +kernel
theorem dX4_isIdle_61 : decode cX4_isIdle 61 = .ok (.iload_n 3, 1) := by decide +kernel
theorem dX4_isIdle_62 : decode cX4_isIdle 62 = .ok (.iastore, 1) := by decide +kernel
theorem dX4_isIdle_63 : decode cX4_isIdle 63 = .ok (.aload_n 0, 1) := by decide +kernel
theorem dX4_isIdle_64 : decode cX4_isIdle 64 = .ok (.iload 5, 2) := by decide +kernel
theorem dX4_isIdle_66 : decode cX4_isIdle 66 = .ok (.iload_n 2, 1) := by decide +kernel
theorem dX4_isIdle_67 : decode cX4_isIdle 67 = .ok (.invokevirtual 119, 3) := by decide +kernel
theorem dX4_isIdle_70 : decode cX4_isIdle 70 = .ok (.aload_n 0, 1) := by decide +kernel
theorem dX4_isIdle_71 : decode cX4_isIdle 71 = .ok (.invokevirtual 132, 3) := by decide +kernel
theorem dX4_isIdle_74 : decode cX4_isIdle 74 = .ok (.aload_n 0, 1) := by decide +kernel
theorem dX4_isIdle_75 : decode cX4_isIdle 75 = .ok (.getfield 32, 3) := by decide +kernel
theorem dX4_isIdle_78 : decode cX4_isIdle 78 = .ok (.iload_n 1, 1) := by decide +kernel
theorem dX4_isIdle_79 : decode cX4_isIdle 79 = .ok (.bipush (-9), 2) := by decide +kernel
theorem dX4_isIdle_81 : decode cX4_isIdle 81 = .ok (.iastore, 1) := by decide +kernel
theorem dX4_isIdle_82 : decode cX4_isIdle 82 = .ok (.aload_n 0, 1) := by decide +kernel
theorem dX4_isIdle_83 : decode cX4_isIdle 83 = .ok (.iload 5, 2) := by decide +kernel
theorem dX4_isIdle_85 : decode cX4_isIdle 85 = .ok (.iload_n 2, 1) := by decide +kernel
theorem dX4_isIdle_86 : decode cX4_isIdle 86 = .ok (.invokevirtual 119, 3) := by decide +kernel
theorem dX4_isIdle_89 : decode cX4_isIdle 89 = .ok (.aload_n 0, 1) := by decide +kernel
theorem dX4_isIdle_90 : decode cX4_isIdle 90 = .ok (.invokevirtual 135, 3) := by decide +kernel
theorem dX4_isIdle_93 : decode cX4_isIdle 93 = .ok (.istore 4, 2) := by decide +kernel
theorem dX4_isIdle_95 : decode cX4_isIdle 95 = .ok (.iinc 5 1, 3) := by decide +kernel
theorem dX4_isIdle_98 : decode cX4_isIdle 98 = .ok (.goto (-66), 3) := by decide +kernel
theorem dX4_isIdle_101 : decode cX4_isIdle 101 = .ok (.iload 4, 2) := by decide +kernel
theorem dX4_isIdle_103 : decode cX4_isIdle 103 = .ok (.ireturn, 1) := by decide +kernel
theorem dX4_idle_0 : decode cX4_idle 0 = .ok (.iload_n 1, 1) := by decide +kernel
theorem dX4_idle_1 : decode cX4_idle 1 = .ok (.invokestatic 62, 3) := by decide +kernel
theorem dX4_idle_4 : decode cX4_idle 4 = .ok (.ifCond .ne 5, 3) := by decide +kernel
theorem dX4_idle_7 : decode cX4_idle 7 = .ok (.iconst (-1), 1) := by decide +kernel
theorem dX4_idle_8 : decode cX4_idle 8 = .ok (.ireturn, 1) := by decide +kernel
theorem dX4_idle_9 : decode cX4_idle 9 = .ok (.iconst 0, 1) := by decide +kernel
theorem dX4_idle_10 : decode cX4_idle 10 = .ok (.istore_n 2, 1) := by decide +kernel
theorem dX4_idle_11 : decode cX4_idle 11 = .ok (.iconst 0, 1) := by decide +kernel
theorem dX4_idle_12 : decode cX4_idle 12 = .ok (.istore_n 3, 1) := by decide +kernel
theorem dX4_idle_13 : decode cX4_idle 13 = .ok (.iload_n 3, 1) := by decide +kernel
theorem dX4_idle_14 : decode cX4_idle 14 = .ok (.aload_n 0, 1) := by decide +kernel
theorem dX4_idle_15 : decode cX4_idle 15 = .ok (.getfield 55, 3) := by decide +kernel
theorem dX4_idle_18 : decode cX4_idle 18 = .ok (.if_icmp .ge 28, 3) := by decide +kernel
theorem dX4_idle_21 : decode cX4_idle 21 = .ok (.iload_n 2, 1) := by decide +kernel
theorem dX4_idle_22 : decode cX4_idle 22 = .ok (.aload_n 0, 1) := by decide +kernel
theorem dX4_idle_23 : decode cX4_idle 23 = .ok (.iload_n 1, 1) := by decide +kernel
theorem dX4_idle_24 : decode cX4_idle 24 = .ok (.iload_n 3, 1) := by decide +kernel
theorem dX4_idle_25 : decode cX4_idle 25 = .ok (.invokevirtual 139, 3) := by decide +kernel
theorem dX4_idle_28 : decode cX4_idle 28 = .ok (.ifCond .eq 9, 3) := by decide +kernel
theorem dX4_idle_31 : decode cX4_idle 31 = .ok (.iconst 1, 1) := by decide +kernel
theorem dX4_idle_32 : decode cX4_idle 32 = .ok (.iload_n 3, 1) := by decide +kernel
theorem dX4_idle_33 : decode cX4_idle 33 = .ok (.ishl, 1) := by decide +kernel
theorem dX4_idle_34 : decode cX4_idle 34 = .ok (.goto 4, 3) := by decide +kernel
theorem dX4_idle_37 : decode cX4_idle 37 = .ok (.iconst 0, 1) := by decide +kernel
theorem dX4_idle_38 : decode cX4_idle 38 = .ok (.ior, 1) := by decide +kernel
theorem dX4_idle_39 : decode cX4_idle 39 = .ok (.istore_n 2, 1) := by decide +kernel
theorem dX4_idle_40 : decode cX4_idle 40 = .ok (.iinc 3 1, 3) := by decide +kernel
theorem dX4_idle_43 : decode cX4_idle 43 = .ok (.goto (-30), 3) := by decide +kernel
theorem dX4_idle_46 : decode cX4_idle 46 = .ok (.iload_n 2, 1) := by decide +kernel
theorem dX4_idle_47 : decode cX4_idle 47 = .ok (.ireturn, 1) := by decide +kernel
theorem dX4_moreBy_0 : decode cX4_moreBy 0 = .ok (.aload_n 0, 1) := by decide +kernel
theorem dX4_moreBy_1 : decode cX4_moreBy 1 = .ok (.iload_n 2, 1) := by decide +kernel
theorem dX4_moreBy_2 : decode cX4_moreBy 2 = .ok (.invokevirtual 90, 3) := by decide +kernel
theorem dX4_moreBy_5 : decode cX4_moreBy 5 = .ok (.aload_n 0, 1) := by decide +kernel
theorem dX4_moreBy_6 : decode cX4_moreBy 6 = .ok (.iload_n 1, 1) := by decide +kernel
theorem dX4_moreBy_7 : decode cX4_moreBy 7 = .ok (.invokevirtual 94, 3) := by decide +kernel
theorem dX4_moreBy_10 : decode cX4_moreBy 10 = .ok (.istore_n 3, 1) := by decide +kernel
theorem dX4_moreBy_11 : decode cX4_moreBy 11 = .ok (.aload_n 0, 1) := by decide +kernel
theorem dX4_moreBy_12 : decode cX4_moreBy 12 = .ok (.getfield 26, 3) := by decide +kernel
theorem dX4_moreBy_15 : decode cX4_moreBy 15 = .ok (.iconst 5, 1) := by decide +kernel
theorem dX4_moreBy_16 : decode cX4_moreBy 16 = .ok (.iload_n 1, 1) := by decide +kernel
theorem dX4_moreBy_17 : decode cX4_moreBy 17 = .ok (.imul, 1) := by decide +kernel
theorem dX4_moreBy_18 : decode cX4_moreBy 18 = .ok (.iload_n 2, 1) := by decide +kernel
theorem dX4_moreBy_19 : decode cX4_moreBy 19 = .ok (.iadd, 1) := by decide +kernel
theorem dX4_moreBy_20 : decode cX4_moreBy 20 = .ok (.iaload, 1) := by decide +kernel
theorem dX4_moreBy_21 : decode cX4_moreBy 21 = .ok (.bipush (-9), 2) := by decide +kernel
theorem dX4_moreBy_23 : decode cX4_moreBy 23 = .ok (.if_icmp .ne 9, 3) := by decide +kernel
theorem dX4_moreBy_26 : decode cX4_moreBy 26 = .ok (.iload_n 3, 1) := by decide +kernel
theorem dX4_moreBy_27 : decode cX4_moreBy 27 = .ok (.bipush (-9), 2) := by decide +kernel
theorem dX4_moreBy_29 : decode cX4_moreBy 29 = .ok (.if_icmp .ne 6, 3) := by decide +kernel
theorem dX4_moreBy_32 : decode cX4_moreBy 32 = .ok (.bipush (-9), 2) := by decide +kernel
theorem dX4_moreBy_34 : decode cX4_moreBy 34 = .ok (.ireturn, 1) := by decide +kernel
theorem dX4_moreBy_35 : decode cX4_moreBy 35 = .ok (.aload_n 0, 1) := by decide +kernel
theorem dX4_moreBy_36 : decode cX4_moreBy 36 = .ok (.iload_n 2, 1) := by decide +kernel
theorem dX4_moreBy_37 : decode cX4_moreBy 37 = .ok (.invokevirtual 116, 3) := by decide +kernel
theorem dX4_moreBy_40 : decode cX4_moreBy 40 = .ok (.aload_n 0, 1) := by decide +kernel
theorem dX4_moreBy_41 : decode cX4_moreBy 41 = .ok (.iload_n 2, 1) := by decide +kernel
theorem dX4_moreBy_42 : decode cX4_moreBy 42 = .ok (.iconst 0, 1) := by decide +kernel
theorem dX4_moreBy_43 : decode cX4_moreBy 43 = .ok (.invokevirtual 123, 3) := by decide +kernel
theorem dX4_moreBy_46 : decode cX4_moreBy 46 = .ok (.istore 4, 2) := by decide +kernel
theorem dX4_moreBy_48 : decode cX4_moreBy 48 = .ok (.aload_n 0, 1) := by decide +kernel
theorem dX4_moreBy_49 : decode cX4_moreBy 49 = .ok (.getfield 32, 3) := by decide +kernel
theorem dX4_moreBy_52 : decode cX4_moreBy 52 = .ok (.iload_n 1, 1) := by decide +kernel
theorem dX4_moreBy_53 : decode cX4_moreBy 53 = .ok (.iload_n 3, 1) := by decide +kernel
theorem dX4_moreBy_54 : decode cX4_moreBy 54 = .ok (.iastore, 1) := by decide +kernel
theorem dX4_moreBy_55 : decode cX4_moreBy 55 = .ok (.aload_n 0, 1) := by decide +kernel
theorem dX4_moreBy_56 : decode cX4_moreBy 56 = .ok (.iload_n 2, 1) := by decide +kernel
theorem dX4_moreBy_57 : decode cX4_moreBy 57 = .ok (.iconst 0, 1) := by decide +kernel
theorem dX4_moreBy_58 : decode cX4_moreBy 58 = .ok (.invokevirtual 123, 3) := by decide +kernel
theorem dX4_moreBy_61 : decode cX4_moreBy 61 = .ok (.iload 4, 2) := by decide +kernel
theorem dX4_moreBy_63 : decode cX4_moreBy 63 = .ok (.isub, 1) := by decide +kernel
theorem dX4_moreBy_64 : decode cX4_moreBy 64 = .ok (.ireturn, 1) := by decide +kernel
theorem dX4_mend_0 : decode cX4_mend 0 = .ok (.iload_n 1, 1) := by decide +kernel
theorem dX4_mend_1 : decode cX4_mend 1 = .ok (.iconst 0, 1) := by decide +kernel
theorem dX4_mend_2 : decode cX4_mend 2 = .ok (.iconst 2, 1) := by decide +kernel
theorem dX4_mend_3 : decode cX4_mend 3 = .ok (.invokestatic 47, 3) := by decide +kernel
theorem dX4_mend_6 : decode cX4_mend 6 = .ok (.ifCond .ne 6, 3) := by decide +kernel
theorem dX4_mend_9 : decode cX4_mend 9 = .ok (.bipush (-2), 2) := by decide +kernel
theorem dX4_mend_11 : decode cX4_mend 11 = .ok (.ireturn, 1) := by decide +kernel
theorem dX4_mend_12 : decode cX4_mend 12 = .ok (.aload_n 0, 1) := by decide +kernel
theorem dX4_mend_13 : decode cX4_mend 13 = .ok (.iconst 0, 1) := by decide +kernel
theorem dX4_mend_14 : decode cX4_mend 14 = .ok (.invokevirtual 142, 3) := by decide +kernel
theorem dX4_mend_17 : decode cX4_mend 17 = .ok (.istore_n 2, 1) := by decide +kernel
theorem dX4_mend_18 : decode cX4_mend 18 = .ok (.iconst 0, 1) := by decide +kernel
theorem dX4_mend_19 : decode cX4_mend 19 = .ok (.istore_n 3, 1) := by decide +kernel
theorem dX4_mend_20 : decode cX4_mend 20 = .ok (.bipush (-9), 2) := by decide +kernel
theorem dX4_mend_22 : decode cX4_mend 22 = .ok (.istore 4, 2) := by decide +kernel
theorem dX4_mend_24 : decode cX4_mend 24 = .ok (.iconst 0, 1) := by decide +kernel
theorem dX4_mend_25 : decode cX4_mend 25 = .ok (.istore 5, 2) := by decide +kernel
theorem dX4_mend_27 : decode cX4_mend 27 = .ok (.iload 5, 2) := by decide +kernel
theorem dX4_mend_29 : decode cX4_mend 29 = .ok (.bipush 50, 2) := by decide +kernel
theorem dX4_mend_31 : decode cX4_mend 31 = .ok (.if_icmp .ge 52, 3) := by decide +kernel
theorem dX4_mend_34 : decode cX4_mend 34 = .ok (.iload 5, 2) := by decide +kernel
theorem dX4_mend_36 : decode cX4_mend 36 = .ok (.iconst 5, 1) := by decide +kernel
theorem dX4_mend_37 : decode cX4_mend 37 = .ok (.irem, 1) := by decide +kernel
theorem dX4_mend_38 : decode cX4_mend 38 = .ok (.aload_n 0, 1) := by decide +kernel
theorem dX4_mend_39 : decode cX4_mend 39 = .ok (.getfield 55, 3) := by decide +kernel
theorem dX4_mend_42 : decode cX4_mend 42 = .ok (.if_icmp .ge 18, 3) := by decide +kernel
theorem dX4_mend_45 : decode cX4_mend 45 = .ok (.aload_n 0, 1) := by decide +kernel
theorem dX4_mend_46 : decode cX4_mend 46 = .ok (.iload 5, 2) := by decide +kernel
theorem dX4_mend_48 : decode cX4_mend 48 = .ok (.iconst 5, 1) := by decide +kernel
theorem dX4_mend_49 : decode cX4_mend 49 = .ok (.idiv, 1) := by decide +kernel
theorem dX4_mend_50 : decode cX4_mend 50 = .ok (.iload 5, 2) := by decide +kernel
theorem dX4_mend_52 : decode cX4_mend 52 = .ok (.iconst 5, 1) := by decide +kernel
theorem dX4_mend_53 : decode cX4_mend 53 = .ok (.irem, 1) := by decide +kernel
theorem dX4_mend_54 : decode cX4_mend 54 = .ok (.invokevirtual 145, 3) := by decide +kernel
theorem dX4_mend_57 : decode cX4_mend 57 = .ok (.goto 5, 3) := by decide +kernel
theorem dX4_mend_60 : decode cX4_mend 60 = .ok (.bipush (-9), 2) := by decide +kernel
theorem dX4_mend_62 : decode cX4_mend 62 = .ok (.istore 6, 2) := by decide +kernel
theorem dX4_mend_64 : decode cX4_mend 64 = .ok (.iload 6, 2) := by decide +kernel
theorem dX4_mend_66 : decode cX4_mend 66 = .ok (.iload_n 3, 1) := by decide +kernel
theorem dX4_mend_67 : decode cX4_mend 67 = .ok (.if_icmp .le 10, 3) := by decide +kernel
theorem dX4_mend_70 : decode cX4_mend 70 = .ok (.iload 6, 2) := by decide +kernel
theorem dX4_mend_72 : decode cX4_mend 72 = .ok (.istore_n 3, 1) := by decide +kernel
theorem dX4_mend_73 : decode cX4_mend 73 = .ok (.iload 5, 2) := by decide +kernel
theorem dX4_mend_75 : decode cX4_mend 75 = .ok (.istore 4, 2) := by decide +kernel
theorem dX4_mend_77 : decode cX4_mend 77 = .ok (.iinc 5 1, 3) := by decide +kernel
theorem dX4_mend_80 : decode cX4_mend 80 = .ok (.goto (-53), 3) := by decide +kernel
theorem dX4_mend_83 : decode cX4_mend 83 = .ok (.iload 4, 2) := by decide +kernel
theorem dX4_mend_85 : decode cX4_mend 85 = .ok (.bipush (-9), 2) := by decide +kernel
theorem dX4_mend_87 : decode cX4_mend 87 = .ok (.if_icmp .ne 6, 3) := by decide +kernel
theorem dX4_mend_90 : decode cX4_mend 90 = .ok (.bipush (-9), 2) := by decide +kernel
theorem dX4_mend_92 : decode cX4_mend 92 = .ok (.ireturn, 1) := by decide +kernel
theorem dX4_mend_93 : decode cX4_mend 93 = .ok (.iload_n 1, 1) := by decide +kernel
theorem dX4_mend_94 : decode cX4_mend 94 = .ok (.ifCond .ne 10, 3) := by decide +kernel
theorem dX4_mend_97 : decode cX4_mend 97 = .ok (.iload 4, 2) := by decide +kernel
theorem dX4_mend_99 : decode cX4_mend 99 = .ok (.iconst 5, 1) := by decide +kernel
theorem dX4_mend_100 : decode cX4_mend 100 = .ok (.idiv, 1) := by decide +kernel
theorem dX4_mend_101 : decode cX4_mend 101 = .ok (.goto 18, 3) := by decide +kernel
theorem dX4_mend_104 : decode cX4_mend 104 = .ok (.iload_n 1, 1) := by decide +kernel
theorem dX4_mend_105 : decode cX4_mend 105 = .ok (.iconst 1, 1) := by decide +kernel
theorem dX4_mend_106 : decode cX4_mend 106 = .ok (.if_icmp .ne 10, 3) := by decide +kernel
theorem dX4_mend_109 : decode cX4_mend 109 = .ok (.iload 4, 2) := by decide +kernel
theorem dX4_mend_111 : decode cX4_mend 111 = .ok (.iconst 5, 1) := by decide +kernel
theorem dX4_mend_112 : decode cX4_mend 112 = .ok (.irem, 1) := by decide +kernel
theorem dX4_mend_113 : decode cX4_mend 113 = .ok (.goto 6, 3) := by decide +kernel
theorem dX4_mend_116 : decode cX4_mend 116 = .ok (.iload_n 2, 1) := by decide +kernel
theorem dX4_mend_117 : decode cX4_mend 117 = .ok (.iload_n 3, 1) := by decide +kernel
theorem dX4_mend_118 : decode cX4_mend 118 = .ok (.iadd, 1) := by decide +kernel
theorem dX4_mend_119 : decode cX4_mend 119 = .ok (.ireturn, 1) := by decide +kernel
theorem dX4_haveBest_0 : decode cX4_haveBest 0 = .ok (.aload_n 0, 1) := by decide +kernel
theorem dX4_haveBest_1 : decode cX4_haveBest 1 = .ok (.iload_n 1, 1) := by decide +kernel
theorem dX4_haveBest_2 : decode cX4_haveBest 2 = .ok (.invokevirtual 90, 3) := by decide +kernel
theorem dX4_haveBest_5 : decode cX4_haveBest 5 = .ok (.iconst 0, 1) := by decide +kernel
theorem dX4_haveBest_6 : decode cX4_haveBest 6 = .ok (.istore_n 2, 1) := by decide +kernel
theorem dX4_haveBest_7 : decode cX4_haveBest 7 = .ok (.iconst 0, 1) := by decide +kernel
theorem dX4_haveBest_8 : decode cX4_haveBest 8 = .ok (.istore_n 3, 1) := by decide +kernel
theorem dX4_haveBest_9 : decode cX4_haveBest 9 = .ok (.iload_n 3, 1) := by decide +kernel
theorem dX4_haveBest_10 : decode cX4_haveBest 10 = .ok (.bipush 10, 2) := by decide +kernel
theorem dX4_haveBest_12 : decode cX4_haveBest 12 = .ok (.if_icmp .ge 29, 3) := by decide +kernel
theorem dX4_haveBest_15 : decode cX4_haveBest 15 = .ok (.iload_n 2, 1) := by decide +kernel
theorem dX4_haveBest_16 : decode cX4_haveBest 16 = .ok (.aload_n 0, 1) := by decide +kernel
theorem dX4_haveBest_17 : decode cX4_haveBest 17 = .ok (.iload_n 3, 1) := by decide +kernel
theorem dX4_haveBest_18 : decode cX4_haveBest 18 = .ok (.invokevirtual 94, 3) := by decide +kernel
theorem dX4_haveBest_21 : decode cX4_haveBest 21 = .ok (.bipush (-9), 2) := by decide +kernel
theorem dX4_haveBest_23 : decode cX4_haveBest 23 = .ok (.if_icmp .eq 9, 3) := by decide +kernel
theorem dX4_haveBest_26 : decode cX4_haveBest 26 = .ok (.iconst 1, 1) := by decide +kernel
theorem dX4_haveBest_27 : decode cX4_haveBest 27 = .ok (.iload_n 3, 1) := by decide +kernel
theorem dX4_haveBest_28 : decode cX4_haveBest 28 = .ok (.ishl, 1) := by decide +kernel
theorem dX4_haveBest_29 : decode cX4_haveBest 29 = .ok (.goto 4, 3) := by decide +kernel
theorem dX4_haveBest_32 : decode cX4_haveBest 32 = .ok (.iconst 0, 1) := by decide +kernel
theorem dX4_haveBest_33 : decode cX4_haveBest 33 = .ok (.ior, 1) := by decide +kernel
theorem dX4_haveBest_34 : decode cX4_haveBest 34 = .ok (.istore_n 2, 1) := by decide +kernel
theorem dX4_haveBest_35 : decode cX4_haveBest 35 = .ok (.iinc 3 1, 3) := by decide +kernel
theorem dX4_haveBest_38 : decode cX4_haveBest 38 = .ok (.goto (-29), 3) := by decide +kernel
theorem dX4_haveBest_41 : decode cX4_haveBest 41 = .ok (.iload_n 2, 1) := by decide +kernel
theorem dX4_haveBest_42 : decode cX4_haveBest 42 = .ok (.ireturn, 1) := by decide +kernel
theorem dX4_doLead_0 : decode cX4_doLead 0 = .ok (.iconst 0, 1) := by decide +kernel
theorem dX4_doLead_1 : decode cX4_doLead 1 = .ok (.istore_n 3, 1) := by decide +kernel
theorem dX4_doLead_2 : decode cX4_doLead 2 = .ok (.iload_n 3, 1) := by decide +kernel
theorem dX4_doLead_3 : decode cX4_doLead 3 = .ok (.bipush 10, 2) := by decide +kernel
theorem dX4_doLead_5 : decode cX4_doLead 5 = .ok (.if_icmp .ge 33, 3) := by decide +kernel
theorem dX4_doLead_8 : decode cX4_doLead 8 = .ok (.aload_n 0, 1) := by decide +kernel
theorem dX4_doLead_9 : decode cX4_doLead 9 = .ok (.getfield 32, 3) := by decide +kernel
theorem dX4_doLead_12 : decode cX4_doLead 12 = .ok (.iload_n 3, 1) := by decide +kernel
theorem dX4_doLead_13 : decode cX4_doLead 13 = .ok (.iload_n 1, 1) := by decide +kernel
theorem dX4_doLead_14 : decode cX4_doLead 14 = .ok (.iload_n 3, 1) := by decide +kernel
theorem dX4_doLead_15 : decode cX4_doLead 15 = .ok (.invokestatic 75, 3) := by decide +kernel
theorem dX4_doLead_18 : decode cX4_doLead 18 = .ok (.ifCond .eq 11, 3) := by decide +kernel
theorem dX4_doLead_21 : decode cX4_doLead 21 = .ok (.aload_n 0, 1) := by decide +kernel
theorem dX4_doLead_22 : decode cX4_doLead 22 = .ok (.iload_n 3, 1) := by decide +kernel
theorem dX4_doLead_23 : decode cX4_doLead 23 = .ok (.invokevirtual 94, 3) := by decide +kernel
theorem dX4_doLead_26 : decode cX4_doLead 26 = .ok (.goto 5, 3) := by decide +kernel
theorem dX4_doLead_29 : decode cX4_doLead 29 = .ok (.bipush (-9), 2) := by decide +kernel
theorem dX4_doLead_31 : decode cX4_doLead 31 = .ok (.iastore, 1) := by decide +kernel
theorem dX4_doLead_32 : decode cX4_doLead 32 = .ok (.iinc 3 1, 3) := by decide +kernel
theorem dX4_doLead_35 : decode cX4_doLead 35 = .ok (.goto (-33), 3) := by decide +kernel
theorem dX4_doLead_38 : decode cX4_doLead 38 = .ok (.iconst 0, 1) := by decide +kernel
theorem dX4_doLead_39 : decode cX4_doLead 39 = .ok (.istore_n 3, 1) := by decide +kernel
theorem dX4_doLead_40 : decode cX4_doLead 40 = .ok (.iload_n 3, 1) := by decide +kernel
theorem dX4_doLead_41 : decode cX4_doLead 41 = .ok (.bipush 10, 2) := by decide +kernel
theorem dX4_doLead_43 : decode cX4_doLead 43 = .ok (.if_icmp .ge 53, 3) := by decide +kernel
theorem dX4_doLead_46 : decode cX4_doLead 46 = .ok (.aload_n 0, 1) := by decide +kernel
theorem dX4_doLead_47 : decode cX4_doLead 47 = .ok (.getfield 72, 3) := by decide +kernel
theorem dX4_doLead_50 : decode cX4_doLead 50 = .ok (.iload_n 3, 1) := by decide +kernel
theorem dX4_doLead_51 : decode cX4_doLead 51 = .ok (.invokestatic 75, 3) := by decide +kernel
theorem dX4_doLead_54 : decode cX4_doLead 54 = .ok (.ifCond .eq 36, 3) := by decide +kernel
theorem dX4_doLead_57 : decode cX4_doLead 57 = .ok (.aload_n 0, 1) := by decide +kernel
theorem dX4_doLead_58 : decode cX4_doLead 58 = .ok (.iload_n 3, 1) := by decide +kernel
theorem dX4_doLead_59 : decode cX4_doLead 59 = .ok (.iload_n 2, 1) := by decide +kernel
theorem dX4_doLead_60 : decode cX4_doLead 60 = .ok (.invokevirtual 119, 3) := by decide +kernel
theorem dX4_doLead_63 : decode cX4_doLead 63 = .ok (.aload_n 0, 1) := by decide +kernel
theorem dX4_doLead_64 : decode cX4_doLead 64 = .ok (.getfield 101, 3) := by decide +kernel
theorem dX4_doLead_67 : decode cX4_doLead 67 = .ok (.ifCond .ne 21, 3) := by decide +kernel
theorem dX4_doLead_70 : decode cX4_doLead 70 = .ok (.aload_n 0, 1) := by decide +kernel
theorem dX4_doLead_71 : decode cX4_doLead 71 = .ok (.getfield 110, 3) := by decide +kernel
theorem dX4_doLead_74 : decode cX4_doLead 74 = .ok (.aload_n 0, 1) := by decide +kernel
theorem dX4_doLead_75 : decode cX4_doLead 75 = .ok (.getfield 29, 3) := by decide +kernel
theorem dX4_doLead_78 : decode cX4_doLead 78 = .ok (.iload_n 3, 1) := by decide +kernel
theorem dX4_doLead_79 : decode cX4_doLead 79 = .ok (.iaload, 1) := by decide +kernel
theorem dX4_doLead_80 : decode cX4_doLead 80 = .ok (.aload_n 0, 1) := by decide +kernel
theorem dX4_doLead_81 : decode cX4_doLead 81 = .ok (.getfield 79, 3) := by decide +kernel
theorem dX4_doLead_84 : decode cX4_doLead 84 = .ok (.iadd, 1) := by decide +kernel
theorem dX4_doLead_85 : decode cX4_doLead 85 = .ok (.if_icmp .le 5, 3) := by decide +kernel
theorem dX4_doLead_88 : decode cX4_doLead 88 = .ok (.iconst 0, 1) := by decide +kernel
theorem dX4_doLead_89 : decode cX4_doLead 89 = .ok (.ireturn, 1) := by decide +kernel
theorem dX4_doLead_90 : decode cX4_doLead 90 = .ok (.iinc 3 1, 3) := by decide +kernel
theorem dX4_doLead_93 : decode cX4_doLead 93 = .ok (.goto (-53), 3) := by decide +kernel
theorem dX4_doLead_96 : decode cX4_doLead 96 = .ok (.iconst 1, 1) := by decide +kernel
theorem dX4_doLead_97 : decode cX4_doLead 97 = .ok (.ireturn, 1) := by decide +kernel
theorem dX4_leadsTo_0 : decode cX4_leadsTo 0 = .ok (.iload_n 1, 1) := by decide +kernel
theorem dX4_leadsTo_1 : decode cX4_leadsTo 1 = .ok (.aload_n 0, 1) := by decide +kernel
theorem dX4_leadsTo_2 : decode cX4_leadsTo 2 = .ok (.iload_n 2, 1) := by decide +kernel
theorem dX4_leadsTo_3 : decode cX4_leadsTo 3 = .ok (.invokevirtual 148, 3) := by decide +kernel
theorem dX4_leadsTo_6 : decode cX4_leadsTo 6 = .ok (.iconst (-1), 1) := by decide +kernel
theorem dX4_leadsTo_7 : decode cX4_leadsTo 7 = .ok (.ixor, 1) := by decide +kernel
theorem dX4_leadsTo_8 : decode cX4_leadsTo 8 = .ok (.iand, 1) := by decide +kernel
theorem dX4_leadsTo_9 : decode cX4_leadsTo 9 = .ok (.ifCond .ne 16, 3) := by decide +kernel
theorem dX4_leadsTo_12 : decode cX4_leadsTo 12 = .ok (.aload_n 0, 1) := by decide +kernel
theorem dX4_leadsTo_13 : decode cX4_leadsTo 13 = .ok (.iload_n 1, 1) := by decide +kernel
theorem dX4_leadsTo_14 : decode cX4_leadsTo 14 = .ok (.iload_n 2, 1) := by decide +kernel
theorem dX4_leadsTo_15 : decode cX4_leadsTo 15 = .ok (.invokevirtual 151, 3) := by decide +kernel
theorem dX4_leadsTo_18 : decode cX4_leadsTo 18 = .ok (.ifCond .eq 7, 3) := by decide +kernel
theorem dX4_leadsTo_21 : decode cX4_leadsTo 21 = .ok (.iconst 1, 1) := by decide +kernel
theorem dX4_leadsTo_22 : decode cX4_leadsTo 22 = .ok (.goto 4, 3) := by decide +kernel
theorem dX4_leadsTo_25 : decode cX4_leadsTo 25 = .ok (.iconst 0, 1) := by decide +kernel
theorem dX4_leadsTo_26 : decode cX4_leadsTo 26 = .ok (.ireturn, 1) := by decide +kernel
theorem dX4_leads_0 : decode cX4_leads 0 = .ok (.aload_n 0, 1) := by decide +kernel
theorem dX4_leads_1 : decode cX4_leads 1 = .ok (.iload_n 2, 1) := by decide +kernel
theorem dX4_leads_2 : decode cX4_leads 2 = .ok (.invokevirtual 69, 3) := by decide +kernel
theorem dX4_leads_5 : decode cX4_leads 5 = .ok (.ifCond .ne 5, 3) := by decide +kernel
theorem dX4_leads_8 : decode cX4_leads 8 = .ok (.iconst (-1), 1) := by decide +kernel
theorem dX4_leads_9 : decode cX4_leads 9 = .ok (.ireturn, 1) := by decide +kernel
theorem dX4_leads_10 : decode cX4_leads 10 = .ok (.iload_n 1, 1) := by decide +kernel
theorem dX4_leads_11 : decode cX4_leads 11 = .ok (.iconst 0, 1) := by decide +kernel
theorem dX4_leads_12 : decode cX4_leads 12 = .ok (.sipush 1023, 3) := by decide +kernel
theorem dX4_leads_15 : decode cX4_leads 15 = .ok (.invokestatic 47, 3) := by decide +kernel
theorem dX4_leads_18 : decode cX4_leads 18 = .ok (.ifCond .ne 6, 3) := by decide +kernel
theorem dX4_leads_21 : decode cX4_leads 21 = .ok (.bipush (-2), 2) := by decide +kernel
theorem dX4_leads_23 : decode cX4_leads 23 = .ok (.ireturn, 1) := by decide +kernel
theorem dX4_leads_24 : decode cX4_leads 24 = .ok (.aload_n 0, 1) := by decide +kernel
theorem dX4_leads_25 : decode cX4_leads 25 = .ok (.iload_n 1, 1) := by decide +kernel
theorem dX4_leads_26 : decode cX4_leads 26 = .ok (.iload_n 2, 1) := by decide +kernel
theorem dX4_leads_27 : decode cX4_leads 27 = .ok (.invokevirtual 154, 3) := by decide +kernel
theorem dX4_leads_30 : decode cX4_leads 30 = .ok (.ifCond .eq 7, 3) := by decide +kernel
theorem dX4_leads_33 : decode cX4_leads 33 = .ok (.iconst 1, 1) := by decide +kernel
theorem dX4_leads_34 : decode cX4_leads 34 = .ok (.goto 4, 3) := by decide +kernel
theorem dX4_leads_37 : decode cX4_leads 37 = .ok (.iconst 0, 1) := by decide +kernel
theorem dX4_leads_38 : decode cX4_leads 38 = .ok (.ireturn, 1) := by decide +kernel
theorem dX4_manyOf_0 : decode cX4_manyOf 0 = .ok (.iconst 0, 1) := by decide +kernel
theorem dX4_manyOf_1 : decode cX4_manyOf 1 = .ok (.istore_n 1, 1) := by decide +kernel
theorem dX4_manyOf_2 : decode cX4_manyOf 2 = .ok (.iload_n 0, 1) := by decide +kernel
theorem dX4_manyOf_3 : decode cX4_manyOf 3 = .ok (.istore_n 2, 1) := by decide +kernel
theorem dX4_manyOf_4 : decode cX4_manyOf 4 = .ok (.iload_n 2, 1) := by decide +kernel
theorem dX4_manyOf_5 : decode cX4_manyOf 5 = .ok (.ifCond .le 16, 3) := by decide +kernel
theorem dX4_manyOf_8 : decode cX4_manyOf 8 = .ok (.iload_n 1, 1) := by decide +kernel
theorem dX4_manyOf_9 : decode cX4_manyOf 9 = .ok (.iload_n 2, 1) := by decide +kernel
theorem dX4_manyOf_10 : decode cX4_manyOf 10 = .ok (.iconst 1, 1) := by decide +kernel
theorem dX4_manyOf_11 : decode cX4_manyOf 11 = .ok (.iand, 1) := by decide +kernel
theorem dX4_manyOf_12 : decode cX4_manyOf 12 = .ok (.iadd, 1) := by decide +kernel
theorem dX4_manyOf_13 : decode cX4_manyOf 13 = .ok (.istore_n 1, 1) := by decide +kernel
theorem dX4_manyOf_14 : decode cX4_manyOf 14 = .ok (.iload_n 2, 1) := by decide +kernel
theorem dX4_manyOf_15 : decode cX4_manyOf 15 = .ok (.iconst 1, 1) := by decide +kernel
theorem dX4_manyOf_16 : decode cX4_manyOf 16 = .ok (.ishr, 1) := by decide +kernel
theorem dX4_manyOf_17 : decode cX4_manyOf 17 = .ok (.istore_n 2, 1) := by decide +kernel
theorem dX4_manyOf_18 : decode cX4_manyOf 18 = .ok (.goto (-14), 3) := by decide +kernel
theorem dX4_manyOf_21 : decode cX4_manyOf 21 = .ok (.iload_n 1, 1) := by decide +kernel
theorem dX4_manyOf_22 : decode cX4_manyOf 22 = .ok (.ireturn, 1) := by decide +kernel
theorem dX4_fewest_0 : decode cX4_fewest 0 = .ok (.aload_n 0, 1) := by decide +kernel
theorem dX4_fewest_1 : decode cX4_fewest 1 = .ok (.iload_n 1, 1) := by decide +kernel
theorem dX4_fewest_2 : decode cX4_fewest 2 = .ok (.invokevirtual 69, 3) := by decide +kernel
theorem dX4_fewest_5 : decode cX4_fewest 5 = .ok (.ifCond .ne 5, 3) := by decide +kernel
theorem dX4_fewest_8 : decode cX4_fewest 8 = .ok (.iconst (-1), 1) := by decide +kernel
theorem dX4_fewest_9 : decode cX4_fewest 9 = .ok (.ireturn, 1) := by decide +kernel
theorem dX4_fewest_10 : decode cX4_fewest 10 = .ok (.aload_n 0, 1) := by decide +kernel
theorem dX4_fewest_11 : decode cX4_fewest 11 = .ok (.iload_n 1, 1) := by decide +kernel
theorem dX4_fewest_12 : decode cX4_fewest 12 = .ok (.invokevirtual 148, 3) := by decide +kernel
theorem dX4_fewest_15 : decode cX4_fewest 15 = .ok (.istore_n 2, 1) := by decide +kernel
theorem dX4_fewest_16 : decode cX4_fewest 16 = .ok (.bipush (-9), 2) := by decide +kernel
theorem dX4_fewest_18 : decode cX4_fewest 18 = .ok (.istore_n 3, 1) := by decide +kernel
theorem dX4_fewest_19 : decode cX4_fewest 19 = .ok (.iconst 0, 1) := by decide +kernel
theorem dX4_fewest_20 : decode cX4_fewest 20 = .ok (.istore 4, 2) := by decide +kernel
theorem dX4_fewest_22 : decode cX4_fewest 22 = .ok (.iload 4, 2) := by decide +kernel
theorem dX4_fewest_24 : decode cX4_fewest 24 = .ok (.sipush 1024, 3) := by decide +kernel
theorem dX4_fewest_27 : decode cX4_fewest 27 = .ok (.if_icmp .ge 65, 3) := by decide +kernel
theorem dX4_fewest_30 : decode cX4_fewest 30 = .ok (.iload 4, 2) := by decide +kernel
theorem dX4_fewest_32 : decode cX4_fewest 32 = .ok (.iload_n 2, 1) := by decide +kernel
theorem dX4_fewest_33 : decode cX4_fewest 33 = .ok (.iconst (-1), 1) := by decide +kernel
theorem dX4_fewest_34 : decode cX4_fewest 34 = .ok (.ixor, 1) := by decide +kernel
theorem dX4_fewest_35 : decode cX4_fewest 35 = .ok (.iand, 1) := by decide +kernel
theorem dX4_fewest_36 : decode cX4_fewest 36 = .ok (.ifCond .ne 25, 3) := by decide +kernel
theorem dX4_fewest_39 : decode cX4_fewest 39 = .ok (.iload_n 3, 1) := by decide +kernel
theorem dX4_fewest_40 : decode cX4_fewest 40 = .ok (.bipush (-9), 2) := by decide +kernel
theorem dX4_fewest_42 : decode cX4_fewest 42 = .ok (.if_icmp .eq 15, 3) := by decide +kernel
theorem dX4_fewest_45 : decode cX4_fewest 45 = .ok (.iload 4, 2) := by decide +kernel
theorem dX4_fewest_47 : decode cX4_fewest 47 = .ok (.invokestatic 157, 3) := by decide +kernel
theorem dX4_fewest_50 : decode cX4_fewest 50 = .ok (.iload_n 3, 1) := by decide +kernel
theorem dX4_fewest_51 : decode cX4_fewest 51 = .ok (.invokestatic 157, 3) := by decide +kernel
theorem dX4_fewest_54 : decode cX4_fewest 54 = .ok (.if_icmp .ge 7, 3) := by decide +kernel
theorem dX4_fewest_57 : decode cX4_fewest 57 = .ok (.iconst 1, 1) := by decide +kernel
theorem dX4_fewest_58 : decode cX4_fewest 58 = .ok (.goto 4, 3) := by decide +kernel
theorem dX4_fewest_61 : decode cX4_fewest 61 = .ok (.iconst 0, 1) := by decide +kernel
theorem dX4_fewest_62 : decode cX4_fewest 62 = .ok (.istore 5, 2) := by decide +kernel
theorem dX4_fewest_64 : decode cX4_fewest 64 = .ok (.iload 5, 2) := by decide +kernel
theorem dX4_fewest_66 : decode cX4_fewest 66 = .ok (.ifCond .eq 18, 3) := by decide +kernel
theorem dX4_fewest_69 : decode cX4_fewest 69 = .ok (.aload_n 0, 1) := by decide +kernel
theorem dX4_fewest_70 : decode cX4_fewest 70 = .ok (.iload 4, 2) := by decide +kernel
theorem dX4_fewest_72 : decode cX4_fewest 72 = .ok (.iload_n 1, 1) := by decide +kernel
theorem dX4_fewest_73 : decode cX4_fewest 73 = .ok (.invokevirtual 151, 3) := by decide +kernel
theorem dX4_fewest_76 : decode cX4_fewest 76 = .ok (.ifCond .eq 8, 3) := by decide +kernel
theorem dX4_fewest_79 : decode cX4_fewest 79 = .ok (.iload 4, 2) := by decide +kernel
theorem dX4_fewest_81 : decode cX4_fewest 81 = .ok (.goto 4, 3) := by decide +kernel
theorem dX4_fewest_84 : decode cX4_fewest 84 = .ok (.iload_n 3, 1) := by decide +kernel
theorem dX4_fewest_85 : decode cX4_fewest 85 = .ok (.istore_n 3, 1) := by decide +kernel
theorem dX4_fewest_86 : decode cX4_fewest 86 = .ok (.iinc 4 1, 3) := by decide +kernel
theorem dX4_fewest_89 : decode cX4_fewest 89 = .ok (.goto (-67), 3) := by decide +kernel
theorem dX4_fewest_92 : decode cX4_fewest 92 = .ok (.iload_n 3, 1) := by decide +kernel
theorem dX4_fewest_93 : decode cX4_fewest 93 = .ok (.ireturn, 1) := by decide +kernel
theorem dX4_posts_0 : decode cX4_posts 0 = .ok (.iconst 0, 1) := by decide +kernel
theorem dX4_posts_1 : decode cX4_posts 1 = .ok (.istore_n 1, 1) := by decide +kernel
theorem dX4_posts_2 : decode cX4_posts 2 = .ok (.iload_n 1, 1) := by decide +kernel
theorem dX4_posts_3 : decode cX4_posts 3 = .ok (.sipush 1024, 3) := by decide +kernel
theorem dX4_posts_6 : decode cX4_posts 6 = .ok (.if_icmp .ge 16, 3) := by decide +kernel
theorem dX4_posts_9 : decode cX4_posts 9 = .ok (.aload_n 0, 1) := by decide +kernel
theorem dX4_posts_10 : decode cX4_posts 10 = .ok (.getfield 44, 3) := by decide +kernel
theorem dX4_posts_13 : decode cX4_posts 13 = .ok (.iload_n 1, 1) := by decide +kernel
theorem dX4_posts_14 : decode cX4_posts 14 = .ok (.iconst 1, 1) := by decide +kernel
theorem dX4_posts_15 : decode cX4_posts 15 = .ok (.bastore, 1) := by decide +kernel
theorem dX4_posts_16 : decode cX4_posts 16 = .ok (.iinc 1 1, 3) := by decide +kernel
theorem dX4_posts_19 : decode cX4_posts 19 = .ok (.goto (-17), 3) := by decide +kernel
theorem dX4_posts_22 : decode cX4_posts 22 = .ok (.iconst 0, 1) := by decide +kernel
theorem dX4_posts_23 : decode cX4_posts 23 = .ok (.istore_n 1, 1) := by decide +kernel
theorem dX4_posts_24 : decode cX4_posts 24 = .ok (.iload_n 1, 1) := by decide +kernel
theorem dX4_posts_25 : decode cX4_posts 25 = .ok (.aload_n 0, 1) := by decide +kernel
theorem dX4_posts_26 : decode cX4_posts 26 = .ok (.getfield 55, 3) := by decide +kernel
theorem dX4_posts_29 : decode cX4_posts 29 = .ok (.if_icmp .ge 61, 3) := by decide +kernel
theorem dX4_posts_32 : decode cX4_posts 32 = .ok (.aload_n 0, 1) := by decide +kernel
theorem dX4_posts_33 : decode cX4_posts 33 = .ok (.iload_n 1, 1) := by decide +kernel
theorem dX4_posts_34 : decode cX4_posts 34 = .ok (.invokevirtual 148, 3) := by decide +kernel
theorem dX4_posts_37 : decode cX4_posts 37 = .ok (.istore_n 2, 1) := by decide +kernel
theorem dX4_posts_38 : decode cX4_posts 38 = .ok (.iconst 0, 1) := by decide +kernel
theorem dX4_posts_39 : decode cX4_posts 39 = .ok (.istore_n 3, 1) := by decide +kernel
theorem dX4_posts_40 : decode cX4_posts 40 = .ok (.iload_n 3, 1) := by decide +kernel
theorem dX4_posts_41 : decode cX4_posts 41 = .ok (.sipush 1024, 3) := by decide +kernel
theorem dX4_posts_44 : decode cX4_posts 44 = .ok (.if_icmp .ge 40, 3) := by decide +kernel
theorem dX4_posts_47 : decode cX4_posts 47 = .ok (.aload_n 0, 1) := by decide +kernel
theorem dX4_posts_48 : decode cX4_posts 48 = .ok (.getfield 44, 3) := by decide +kernel
theorem dX4_posts_51 : decode cX4_posts 51 = .ok (.iload_n 3, 1) := by decide +kernel
theorem dX4_posts_52 : decode cX4_posts 52 = .ok (.aload_n 0, 1) := by decide +kernel
theorem dX4_posts_53 : decode cX4_posts 53 = .ok (.getfield 44, 3) := by decide +kernel
theorem dX4_posts_56 : decode cX4_posts 56 = .ok (.iload_n 3, 1) := by decide +kernel
theorem dX4_posts_57 : decode cX4_posts 57 = .ok (.baload, 1) := by decide +kernel
theorem dX4_posts_58 : decode cX4_posts 58 = .ok (.ifCond .eq 18, 3) := by decide +kernel
theorem dX4_posts_61 : decode cX4_posts 61 = .ok (.aload_n 0, 1) := by decide +kernel
theorem dX4_posts_62 : decode cX4_posts 62 = .ok (.iload_n 3, 1) := by decide +kernel
theorem dX4_posts_63 : decode cX4_posts 63 = .ok (.iload_n 2, 1) := by decide +kernel
theorem dX4_posts_64 : decode cX4_posts 64 = .ok (.iand, 1) := by decide +kernel
theorem dX4_posts_65 : decode cX4_posts 65 = .ok (.iload_n 1, 1) := by decide +kernel
theorem dX4_posts_66 : decode cX4_posts 66 = .ok (.invokevirtual 151, 3) := by decide +kernel
theorem dX4_posts_69 : decode cX4_posts 69 = .ok (.ifCond .eq 7, 3) := by decide +kernel
theorem dX4_posts_72 : decode cX4_posts 72 = .ok (.iconst 1, 1) := by decide +kernel
theorem dX4_posts_73 : decode cX4_posts 73 = .ok (.goto 4, 3) := by decide +kernel
theorem dX4_posts_76 : decode cX4_posts 76 = .ok (.iconst 0, 1) := by decide +kernel
theorem dX4_posts_77 : decode cX4_posts 77 = .ok (.bastore, 1) := by decide +kernel
theorem dX4_posts_78 : decode cX4_posts 78 = .ok (.iinc 3 1, 3) := by decide +kernel
theorem dX4_posts_81 : decode cX4_posts 81 = .ok (.goto (-41), 3) := by decide +kernel
theorem dX4_posts_84 : decode cX4_posts 84 = .ok (.iinc 1 1, 3) := by decide +kernel
theorem dX4_posts_87 : decode cX4_posts 87 = .ok (.goto (-63), 3) := by decide +kernel
theorem dX4_posts_90 : decode cX4_posts 90 = .ok (.bipush (-9), 2) := by decide +kernel
theorem dX4_posts_92 : decode cX4_posts 92 = .ok (.istore_n 1, 1) := by decide +kernel
theorem dX4_posts_93 : decode cX4_posts 93 = .ok (.iconst 0, 1) := by decide +kernel
theorem dX4_posts_94 : decode cX4_posts 94 = .ok (.istore_n 2, 1) := by decide +kernel
theorem dX4_posts_95 : decode cX4_posts 95 = .ok (.iload_n 2, 1) := by decide +kernel
theorem dX4_posts_96 : decode cX4_posts 96 = .ok (.sipush 1024, 3) := by decide +kernel
theorem dX4_posts_99 : decode cX4_posts 99 = .ok (.if_icmp .ge 41, 3) := by decide +kernel
theorem dX4_posts_102 : decode cX4_posts 102 = .ok (.aload_n 0, 1) := by decide +kernel
theorem dX4_posts_103 : decode cX4_posts 103 = .ok (.getfield 44, 3) := by decide +kernel
theorem dX4_posts_106 : decode cX4_posts 106 = .ok (.iload_n 2, 1) := by decide +kernel
theorem dX4_posts_107 : decode cX4_posts 107 = .ok (.baload, 1) := by decide +kernel
theorem dX4_posts_108 : decode cX4_posts 108 = .ok (.ifCond .eq 24, 3) := by decide +kernel
theorem dX4_posts_111 : decode cX4_posts 111 = .ok (.iload_n 1, 1) := by decide +kernel
theorem dX4_posts_112 : decode cX4_posts 112 = .ok (.bipush (-9), 2) := by decide +kernel
theorem dX4_posts_114 : decode cX4_posts 114 = .ok (.if_icmp .eq 14, 3) := by decide +kernel
theorem dX4_posts_117 : decode cX4_posts 117 = .ok (.iload_n 2, 1) := by decide +kernel
theorem dX4_posts_118 : decode cX4_posts 118 = .ok (.invokestatic 157, 3) := by decide +kernel
theorem dX4_posts_121 : decode cX4_posts 121 = .ok (.iload_n 1, 1) := by decide +kernel
theorem dX4_posts_122 : decode cX4_posts 122 = .ok (.invokestatic 157, 3) := by decide +kernel
theorem dX4_posts_125 : decode cX4_posts 125 = .ok (.if_icmp .ge 7, 3) := by decide +kernel
theorem dX4_posts_128 : decode cX4_posts 128 = .ok (.iload_n 2, 1) := by decide +kernel
theorem dX4_posts_129 : decode cX4_posts 129 = .ok (.goto 4, 3) := by decide +kernel
theorem dX4_posts_132 : decode cX4_posts 132 = .ok (.iload_n 1, 1) := by decide +kernel
theorem dX4_posts_133 : decode cX4_posts 133 = .ok (.istore_n 1, 1) := by decide +kernel
theorem dX4_posts_134 : decode cX4_posts 134 = .ok (.iinc 2 1, 3) := by decide +kernel
theorem dX4_posts_137 : decode cX4_posts 137 = .ok (.goto (-42), 3) := by decide +kernel
theorem dX4_posts_140 : decode cX4_posts 140 = .ok (.iload_n 1, 1) := by decide +kernel
theorem dX4_posts_141 : decode cX4_posts 141 = .ok (.ireturn, 1) := by decide +kernel
theorem dX4_manyBoards_0 : decode cX4_manyBoards 0 = .ok (.iconst 0, 1) := by decide +kernel
theorem dX4_manyBoards_1 : decode cX4_manyBoards 1 = .ok (.istore_n 2, 1) := by decide +kernel
theorem dX4_manyBoards_2 : decode cX4_manyBoards 2 = .ok (.iconst 0, 1) := by decide +kernel
theorem dX4_manyBoards_3 : decode cX4_manyBoards 3 = .ok (.istore_n 3, 1) := by decide +kernel
theorem dX4_manyBoards_4 : decode cX4_manyBoards 4 = .ok (.iload_n 3, 1) := by decide +kernel
theorem dX4_manyBoards_5 : decode cX4_manyBoards 5 = .ok (.aload_n 0, 1) := by decide +kernel
theorem dX4_manyBoards_6 : decode cX4_manyBoards 6 = .ok (.getfield 55, 3) := by decide +kernel
theorem dX4_manyBoards_9 : decode cX4_manyBoards 9 = .ok (.if_icmp .ge 32, 3) := by decide +kernel
theorem dX4_manyBoards_12 : decode cX4_manyBoards 12 = .ok (.iload_n 2, 1) := by decide +kernel
theorem dX4_manyBoards_13 : decode cX4_manyBoards 13 = .ok (.aload_n 0, 1) := by decide +kernel
theorem dX4_manyBoards_14 : decode cX4_manyBoards 14 = .ok (.getfield 26, 3) := by decide +kernel
theorem dX4_manyBoards_17 : decode cX4_manyBoards 17 = .ok (.iconst 5, 1) := by decide +kernel
theorem dX4_manyBoards_18 : decode cX4_manyBoards 18 = .ok (.iload_n 1, 1) := by decide +kernel
theorem dX4_manyBoards_19 : decode cX4_manyBoards 19 = .ok (.imul, 1) := by decide +kernel
theorem dX4_manyBoards_20 : decode cX4_manyBoards 20 = .ok (.iload_n 3, 1) := by decide +kernel
theorem dX4_manyBoards_21 : decode cX4_manyBoards 21 = .ok (.iadd, 1) := by decide +kernel
theorem dX4_manyBoards_22 : decode cX4_manyBoards 22 = .ok (.iaload, 1) := by decide +kernel
theorem dX4_manyBoards_23 : decode cX4_manyBoards 23 = .ok (.bipush (-9), 2) := by decide +kernel
theorem dX4_manyBoards_25 : decode cX4_manyBoards 25 = .ok (.if_icmp .eq 7, 3) := by decide +kernel
theorem dX4_manyBoards_28 : decode cX4_manyBoards 28 = .ok (.iconst 1, 1) := by decide +kernel
theorem dX4_manyBoards_29 : decode cX4_manyBoards 29 = .ok (.goto 4, 3) := by decide +kernel
theorem dX4_manyBoards_32 : decode cX4_manyBoards 32 = .ok (.iconst 0, 1) := by decide +kernel
theorem dX4_manyBoards_33 : decode cX4_manyBoards 33 = .ok (.iadd, 1) := by decide +kernel
theorem dX4_manyBoards_34 : decode cX4_manyBoards 34 = .ok (.istore_n 2, 1) := by decide +kernel
theorem dX4_manyBoards_35 : decode cX4_manyBoards 35 = .ok (.iinc 3 1, 3) := by decide +kernel
theorem dX4_manyBoards_38 : decode cX4_manyBoards 38 = .ok (.goto (-34), 3) := by decide +kernel
theorem dX4_manyBoards_41 : decode cX4_manyBoards 41 = .ok (.iload_n 2, 1) := by decide +kernel
theorem dX4_manyBoards_42 : decode cX4_manyBoards 42 = .ok (.ireturn, 1) := by decide +kernel
theorem dX4_allBoards_0 : decode cX4_allBoards 0 = .ok (.iconst 0, 1) := by decide +kernel
theorem dX4_allBoards_1 : decode cX4_allBoards 1 = .ok (.istore_n 2, 1) := by decide +kernel
theorem dX4_allBoards_2 : decode cX4_allBoards 2 = .ok (.iconst 0, 1) := by decide +kernel
theorem dX4_allBoards_3 : decode cX4_allBoards 3 = .ok (.istore_n 3, 1) := by decide +kernel
theorem dX4_allBoards_4 : decode cX4_allBoards 4 = .ok (.iload_n 3, 1) := by decide +kernel
theorem dX4_allBoards_5 : decode cX4_allBoards 5 = .ok (.bipush 10, 2) := by decide +kernel
theorem dX4_allBoards_7 : decode cX4_allBoards 7 = .ok (.if_icmp .ge 35, 3) := by decide +kernel
theorem dX4_allBoards_10 : decode cX4_allBoards 10 = .ok (.aload_n 0, 1) := by decide +kernel
theorem dX4_allBoards_11 : decode cX4_allBoards 11 = .ok (.iload_n 3, 1) := by decide +kernel
theorem dX4_allBoards_12 : decode cX4_allBoards 12 = .ok (.invokevirtual 160, 3) := by decide +kernel
theorem dX4_allBoards_15 : decode cX4_allBoards 15 = .ok (.istore 4, 2) := by decide +kernel
theorem dX4_allBoards_17 : decode cX4_allBoards 17 = .ok (.iload_n 2, 1) := by decide +kernel
theorem dX4_allBoards_18 : decode cX4_allBoards 18 = .ok (.iload_n 1, 1) := by decide +kernel
theorem dX4_allBoards_19 : decode cX4_allBoards 19 = .ok (.ifCond .eq 13, 3) := by decide +kernel
theorem dX4_allBoards_22 : decode cX4_allBoards 22 = .ok (.iload 4, 2) := by decide +kernel
theorem dX4_allBoards_24 : decode cX4_allBoards 24 = .ok (.iconst 1, 1) := by decide +kernel
theorem dX4_allBoards_25 : decode cX4_allBoards 25 = .ok (.if_icmp .le 7, 3) := by decide +kernel
theorem dX4_allBoards_28 : decode cX4_allBoards 28 = .ok (.iconst 1, 1) := by decide +kernel
theorem dX4_allBoards_29 : decode cX4_allBoards 29 = .ok (.goto 5, 3) := by decide +kernel
theorem dX4_allBoards_32 : decode cX4_allBoards 32 = .ok (.iload 4, 2) := by decide +kernel
theorem dX4_allBoards_34 : decode cX4_allBoards 34 = .ok (.iadd, 1) := by decide +kernel
theorem dX4_allBoards_35 : decode cX4_allBoards 35 = .ok (.istore_n 2, 1) := by decide +kernel
theorem dX4_allBoards_36 : decode cX4_allBoards 36 = .ok (.iinc 3 1, 3) := by decide +kernel
theorem dX4_allBoards_39 : decode cX4_allBoards 39 = .ok (.goto (-35), 3) := by decide +kernel
theorem dX4_allBoards_42 : decode cX4_allBoards 42 = .ok (.iload_n 2, 1) := by decide +kernel
theorem dX4_allBoards_43 : decode cX4_allBoards 43 = .ok (.ireturn, 1) := by decide +kernel
theorem dX4_many_0 : decode cX4_many 0 = .ok (.iload_n 1, 1) := by decide +kernel
theorem dX4_many_1 : decode cX4_many 1 = .ok (.tableswitch 83 0 6 #[43, 48, 53, 58, 66, 72, 78], 43) := by decide +kernel
theorem dX4_many_44 : decode cX4_many 44 = .ok (.aload_n 0, 1) := by decide +kernel
theorem dX4_many_45 : decode cX4_many 45 = .ok (.getfield 51, 3) := by decide +kernel
theorem dX4_many_48 : decode cX4_many 48 = .ok (.ireturn, 1) := by decide +kernel
theorem dX4_many_49 : decode cX4_many 49 = .ok (.aload_n 0, 1) := by decide +kernel
theorem dX4_many_50 : decode cX4_many 50 = .ok (.invokevirtual 163, 3) := by decide +kernel
theorem dX4_many_53 : decode cX4_many 53 = .ok (.ireturn, 1) := by decide +kernel
theorem dX4_many_54 : decode cX4_many 54 = .ok (.aload_n 0, 1) := by decide +kernel
theorem dX4_many_55 : decode cX4_many 55 = .ok (.getfield 55, 3) := by decide +kernel
theorem dX4_many_58 : decode cX4_many 58 = .ok (.ireturn, 1) := by decide +kernel
theorem dX4_many_59 : decode cX4_many 59 = .ok (.aload_n 0, 1) := by decide +kernel
theorem dX4_many_60 : decode cX4_many 60 = .ok (.getfield 72, 3) := by decide +kernel
theorem dX4_many_63 : decode cX4_many 63 = .ok (.invokestatic 157, 3) := by decide +kernel
theorem dX4_many_66 : decode cX4_many 66 = .ok (.ireturn, 1) := by decide +kernel
theorem dX4_many_67 : decode cX4_many 67 = .ok (.aload_n 0, 1) := by decide +kernel
theorem dX4_many_68 : decode cX4_many 68 = .ok (.iconst 0, 1) := by decide +kernel
theorem dX4_many_69 : decode cX4_many 69 = .ok (.invokevirtual 167, 3) := by decide +kernel
theorem dX4_many_72 : decode cX4_many 72 = .ok (.ireturn, 1) := by decide +kernel
theorem dX4_many_73 : decode cX4_many 73 = .ok (.aload_n 0, 1) := by decide +kernel
theorem dX4_many_74 : decode cX4_many 74 = .ok (.iconst 1, 1) := by decide +kernel
theorem dX4_many_75 : decode cX4_many 75 = .ok (.invokevirtual 167, 3) := by decide +kernel
theorem dX4_many_78 : decode cX4_many 78 = .ok (.ireturn, 1) := by decide +kernel
theorem dX4_many_79 : decode cX4_many 79 = .ok (.aload_n 0, 1) := by decide +kernel
theorem dX4_many_80 : decode cX4_many 80 = .ok (.getfield 79, 3) := by decide +kernel
theorem dX4_many_83 : decode cX4_many 83 = .ok (.ireturn, 1) := by decide +kernel
theorem dX4_many_84 : decode cX4_many 84 = .ok (.bipush (-2), 2) := by decide +kernel
theorem dX4_many_86 : decode cX4_many 86 = .ok (.ireturn, 1) := by decide +kernel
theorem dX4_manyOpen_0 : decode cX4_manyOpen 0 = .ok (.iconst 0, 1) := by decide +kernel
theorem dX4_manyOpen_1 : decode cX4_manyOpen 1 = .ok (.istore_n 1, 1) := by decide +kernel
theorem dX4_manyOpen_2 : decode cX4_manyOpen 2 = .ok (.iconst 0, 1) := by decide +kernel
theorem dX4_manyOpen_3 : decode cX4_manyOpen 3 = .ok (.istore_n 2, 1) := by decide +kernel
theorem dX4_manyOpen_4 : decode cX4_manyOpen 4 = .ok (.iload_n 2, 1) := by decide +kernel
theorem dX4_manyOpen_5 : decode cX4_manyOpen 5 = .ok (.aload_n 0, 1) := by decide +kernel
theorem dX4_manyOpen_6 : decode cX4_manyOpen 6 = .ok (.getfield 51, 3) := by decide +kernel
theorem dX4_manyOpen_9 : decode cX4_manyOpen 9 = .ok (.if_icmp .ge 26, 3) := by decide +kernel
theorem dX4_manyOpen_12 : decode cX4_manyOpen 12 = .ok (.iload_n 1, 1) := by decide +kernel
theorem dX4_manyOpen_13 : decode cX4_manyOpen 13 = .ok (.aload_n 0, 1) := by decide +kernel
theorem dX4_manyOpen_14 : decode cX4_manyOpen 14 = .ok (.getfield 19, 3) := by decide +kernel
theorem dX4_manyOpen_17 : decode cX4_manyOpen 17 = .ok (.iload_n 2, 1) := by decide +kernel
theorem dX4_manyOpen_18 : decode cX4_manyOpen 18 = .ok (.baload, 1) := by decide +kernel
theorem dX4_manyOpen_19 : decode cX4_manyOpen 19 = .ok (.ifCond .eq 7, 3) := by decide +kernel
theorem dX4_manyOpen_22 : decode cX4_manyOpen 22 = .ok (.iconst 1, 1) := by decide +kernel
theorem dX4_manyOpen_23 : decode cX4_manyOpen 23 = .ok (.goto 4, 3) := by decide +kernel
theorem dX4_manyOpen_26 : decode cX4_manyOpen 26 = .ok (.iconst 0, 1) := by decide +kernel
theorem dX4_manyOpen_27 : decode cX4_manyOpen 27 = .ok (.iadd, 1) := by decide +kernel
theorem dX4_manyOpen_28 : decode cX4_manyOpen 28 = .ok (.istore_n 1, 1) := by decide +kernel
theorem dX4_manyOpen_29 : decode cX4_manyOpen 29 = .ok (.iinc 2 1, 3) := by decide +kernel
theorem dX4_manyOpen_32 : decode cX4_manyOpen 32 = .ok (.goto (-28), 3) := by decide +kernel
theorem dX4_manyOpen_35 : decode cX4_manyOpen 35 = .ok (.iload_n 1, 1) := by decide +kernel
theorem dX4_manyOpen_36 : decode cX4_manyOpen 36 = .ok (.ireturn, 1) := by decide +kernel
end
section
theorem dL_law_0 : decode cL_law 0 = .ok (.new 7, 3) := by decide +kernel
theorem dL_law_3 : decode cL_law 3 = .ok (.dup, 1) := by decide +kernel
theorem dL_law_4 : decode cL_law 4 = .ok (.invokespecial 9, 3) := by decide +kernel
theorem dL_law_7 : decode cL_law 7 = .ok (.astore_n 1, 1) := by decide +kernel
theorem dL_law_8 : decode cL_law 8 = .ok (.new 10, 3) := by decide +kernel
theorem dL_law_11 : decode cL_law 11 = .ok (.dup, 1) := by decide +kernel
theorem dL_law_12 : decode cL_law 12 = .ok (.invokespecial 12, 3) := by decide +kernel
theorem dL_law_15 : decode cL_law 15 = .ok (.astore_n 2, 1) := by decide +kernel
theorem dL_law_16 : decode cL_law 16 = .ok (.iconst 0, 1) := by decide +kernel
theorem dL_law_17 : decode cL_law 17 = .ok (.istore_n 3, 1) := by decide +kernel
theorem dL_law_18 : decode cL_law 18 = .ok (.iload_n 3, 1) := by decide +kernel
theorem dL_law_19 : decode cL_law 19 = .ok (.aload_n 0, 1) := by decide +kernel
theorem dL_law_20 : decode cL_law 20 = .ok (.arraylength, 1) := by decide +kernel
theorem dL_law_21 : decode cL_law 21 = .ok (.iconst 4, 1) := by decide +kernel
theorem dL_law_22 : decode cL_law 22 = .ok (.isub, 1) := by decide +kernel
theorem dL_law_23 : decode cL_law 23 = .ok (.if_icmp .gt 797, 3) := by decide +kernel
theorem dL_law_26 : decode cL_law 26 = .ok (.aload_n 0, 1) := by decide +kernel
theorem dL_law_27 : decode cL_law 27 = .ok (.iload_n 3, 1) := by decide +kernel
theorem dL_law_28 : decode cL_law 28 = .ok (.iaload, 1) := by decide +kernel
theorem dL_law_29 : decode cL_law 29 = .ok (.bipush 31, 2) := by decide +kernel
theorem dL_law_31 : decode cL_law 31 = .ok (.iand, 1) := by decide +kernel
theorem dL_law_32 : decode cL_law 32 = .ok (.tableswitch 782 0 21 #[104, 147, 160, 209, 242, 265, 298, 347, 370, 413, 446, 479, 522, 545, 588, 611, 644, 667, 690, 723, 746, 759], 104) := by decide +kernel
theorem dL_law_136 : decode cL_law 136 = .ok (.aload_n 1, 1) := by decide +kernel
theorem dL_law_137 : decode cL_law 137 = .ok (.aload_n 0, 1) := by decide +kernel
theorem dL_law_138 : decode cL_law 138 = .ok (.iload_n 3, 1) := by decide +kernel
theorem dL_law_139 : decode cL_law 139 = .ok (.iconst 1, 1) := by decide +kernel
theorem dL_law_140 : decode cL_law 140 = .ok (.iadd, 1) := by decide +kernel
theorem dL_law_141 : decode cL_law 141 = .ok (.iaload, 1) := by decide +kernel
theorem dL_law_142 : decode cL_law 142 = .ok (.aload_n 0, 1) := by decide +kernel
theorem dL_law_143 : decode cL_law 143 = .ok (.iload_n 3, 1) := by decide +kernel
theorem dL_law_144 : decode cL_law 144 = .ok (.iconst 2, 1) := by decide +kernel
theorem dL_law_145 : decode cL_law 145 = .ok (.iadd, 1) := by decide +kernel
theorem dL_law_146 : decode cL_law 146 = .ok (.iaload, 1) := by decide +kernel
theorem dL_law_147 : decode cL_law 147 = .ok (.aload_n 0, 1) := by decide +kernel
theorem dL_law_148 : decode cL_law 148 = .ok (.iload_n 3, 1) := by decide +kernel
theorem dL_law_149 : decode cL_law 149 = .ok (.iconst 3, 1) := by decide +kernel
theorem dL_law_150 : decode cL_law 150 = .ok (.iadd, 1) := by decide +kernel
theorem dL_law_151 : decode cL_law 151 = .ok (.iaload, 1) := by decide +kernel
theorem dL_law_152 : decode cL_law 152 = .ok (.invokevirtual 13, 3) := by decide +kernel
theorem dL_law_155 : decode cL_law 155 = .ok (.aload_n 2, 1) := by decide +kernel
theorem dL_law_156 : decode cL_law 156 = .ok (.aload_n 0, 1) := by decide +kernel
theorem dL_law_157 : decode cL_law 157 = .ok (.iload_n 3, 1) := by decide +kernel
theorem dL_law_158 : decode cL_law 158 = .ok (.iconst 1, 1) := by decide +kernel
theorem dL_law_159 : decode cL_law 159 = .ok (.iadd, 1) := by decide +kernel
theorem dL_law_160 : decode cL_law 160 = .ok (.iaload, 1) := by decide +kernel
theorem dL_law_161 : decode cL_law 161 = .ok (.aload_n 0, 1) := by decide +kernel
theorem dL_law_162 : decode cL_law 162 = .ok (.iload_n 3, 1) := by decide +kernel
theorem dL_law_163 : decode cL_law 163 = .ok (.iconst 2, 1) := by decide +kernel
theorem dL_law_164 : decode cL_law 164 = .ok (.iadd, 1) := by decide +kernel
theorem dL_law_165 : decode cL_law 165 = .ok (.iaload, 1) := by decide +kernel
theorem dL_law_166 : decode cL_law 166 = .ok (.aload_n 0, 1) := by decide +kernel
theorem dL_law_167 : decode cL_law 167 = .ok (.iload_n 3, 1) := by decide +kernel
theorem dL_law_168 : decode cL_law 168 = .ok (.iconst 3, 1) := by decide +kernel
theorem dL_law_169 : decode cL_law 169 = .ok (.iadd, 1) := by decide +kernel
theorem dL_law_170 : decode cL_law 170 = .ok (.iaload, 1) := by decide +kernel
theorem dL_law_171 : decode cL_law 171 = .ok (.invokevirtual 17, 3) := by decide +kernel
theorem dL_law_174 : decode cL_law 174 = .ok (.if_icmp .eq 640, 3) := by decide +kernel
theorem dL_law_177 : decode cL_law 177 = .ok (.iconst 0, 1) := by decide +kernel
theorem dL_law_178 : decode cL_law 178 = .ok (.ireturn, 1) := by decide +kernel
theorem dL_law_179 : decode cL_law 179 = .ok (.aload_n 1, 1) := by decide +kernel
theorem dL_law_180 : decode cL_law 180 = .ok (.invokevirtual 18, 3) := by decide +kernel
theorem dL_law_183 : decode cL_law 183 = .ok (.aload_n 2, 1) := by decide +kernel
theorem dL_law_184 : decode cL_law 184 = .ok (.invokevirtual 22, 3) := by decide +kernel
theorem dL_law_187 : decode cL_law 187 = .ok (.if_icmp .eq 627, 3) := by decide +kernel
theorem dL_law_190 : decode cL_law 190 = .ok (.iconst 0, 1) := by decide +kernel
theorem dL_law_191 : decode cL_law 191 = .ok (.ireturn, 1) := by decide +kernel
theorem dL_law_192 : decode cL_law 192 = .ok (.aload_n 1, 1) := by decide +kernel
theorem dL_law_193 : decode cL_law 193 = .ok (.aload_n 0, 1) := by decide +kernel
theorem dL_law_194 : decode cL_law 194 = .ok (.iload_n 3, 1) := by decide +kernel
theorem dL_law_195 : decode cL_law 195 = .ok (.iconst 1, 1) := by decide +kernel
theorem dL_law_196 : decode cL_law 196 = .ok (.iadd, 1) := by decide +kernel
theorem dL_law_197 : decode cL_law 197 = .ok (.iaload, 1) := by decide +kernel
theorem dL_law_198 : decode cL_law 198 = .ok (.aload_n 0, 1) := by decide +kernel
theorem dL_law_199 : decode cL_law 199 = .ok (.iload_n 3, 1) := by decide +kernel
theorem dL_law_200 : decode cL_law 200 = .ok (.iconst 2, 1) := by decide +kernel
theorem dL_law_201 : decode cL_law 201 = .ok (.iadd, 1) := by decide +kernel
theorem dL_law_202 : decode cL_law 202 = .ok (.iaload, 1) := by decide +kernel
theorem dL_law_203 : decode cL_law 203 = .ok (.ifCond .eq 7, 3) := by decide +kernel
theorem dL_law_206 : decode cL_law 206 = .ok (.iconst 1, 1) := by decide +kernel
theorem dL_law_207 : decode cL_law 207 = .ok (.goto 4, 3) := by decide +kernel
theorem dL_law_210 : decode cL_law 210 = .ok (.iconst 0, 1) := by decide +kernel
theorem dL_law_211 : decode cL_law 211 = .ok (.invokevirtual 23, 3) := by decide +kernel
theorem dL_law_214 : decode cL_law 214 = .ok (.aload_n 2, 1) := by decide +kernel
theorem dL_law_215 : decode cL_law 215 = .ok (.aload_n 0, 1) := by decide +kernel
theorem dL_law_216 : decode cL_law 216 = .ok (.iload_n 3, 1) := by decide +kernel
theorem dL_law_217 : decode cL_law 217 = .ok (.iconst 1, 1) := by decide +kernel
theorem dL_law_218 : decode cL_law 218 = .ok (.iadd, 1) := by decide +kernel
theorem dL_law_219 : decode cL_law 219 = .ok (.iaload, 1) := by decide +kernel
theorem dL_law_220 : decode cL_law 220 = .ok (.aload_n 0, 1) := by decide +kernel
theorem dL_law_221 : decode cL_law 221 = .ok (.iload_n 3, 1) := by decide +kernel
theorem dL_law_222 : decode cL_law 222 = .ok (.iconst 2, 1) := by decide +kernel
theorem dL_law_223 : decode cL_law 223 = .ok (.iadd, 1) := by decide +kernel
theorem dL_law_224 : decode cL_law 224 = .ok (.iaload, 1) := by decide +kernel
theorem dL_law_225 : decode cL_law 225 = .ok (.ifCond .eq 7, 3) := by decide +kernel
theorem dL_law_228 : decode cL_law 228 = .ok (.iconst 1, 1) := by decide +kernel
theorem dL_law_229 : decode cL_law 229 = .ok (.goto 4, 3) := by decide +kernel
theorem dL_law_232 : decode cL_law 232 = .ok (.iconst 0, 1) := by decide +kernel
theorem dL_law_233 : decode cL_law 233 = .ok (.invokevirtual 27, 3) := by decide +kernel
theorem dL_law_236 : decode cL_law 236 = .ok (.if_icmp .eq 578, 3) := by decide +kernel
theorem dL_law_239 : decode cL_law 239 = .ok (.iconst 0, 1) := by decide +kernel
theorem dL_law_240 : decode cL_law 240 = .ok (.ireturn, 1) := by decide +kernel
theorem dL_law_241 : decode cL_law 241 = .ok (.aload_n 1, 1) := by decide +kernel
theorem dL_law_242 : decode cL_law 242 = .ok (.aload_n 0, 1) := by decide +kernel
theorem dL_law_243 : decode cL_law 243 = .ok (.iload_n 3, 1) := by decide +kernel
theorem dL_law_244 : decode cL_law 244 = .ok (.iconst 1, 1) := by decide +kernel
theorem dL_law_245 : decode cL_law 245 = .ok (.iadd, 1) := by decide +kernel
theorem dL_law_246 : decode cL_law 246 = .ok (.iaload, 1) := by decide +kernel
theorem dL_law_247 : decode cL_law 247 = .ok (.aload_n 0, 1) := by decide +kernel
theorem dL_law_248 : decode cL_law 248 = .ok (.iload_n 3, 1) := by decide +kernel
theorem dL_law_249 : decode cL_law 249 = .ok (.iconst 2, 1) := by decide +kernel
theorem dL_law_250 : decode cL_law 250 = .ok (.iadd, 1) := by decide +kernel
theorem dL_law_251 : decode cL_law 251 = .ok (.iaload, 1) := by decide +kernel
theorem dL_law_252 : decode cL_law 252 = .ok (.invokevirtual 28, 3) := by decide +kernel
theorem dL_law_255 : decode cL_law 255 = .ok (.aload_n 2, 1) := by decide +kernel
theorem dL_law_256 : decode cL_law 256 = .ok (.aload_n 0, 1) := by decide +kernel
theorem dL_law_257 : decode cL_law 257 = .ok (.iload_n 3, 1) := by decide +kernel
theorem dL_law_258 : decode cL_law 258 = .ok (.iconst 1, 1) := by decide +kernel
theorem dL_law_259 : decode cL_law 259 = .ok (.iadd, 1) := by decide +kernel
theorem dL_law_260 : decode cL_law 260 = .ok (.iaload, 1) := by decide +kernel
theorem dL_law_261 : decode cL_law 261 = .ok (.aload_n 0, 1) := by decide +kernel
theorem dL_law_262 : decode cL_law 262 = .ok (.iload_n 3, 1) := by decide +kernel
theorem dL_law_263 : decode cL_law 263 = .ok (.iconst 2, 1) := by decide +kernel
theorem dL_law_264 : decode cL_law 264 = .ok (.iadd, 1) := by decide +kernel
theorem dL_law_265 : decode cL_law 265 = .ok (.iaload, 1) := by decide +kernel
theorem dL_law_266 : decode cL_law 266 = .ok (.invokevirtual 32, 3) := by decide +kernel
theorem dL_law_269 : decode cL_law 269 = .ok (.if_icmp .eq 545, 3) := by decide +kernel
theorem dL_law_272 : decode cL_law 272 = .ok (.iconst 0, 1) := by decide +kernel
theorem dL_law_273 : decode cL_law 273 = .ok (.ireturn, 1) := by decide +kernel
theorem dL_law_274 : decode cL_law 274 = .ok (.aload_n 1, 1) := by decide +kernel
theorem dL_law_275 : decode cL_law 275 = .ok (.aload_n 0, 1) := by decide +kernel
theorem dL_law_276 : decode cL_law 276 = .ok (.iload_n 3, 1) := by decide +kernel
theorem dL_law_277 : decode cL_law 277 = .ok (.iconst 1, 1) := by decide +kernel
theorem dL_law_278 : decode cL_law 278 = .ok (.iadd, 1) := by decide +kernel
theorem dL_law_279 : decode cL_law 279 = .ok (.iaload, 1) := by decide +kernel
theorem dL_law_280 : decode cL_law 280 = .ok (.invokevirtual 33, 3) := by decide +kernel
theorem dL_law_283 : decode cL_law 283 = .ok (.aload_n 2, 1) := by decide +kernel
theorem dL_law_284 : decode cL_law 284 = .ok (.aload_n 0, 1) := by decide +kernel
theorem dL_law_285 : decode cL_law 285 = .ok (.iload_n 3, 1) := by decide +kernel
theorem dL_law_286 : decode cL_law 286 = .ok (.iconst 1, 1) := by decide +kernel
theorem dL_law_287 : decode cL_law 287 = .ok (.iadd, 1) := by decide +kernel
theorem dL_law_288 : decode cL_law 288 = .ok (.iaload, 1) := by decide +kernel
theorem dL_law_289 : decode cL_law 289 = .ok (.invokevirtual 37, 3) := by decide +kernel
theorem dL_law_292 : decode cL_law 292 = .ok (.if_icmp .eq 522, 3) := by decide +kernel
theorem dL_law_295 : decode cL_law 295 = .ok (.iconst 0, 1) := by decide +kernel
theorem dL_law_296 : decode cL_law 296 = .ok (.ireturn, 1) := by decide +kernel
theorem dL_law_297 : decode cL_law 297 = .ok (.aload_n 1, 1) := by decide +kernel
theorem dL_law_298 : decode cL_law 298 = .ok (.aload_n 0, 1) := by decide +kernel
theorem dL_law_299 : decode cL_law 299 = .ok (.iload_n 3, 1) := by decide +kernel
theorem dL_law_300 : decode cL_law 300 = .ok (.iconst 1, 1) := by decide +kernel
theorem dL_law_301 : decode cL_law 301 = .ok (.iadd, 1) := by decide +kernel
theorem dL_law_302 : decode cL_law 302 = .ok (.iaload, 1) := by decide +kernel
theorem dL_law_303 : decode cL_law 303 = .ok (.aload_n 0, 1) := by decide +kernel
theorem dL_law_304 : decode cL_law 304 = .ok (.iload_n 3, 1) := by decide +kernel
theorem dL_law_305 : decode cL_law 305 = .ok (.iconst 2, 1) := by decide +kernel
theorem dL_law_306 : decode cL_law 306 = .ok (.iadd, 1) := by decide +kernel
theorem dL_law_307 : decode cL_law 307 = .ok (.iaload, 1) := by decide +kernel
theorem dL_law_308 : decode cL_law 308 = .ok (.invokevirtual 38, 3) := by decide +kernel
theorem dL_law_311 : decode cL_law 311 = .ok (.aload_n 2, 1) := by decide +kernel
theorem dL_law_312 : decode cL_law 312 = .ok (.aload_n 0, 1) := by decide +kernel
theorem dL_law_313 : decode cL_law 313 = .ok (.iload_n 3, 1) := by decide +kernel
theorem dL_law_314 : decode cL_law 314 = .ok (.iconst 1, 1) := by decide +kernel
theorem dL_law_315 : decode cL_law 315 = .ok (.iadd, 1) := by decide +kernel
theorem dL_law_316 : decode cL_law 316 = .ok (.iaload, 1) := by decide +kernel
theorem dL_law_317 : decode cL_law 317 = .ok (.aload_n 0, 1) := by decide +kernel
theorem dL_law_318 : decode cL_law 318 = .ok (.iload_n 3, 1) := by decide +kernel
theorem dL_law_319 : decode cL_law 319 = .ok (.iconst 2, 1) := by decide +kernel
theorem dL_law_320 : decode cL_law 320 = .ok (.iadd, 1) := by decide +kernel
theorem dL_law_321 : decode cL_law 321 = .ok (.iaload, 1) := by decide +kernel
theorem dL_law_322 : decode cL_law 322 = .ok (.invokevirtual 41, 3) := by decide +kernel
theorem dL_law_325 : decode cL_law 325 = .ok (.if_icmp .eq 489, 3) := by decide +kernel
theorem dL_law_328 : decode cL_law 328 = .ok (.iconst 0, 1) := by decide +kernel
theorem dL_law_329 : decode cL_law 329 = .ok (.ireturn, 1) := by decide +kernel
theorem dL_law_330 : decode cL_law 330 = .ok (.aload_n 1, 1) := by decide +kernel
theorem dL_law_331 : decode cL_law 331 = .ok (.aload_n 0, 1) := by decide +kernel
theorem dL_law_332 : decode cL_law 332 = .ok (.iload_n 3, 1) := by decide +kernel
theorem dL_law_333 : decode cL_law 333 = .ok (.iconst 1, 1) := by decide +kernel
theorem dL_law_334 : decode cL_law 334 = .ok (.iadd, 1) := by decide +kernel
theorem dL_law_335 : decode cL_law 335 = .ok (.iaload, 1) := by decide +kernel
theorem dL_law_336 : decode cL_law 336 = .ok (.aload_n 0, 1) := by decide +kernel
theorem dL_law_337 : decode cL_law 337 = .ok (.iload_n 3, 1) := by decide +kernel
theorem dL_law_338 : decode cL_law 338 = .ok (.iconst 2, 1) := by decide +kernel
theorem dL_law_339 : decode cL_law 339 = .ok (.iadd, 1) := by decide +kernel
theorem dL_law_340 : decode cL_law 340 = .ok (.iaload, 1) := by decide +kernel
theorem dL_law_341 : decode cL_law 341 = .ok (.ifCond .eq 7, 3) := by decide +kernel
theorem dL_law_344 : decode cL_law 344 = .ok (.iconst 1, 1) := by decide +kernel
theorem dL_law_345 : decode cL_law 345 = .ok (.goto 4, 3) := by decide +kernel
theorem dL_law_348 : decode cL_law 348 = .ok (.iconst 0, 1) := by decide +kernel
theorem dL_law_349 : decode cL_law 349 = .ok (.invokevirtual 42, 3) := by decide +kernel
theorem dL_law_352 : decode cL_law 352 = .ok (.aload_n 2, 1) := by decide +kernel
theorem dL_law_353 : decode cL_law 353 = .ok (.aload_n 0, 1) := by decide +kernel
theorem dL_law_354 : decode cL_law 354 = .ok (.iload_n 3, 1) := by decide +kernel
theorem dL_law_355 : decode cL_law 355 = .ok (.iconst 1, 1) := by decide +kernel
theorem dL_law_356 : decode cL_law 356 = .ok (.iadd, 1) := by decide +kernel
theorem dL_law_357 : decode cL_law 357 = .ok (.iaload, 1) := by decide +kernel
theorem dL_law_358 : decode cL_law 358 = .ok (.aload_n 0, 1) := by decide +kernel
theorem dL_law_359 : decode cL_law 359 = .ok (.iload_n 3, 1) := by decide +kernel
theorem dL_law_360 : decode cL_law 360 = .ok (.iconst 2, 1) := by decide +kernel
theorem dL_law_361 : decode cL_law 361 = .ok (.iadd, 1) := by decide +kernel
theorem dL_law_362 : decode cL_law 362 = .ok (.iaload, 1) := by decide +kernel
theorem dL_law_363 : decode cL_law 363 = .ok (.ifCond .eq 7, 3) := by decide +kernel
theorem dL_law_366 : decode cL_law 366 = .ok (.iconst 1, 1) := by decide +kernel
theorem dL_law_367 : decode cL_law 367 = .ok (.goto 4, 3) := by decide +kernel
theorem dL_law_370 : decode cL_law 370 = .ok (.iconst 0, 1) := by decide +kernel
theorem dL_law_371 : decode cL_law 371 = .ok (.invokevirtual 45, 3) := by decide +kernel
theorem dL_law_374 : decode cL_law 374 = .ok (.if_icmp .eq 440, 3) := by decide +kernel
theorem dL_law_377 : decode cL_law 377 = .ok (.iconst 0, 1) := by decide +kernel
theorem dL_law_378 : decode cL_law 378 = .ok (.ireturn, 1) := by decide +kernel
theorem dL_law_379 : decode cL_law 379 = .ok (.aload_n 1, 1) := by decide +kernel
theorem dL_law_380 : decode cL_law 380 = .ok (.aload_n 0, 1) := by decide +kernel
theorem dL_law_381 : decode cL_law 381 = .ok (.iload_n 3, 1) := by decide +kernel
theorem dL_law_382 : decode cL_law 382 = .ok (.iconst 1, 1) := by decide +kernel
theorem dL_law_383 : decode cL_law 383 = .ok (.iadd, 1) := by decide +kernel
theorem dL_law_384 : decode cL_law 384 = .ok (.iaload, 1) := by decide +kernel
theorem dL_law_385 : decode cL_law 385 = .ok (.invokevirtual 46, 3) := by decide +kernel
theorem dL_law_388 : decode cL_law 388 = .ok (.aload_n 2, 1) := by decide +kernel
theorem dL_law_389 : decode cL_law 389 = .ok (.aload_n 0, 1) := by decide +kernel
theorem dL_law_390 : decode cL_law 390 = .ok (.iload_n 3, 1) := by decide +kernel
theorem dL_law_391 : decode cL_law 391 = .ok (.iconst 1, 1) := by decide +kernel
theorem dL_law_392 : decode cL_law 392 = .ok (.iadd, 1) := by decide +kernel
theorem dL_law_393 : decode cL_law 393 = .ok (.iaload, 1) := by decide +kernel
theorem dL_law_394 : decode cL_law 394 = .ok (.invokevirtual 49, 3) := by decide +kernel
theorem dL_law_397 : decode cL_law 397 = .ok (.if_icmp .eq 417, 3) := by decide +kernel
theorem dL_law_400 : decode cL_law 400 = .ok (.iconst 0, 1) := by decide +kernel
theorem dL_law_401 : decode cL_law 401 = .ok (.ireturn, 1) := by decide +kernel
theorem dL_law_402 : decode cL_law 402 = .ok (.aload_n 1, 1) := by decide +kernel
theorem dL_law_403 : decode cL_law 403 = .ok (.aload_n 0, 1) := by decide +kernel
theorem dL_law_404 : decode cL_law 404 = .ok (.iload_n 3, 1) := by decide +kernel
theorem dL_law_405 : decode cL_law 405 = .ok (.iconst 1, 1) := by decide +kernel
theorem dL_law_406 : decode cL_law 406 = .ok (.iadd, 1) := by decide +kernel
theorem dL_law_407 : decode cL_law 407 = .ok (.iaload, 1) := by decide +kernel
theorem dL_law_408 : decode cL_law 408 = .ok (.aload_n 0, 1) := by decide +kernel
theorem dL_law_409 : decode cL_law 409 = .ok (.iload_n 3, 1) := by decide +kernel
theorem dL_law_410 : decode cL_law 410 = .ok (.iconst 2, 1) := by decide +kernel
theorem dL_law_411 : decode cL_law 411 = .ok (.iadd, 1) := by decide +kernel
theorem dL_law_412 : decode cL_law 412 = .ok (.iaload, 1) := by decide +kernel
theorem dL_law_413 : decode cL_law 413 = .ok (.aload_n 0, 1) := by decide +kernel
theorem dL_law_414 : decode cL_law 414 = .ok (.iload_n 3, 1) := by decide +kernel
theorem dL_law_415 : decode cL_law 415 = .ok (.iconst 3, 1) := by decide +kernel
theorem dL_law_416 : decode cL_law 416 = .ok (.iadd, 1) := by decide +kernel
theorem dL_law_417 : decode cL_law 417 = .ok (.iaload, 1) := by decide +kernel
theorem dL_law_418 : decode cL_law 418 = .ok (.invokevirtual 50, 3) := by decide +kernel
theorem dL_law_421 : decode cL_law 421 = .ok (.aload_n 2, 1) := by decide +kernel
theorem dL_law_422 : decode cL_law 422 = .ok (.aload_n 0, 1) := by decide +kernel
theorem dL_law_423 : decode cL_law 423 = .ok (.iload_n 3, 1) := by decide +kernel
theorem dL_law_424 : decode cL_law 424 = .ok (.iconst 1, 1) := by decide +kernel
theorem dL_law_425 : decode cL_law 425 = .ok (.iadd, 1) := by decide +kernel
theorem dL_law_426 : decode cL_law 426 = .ok (.iaload, 1) := by decide +kernel
theorem dL_law_427 : decode cL_law 427 = .ok (.aload_n 0, 1) := by decide +kernel
theorem dL_law_428 : decode cL_law 428 = .ok (.iload_n 3, 1) := by decide +kernel
theorem dL_law_429 : decode cL_law 429 = .ok (.iconst 2, 1) := by decide +kernel
theorem dL_law_430 : decode cL_law 430 = .ok (.iadd, 1) := by decide +kernel
theorem dL_law_431 : decode cL_law 431 = .ok (.iaload, 1) := by decide +kernel
theorem dL_law_432 : decode cL_law 432 = .ok (.aload_n 0, 1) := by decide +kernel
theorem dL_law_433 : decode cL_law 433 = .ok (.iload_n 3, 1) := by decide +kernel
theorem dL_law_434 : decode cL_law 434 = .ok (.iconst 3, 1) := by decide +kernel
theorem dL_law_435 : decode cL_law 435 = .ok (.iadd, 1) := by decide +kernel
theorem dL_law_436 : decode cL_law 436 = .ok (.iaload, 1) := by decide +kernel
theorem dL_law_437 : decode cL_law 437 = .ok (.invokevirtual 53, 3) := by decide +kernel
theorem dL_law_440 : decode cL_law 440 = .ok (.if_icmp .eq 374, 3) := by decide +kernel
theorem dL_law_443 : decode cL_law 443 = .ok (.iconst 0, 1) := by decide +kernel
theorem dL_law_444 : decode cL_law 444 = .ok (.ireturn, 1) := by decide +kernel
theorem dL_law_445 : decode cL_law 445 = .ok (.aload_n 1, 1) := by decide +kernel
theorem dL_law_446 : decode cL_law 446 = .ok (.aload_n 0, 1) := by decide +kernel
theorem dL_law_447 : decode cL_law 447 = .ok (.iload_n 3, 1) := by decide +kernel
theorem dL_law_448 : decode cL_law 448 = .ok (.iconst 1, 1) := by decide +kernel
theorem dL_law_449 : decode cL_law 449 = .ok (.iadd, 1) := by decide +kernel
theorem dL_law_450 : decode cL_law 450 = .ok (.iaload, 1) := by decide +kernel
theorem dL_law_451 : decode cL_law 451 = .ok (.aload_n 0, 1) := by decide +kernel
theorem dL_law_452 : decode cL_law 452 = .ok (.iload_n 3, 1) := by decide +kernel
theorem dL_law_453 : decode cL_law 453 = .ok (.iconst 2, 1) := by decide +kernel
theorem dL_law_454 : decode cL_law 454 = .ok (.iadd, 1) := by decide +kernel
theorem dL_law_455 : decode cL_law 455 = .ok (.iaload, 1) := by decide +kernel
theorem dL_law_456 : decode cL_law 456 = .ok (.invokevirtual 54, 3) := by decide +kernel
theorem dL_law_459 : decode cL_law 459 = .ok (.aload_n 2, 1) := by decide +kernel
theorem dL_law_460 : decode cL_law 460 = .ok (.aload_n 0, 1) := by decide +kernel
theorem dL_law_461 : decode cL_law 461 = .ok (.iload_n 3, 1) := by decide +kernel
theorem dL_law_462 : decode cL_law 462 = .ok (.iconst 1, 1) := by decide +kernel
theorem dL_law_463 : decode cL_law 463 = .ok (.iadd, 1) := by decide +kernel
theorem dL_law_464 : decode cL_law 464 = .ok (.iaload, 1) := by decide +kernel
theorem dL_law_465 : decode cL_law 465 = .ok (.aload_n 0, 1) := by decide +kernel
theorem dL_law_466 : decode cL_law 466 = .ok (.iload_n 3, 1) := by decide +kernel
theorem dL_law_467 : decode cL_law 467 = .ok (.iconst 2, 1) := by decide +kernel
theorem dL_law_468 : decode cL_law 468 = .ok (.iadd, 1) := by decide +kernel
theorem dL_law_469 : decode cL_law 469 = .ok (.iaload, 1) := by decide +kernel
theorem dL_law_470 : decode cL_law 470 = .ok (.invokevirtual 57, 3) := by decide +kernel
theorem dL_law_473 : decode cL_law 473 = .ok (.if_icmp .eq 341, 3) := by decide +kernel
theorem dL_law_476 : decode cL_law 476 = .ok (.iconst 0, 1) := by decide +kernel
theorem dL_law_477 : decode cL_law 477 = .ok (.ireturn, 1) := by decide +kernel
theorem dL_law_478 : decode cL_law 478 = .ok (.aload_n 1, 1) := by decide +kernel
theorem dL_law_479 : decode cL_law 479 = .ok (.aload_n 0, 1) := by decide +kernel
theorem dL_law_480 : decode cL_law 480 = .ok (.iload_n 3, 1) := by decide +kernel
theorem dL_law_481 : decode cL_law 481 = .ok (.iconst 1, 1) := by decide +kernel
theorem dL_law_482 : decode cL_law 482 = .ok (.iadd, 1) := by decide +kernel
theorem dL_law_483 : decode cL_law 483 = .ok (.iaload, 1) := by decide +kernel
theorem dL_law_484 : decode cL_law 484 = .ok (.aload_n 0, 1) := by decide +kernel
theorem dL_law_485 : decode cL_law 485 = .ok (.iload_n 3, 1) := by decide +kernel
theorem dL_law_486 : decode cL_law 486 = .ok (.iconst 2, 1) := by decide +kernel
theorem dL_law_487 : decode cL_law 487 = .ok (.iadd, 1) := by decide +kernel
theorem dL_law_488 : decode cL_law 488 = .ok (.iaload, 1) := by decide +kernel
theorem dL_law_489 : decode cL_law 489 = .ok (.invokevirtual 58, 3) := by decide +kernel
theorem dL_law_492 : decode cL_law 492 = .ok (.aload_n 2, 1) := by decide +kernel
theorem dL_law_493 : decode cL_law 493 = .ok (.aload_n 0, 1) := by decide +kernel
theorem dL_law_494 : decode cL_law 494 = .ok (.iload_n 3, 1) := by decide +kernel
theorem dL_law_495 : decode cL_law 495 = .ok (.iconst 1, 1) := by decide +kernel
theorem dL_law_496 : decode cL_law 496 = .ok (.iadd, 1) := by decide +kernel
theorem dL_law_497 : decode cL_law 497 = .ok (.iaload, 1) := by decide +kernel
theorem dL_law_498 : decode cL_law 498 = .ok (.aload_n 0, 1) := by decide +kernel
theorem dL_law_499 : decode cL_law 499 = .ok (.iload_n 3, 1) := by decide +kernel
theorem dL_law_500 : decode cL_law 500 = .ok (.iconst 2, 1) := by decide +kernel
theorem dL_law_501 : decode cL_law 501 = .ok (.iadd, 1) := by decide +kernel
theorem dL_law_502 : decode cL_law 502 = .ok (.iaload, 1) := by decide +kernel
theorem dL_law_503 : decode cL_law 503 = .ok (.invokevirtual 61, 3) := by decide +kernel
theorem dL_law_506 : decode cL_law 506 = .ok (.if_icmp .eq 308, 3) := by decide +kernel
theorem dL_law_509 : decode cL_law 509 = .ok (.iconst 0, 1) := by decide +kernel
theorem dL_law_510 : decode cL_law 510 = .ok (.ireturn, 1) := by decide +kernel
theorem dL_law_511 : decode cL_law 511 = .ok (.aload_n 1, 1) := by decide +kernel
theorem dL_law_512 : decode cL_law 512 = .ok (.aload_n 0, 1) := by decide +kernel
theorem dL_law_513 : decode cL_law 513 = .ok (.iload_n 3, 1) := by decide +kernel
theorem dL_law_514 : decode cL_law 514 = .ok (.iconst 1, 1) := by decide +kernel
theorem dL_law_515 : decode cL_law 515 = .ok (.iadd, 1) := by decide +kernel
theorem dL_law_516 : decode cL_law 516 = .ok (.iaload, 1) := by decide +kernel
theorem dL_law_517 : decode cL_law 517 = .ok (.aload_n 0, 1) := by decide +kernel
theorem dL_law_518 : decode cL_law 518 = .ok (.iload_n 3, 1) := by decide +kernel
theorem dL_law_519 : decode cL_law 519 = .ok (.iconst 2, 1) := by decide +kernel
theorem dL_law_520 : decode cL_law 520 = .ok (.iadd, 1) := by decide +kernel
theorem dL_law_521 : decode cL_law 521 = .ok (.iaload, 1) := by decide +kernel
theorem dL_law_522 : decode cL_law 522 = .ok (.aload_n 0, 1) := by decide +kernel
theorem dL_law_523 : decode cL_law 523 = .ok (.iload_n 3, 1) := by decide +kernel
theorem dL_law_524 : decode cL_law 524 = .ok (.iconst 3, 1) := by decide +kernel
theorem dL_law_525 : decode cL_law 525 = .ok (.iadd, 1) := by decide +kernel
theorem dL_law_526 : decode cL_law 526 = .ok (.iaload, 1) := by decide +kernel
theorem dL_law_527 : decode cL_law 527 = .ok (.invokevirtual 62, 3) := by decide +kernel
theorem dL_law_530 : decode cL_law 530 = .ok (.aload_n 2, 1) := by decide +kernel
theorem dL_law_531 : decode cL_law 531 = .ok (.aload_n 0, 1) := by decide +kernel
theorem dL_law_532 : decode cL_law 532 = .ok (.iload_n 3, 1) := by decide +kernel
theorem dL_law_533 : decode cL_law 533 = .ok (.iconst 1, 1) := by decide +kernel
theorem dL_law_534 : decode cL_law 534 = .ok (.iadd, 1) := by decide +kernel
theorem dL_law_535 : decode cL_law 535 = .ok (.iaload, 1) := by decide +kernel
theorem dL_law_536 : decode cL_law 536 = .ok (.aload_n 0, 1) := by decide +kernel
theorem dL_law_537 : decode cL_law 537 = .ok (.iload_n 3, 1) := by decide +kernel
theorem dL_law_538 : decode cL_law 538 = .ok (.iconst 2, 1) := by decide +kernel
theorem dL_law_539 : decode cL_law 539 = .ok (.iadd, 1) := by decide +kernel
theorem dL_law_540 : decode cL_law 540 = .ok (.iaload, 1) := by decide +kernel
theorem dL_law_541 : decode cL_law 541 = .ok (.aload_n 0, 1) := by decide +kernel
theorem dL_law_542 : decode cL_law 542 = .ok (.iload_n 3, 1) := by decide +kernel
theorem dL_law_543 : decode cL_law 543 = .ok (.iconst 3, 1) := by decide +kernel
theorem dL_law_544 : decode cL_law 544 = .ok (.iadd, 1) := by decide +kernel
theorem dL_law_545 : decode cL_law 545 = .ok (.iaload, 1) := by decide +kernel
theorem dL_law_546 : decode cL_law 546 = .ok (.invokevirtual 65, 3) := by decide +kernel
theorem dL_law_549 : decode cL_law 549 = .ok (.if_icmp .eq 265, 3) := by decide +kernel
theorem dL_law_552 : decode cL_law 552 = .ok (.iconst 0, 1) := by decide +kernel
theorem dL_law_553 : decode cL_law 553 = .ok (.ireturn, 1) := by decide +kernel
theorem dL_law_554 : decode cL_law 554 = .ok (.aload_n 1, 1) := by decide +kernel
theorem dL_law_555 : decode cL_law 555 = .ok (.aload_n 0, 1) := by decide +kernel
theorem dL_law_556 : decode cL_law 556 = .ok (.iload_n 3, 1) := by decide +kernel
theorem dL_law_557 : decode cL_law 557 = .ok (.iconst 1, 1) := by decide +kernel
theorem dL_law_558 : decode cL_law 558 = .ok (.iadd, 1) := by decide +kernel
theorem dL_law_559 : decode cL_law 559 = .ok (.iaload, 1) := by decide +kernel
theorem dL_law_560 : decode cL_law 560 = .ok (.invokevirtual 66, 3) := by decide +kernel
theorem dL_law_563 : decode cL_law 563 = .ok (.aload_n 2, 1) := by decide +kernel
theorem dL_law_564 : decode cL_law 564 = .ok (.aload_n 0, 1) := by decide +kernel
theorem dL_law_565 : decode cL_law 565 = .ok (.iload_n 3, 1) := by decide +kernel
theorem dL_law_566 : decode cL_law 566 = .ok (.iconst 1, 1) := by decide +kernel
theorem dL_law_567 : decode cL_law 567 = .ok (.iadd, 1) := by decide +kernel
theorem dL_law_568 : decode cL_law 568 = .ok (.iaload, 1) := by decide +kernel
theorem dL_law_569 : decode cL_law 569 = .ok (.invokevirtual 69, 3) := by decide +kernel
theorem dL_law_572 : decode cL_law 572 = .ok (.if_icmp .eq 242, 3) := by decide +kernel
theorem dL_law_575 : decode cL_law 575 = .ok (.iconst 0, 1) := by decide +kernel
theorem dL_law_576 : decode cL_law 576 = .ok (.ireturn, 1) := by decide +kernel
theorem dL_law_577 : decode cL_law 577 = .ok (.aload_n 1, 1) := by decide +kernel
theorem dL_law_578 : decode cL_law 578 = .ok (.aload_n 0, 1) := by decide +kernel
theorem dL_law_579 : decode cL_law 579 = .ok (.iload_n 3, 1) := by decide +kernel
theorem dL_law_580 : decode cL_law 580 = .ok (.iconst 1, 1) := by decide +kernel
theorem dL_law_581 : decode cL_law 581 = .ok (.iadd, 1) := by decide +kernel
theorem dL_law_582 : decode cL_law 582 = .ok (.iaload, 1) := by decide +kernel
theorem dL_law_583 : decode cL_law 583 = .ok (.aload_n 0, 1) := by decide +kernel
theorem dL_law_584 : decode cL_law 584 = .ok (.iload_n 3, 1) := by decide +kernel
theorem dL_law_585 : decode cL_law 585 = .ok (.iconst 2, 1) := by decide +kernel
theorem dL_law_586 : decode cL_law 586 = .ok (.iadd, 1) := by decide +kernel
theorem dL_law_587 : decode cL_law 587 = .ok (.iaload, 1) := by decide +kernel
theorem dL_law_588 : decode cL_law 588 = .ok (.aload_n 0, 1) := by decide +kernel
theorem dL_law_589 : decode cL_law 589 = .ok (.iload_n 3, 1) := by decide +kernel
theorem dL_law_590 : decode cL_law 590 = .ok (.iconst 3, 1) := by decide +kernel
theorem dL_law_591 : decode cL_law 591 = .ok (.iadd, 1) := by decide +kernel
theorem dL_law_592 : decode cL_law 592 = .ok (.iaload, 1) := by decide +kernel
theorem dL_law_593 : decode cL_law 593 = .ok (.invokevirtual 70, 3) := by decide +kernel
theorem dL_law_596 : decode cL_law 596 = .ok (.aload_n 2, 1) := by decide +kernel
theorem dL_law_597 : decode cL_law 597 = .ok (.aload_n 0, 1) := by decide +kernel
theorem dL_law_598 : decode cL_law 598 = .ok (.iload_n 3, 1) := by decide +kernel
theorem dL_law_599 : decode cL_law 599 = .ok (.iconst 1, 1) := by decide +kernel
theorem dL_law_600 : decode cL_law 600 = .ok (.iadd, 1) := by decide +kernel
theorem dL_law_601 : decode cL_law 601 = .ok (.iaload, 1) := by decide +kernel
theorem dL_law_602 : decode cL_law 602 = .ok (.aload_n 0, 1) := by decide +kernel
theorem dL_law_603 : decode cL_law 603 = .ok (.iload_n 3, 1) := by decide +kernel
theorem dL_law_604 : decode cL_law 604 = .ok (.iconst 2, 1) := by decide +kernel
theorem dL_law_605 : decode cL_law 605 = .ok (.iadd, 1) := by decide +kernel
theorem dL_law_606 : decode cL_law 606 = .ok (.iaload, 1) := by decide +kernel
theorem dL_law_607 : decode cL_law 607 = .ok (.aload_n 0, 1) := by decide +kernel
theorem dL_law_608 : decode cL_law 608 = .ok (.iload_n 3, 1) := by decide +kernel
theorem dL_law_609 : decode cL_law 609 = .ok (.iconst 3, 1) := by decide +kernel
theorem dL_law_610 : decode cL_law 610 = .ok (.iadd, 1) := by decide +kernel
theorem dL_law_611 : decode cL_law 611 = .ok (.iaload, 1) := by decide +kernel
theorem dL_law_612 : decode cL_law 612 = .ok (.invokevirtual 73, 3) := by decide +kernel
theorem dL_law_615 : decode cL_law 615 = .ok (.if_icmp .eq 199, 3) := by decide +kernel
theorem dL_law_618 : decode cL_law 618 = .ok (.iconst 0, 1) := by decide +kernel
theorem dL_law_619 : decode cL_law 619 = .ok (.ireturn, 1) := by decide +kernel
theorem dL_law_620 : decode cL_law 620 = .ok (.aload_n 1, 1) := by decide +kernel
theorem dL_law_621 : decode cL_law 621 = .ok (.aload_n 0, 1) := by decide +kernel
theorem dL_law_622 : decode cL_law 622 = .ok (.iload_n 3, 1) := by decide +kernel
theorem dL_law_623 : decode cL_law 623 = .ok (.iconst 1, 1) := by decide +kernel
theorem dL_law_624 : decode cL_law 624 = .ok (.iadd, 1) := by decide +kernel
theorem dL_law_625 : decode cL_law 625 = .ok (.iaload, 1) := by decide +kernel
theorem dL_law_626 : decode cL_law 626 = .ok (.invokevirtual 74, 3) := by decide +kernel
theorem dL_law_629 : decode cL_law 629 = .ok (.aload_n 2, 1) := by decide +kernel
theorem dL_law_630 : decode cL_law 630 = .ok (.aload_n 0, 1) := by decide +kernel
theorem dL_law_631 : decode cL_law 631 = .ok (.iload_n 3, 1) := by decide +kernel
theorem dL_law_632 : decode cL_law 632 = .ok (.iconst 1, 1) := by decide +kernel
theorem dL_law_633 : decode cL_law 633 = .ok (.iadd, 1) := by decide +kernel
theorem dL_law_634 : decode cL_law 634 = .ok (.iaload, 1) := by decide +kernel
theorem dL_law_635 : decode cL_law 635 = .ok (.invokevirtual 77, 3) := by decide +kernel
theorem dL_law_638 : decode cL_law 638 = .ok (.if_icmp .eq 176, 3) := by decide +kernel
theorem dL_law_641 : decode cL_law 641 = .ok (.iconst 0, 1) := by decide +kernel
theorem dL_law_642 : decode cL_law 642 = .ok (.ireturn, 1) := by decide +kernel
theorem dL_law_643 : decode cL_law 643 = .ok (.aload_n 1, 1) := by decide +kernel
theorem dL_law_644 : decode cL_law 644 = .ok (.aload_n 0, 1) := by decide +kernel
theorem dL_law_645 : decode cL_law 645 = .ok (.iload_n 3, 1) := by decide +kernel
theorem dL_law_646 : decode cL_law 646 = .ok (.iconst 1, 1) := by decide +kernel
theorem dL_law_647 : decode cL_law 647 = .ok (.iadd, 1) := by decide +kernel
theorem dL_law_648 : decode cL_law 648 = .ok (.iaload, 1) := by decide +kernel
theorem dL_law_649 : decode cL_law 649 = .ok (.aload_n 0, 1) := by decide +kernel
theorem dL_law_650 : decode cL_law 650 = .ok (.iload_n 3, 1) := by decide +kernel
theorem dL_law_651 : decode cL_law 651 = .ok (.iconst 2, 1) := by decide +kernel
theorem dL_law_652 : decode cL_law 652 = .ok (.iadd, 1) := by decide +kernel
theorem dL_law_653 : decode cL_law 653 = .ok (.iaload, 1) := by decide +kernel
theorem dL_law_654 : decode cL_law 654 = .ok (.invokevirtual 78, 3) := by decide +kernel
theorem dL_law_657 : decode cL_law 657 = .ok (.aload_n 2, 1) := by decide +kernel
theorem dL_law_658 : decode cL_law 658 = .ok (.aload_n 0, 1) := by decide +kernel
theorem dL_law_659 : decode cL_law 659 = .ok (.iload_n 3, 1) := by decide +kernel
theorem dL_law_660 : decode cL_law 660 = .ok (.iconst 1, 1) := by decide +kernel
theorem dL_law_661 : decode cL_law 661 = .ok (.iadd, 1) := by decide +kernel
theorem dL_law_662 : decode cL_law 662 = .ok (.iaload, 1) := by decide +kernel
theorem dL_law_663 : decode cL_law 663 = .ok (.aload_n 0, 1) := by decide +kernel
theorem dL_law_664 : decode cL_law 664 = .ok (.iload_n 3, 1) := by decide +kernel
theorem dL_law_665 : decode cL_law 665 = .ok (.iconst 2, 1) := by decide +kernel
theorem dL_law_666 : decode cL_law 666 = .ok (.iadd, 1) := by decide +kernel
theorem dL_law_667 : decode cL_law 667 = .ok (.iaload, 1) := by decide +kernel
theorem dL_law_668 : decode cL_law 668 = .ok (.invokevirtual 81, 3) := by decide +kernel
theorem dL_law_671 : decode cL_law 671 = .ok (.if_icmp .eq 143, 3) := by decide +kernel
theorem dL_law_674 : decode cL_law 674 = .ok (.iconst 0, 1) := by decide +kernel
theorem dL_law_675 : decode cL_law 675 = .ok (.ireturn, 1) := by decide +kernel
theorem dL_law_676 : decode cL_law 676 = .ok (.aload_n 1, 1) := by decide +kernel
theorem dL_law_677 : decode cL_law 677 = .ok (.aload_n 0, 1) := by decide +kernel
theorem dL_law_678 : decode cL_law 678 = .ok (.iload_n 3, 1) := by decide +kernel
theorem dL_law_679 : decode cL_law 679 = .ok (.iconst 1, 1) := by decide +kernel
theorem dL_law_680 : decode cL_law 680 = .ok (.iadd, 1) := by decide +kernel
theorem dL_law_681 : decode cL_law 681 = .ok (.iaload, 1) := by decide +kernel
theorem dL_law_682 : decode cL_law 682 = .ok (.invokevirtual 82, 3) := by decide +kernel
theorem dL_law_685 : decode cL_law 685 = .ok (.aload_n 2, 1) := by decide +kernel
theorem dL_law_686 : decode cL_law 686 = .ok (.aload_n 0, 1) := by decide +kernel
theorem dL_law_687 : decode cL_law 687 = .ok (.iload_n 3, 1) := by decide +kernel
theorem dL_law_688 : decode cL_law 688 = .ok (.iconst 1, 1) := by decide +kernel
theorem dL_law_689 : decode cL_law 689 = .ok (.iadd, 1) := by decide +kernel
theorem dL_law_690 : decode cL_law 690 = .ok (.iaload, 1) := by decide +kernel
theorem dL_law_691 : decode cL_law 691 = .ok (.invokevirtual 85, 3) := by decide +kernel
theorem dL_law_694 : decode cL_law 694 = .ok (.if_icmp .eq 120, 3) := by decide +kernel
theorem dL_law_697 : decode cL_law 697 = .ok (.iconst 0, 1) := by decide +kernel
theorem dL_law_698 : decode cL_law 698 = .ok (.ireturn, 1) := by decide +kernel
theorem dL_law_699 : decode cL_law 699 = .ok (.aload_n 1, 1) := by decide +kernel
theorem dL_law_700 : decode cL_law 700 = .ok (.aload_n 0, 1) := by decide +kernel
theorem dL_law_701 : decode cL_law 701 = .ok (.iload_n 3, 1) := by decide +kernel
theorem dL_law_702 : decode cL_law 702 = .ok (.iconst 1, 1) := by decide +kernel
theorem dL_law_703 : decode cL_law 703 = .ok (.iadd, 1) := by decide +kernel
theorem dL_law_704 : decode cL_law 704 = .ok (.iaload, 1) := by decide +kernel
theorem dL_law_705 : decode cL_law 705 = .ok (.invokevirtual 86, 3) := by decide +kernel
theorem dL_law_708 : decode cL_law 708 = .ok (.aload_n 2, 1) := by decide +kernel
theorem dL_law_709 : decode cL_law 709 = .ok (.aload_n 0, 1) := by decide +kernel
theorem dL_law_710 : decode cL_law 710 = .ok (.iload_n 3, 1) := by decide +kernel
theorem dL_law_711 : decode cL_law 711 = .ok (.iconst 1, 1) := by decide +kernel
theorem dL_law_712 : decode cL_law 712 = .ok (.iadd, 1) := by decide +kernel
theorem dL_law_713 : decode cL_law 713 = .ok (.iaload, 1) := by decide +kernel
theorem dL_law_714 : decode cL_law 714 = .ok (.invokevirtual 89, 3) := by decide +kernel
theorem dL_law_717 : decode cL_law 717 = .ok (.if_icmp .eq 97, 3) := by decide +kernel
theorem dL_law_720 : decode cL_law 720 = .ok (.iconst 0, 1) := by decide +kernel
theorem dL_law_721 : decode cL_law 721 = .ok (.ireturn, 1) := by decide +kernel
theorem dL_law_722 : decode cL_law 722 = .ok (.aload_n 1, 1) := by decide +kernel
theorem dL_law_723 : decode cL_law 723 = .ok (.aload_n 0, 1) := by decide +kernel
theorem dL_law_724 : decode cL_law 724 = .ok (.iload_n 3, 1) := by decide +kernel
theorem dL_law_725 : decode cL_law 725 = .ok (.iconst 1, 1) := by decide +kernel
theorem dL_law_726 : decode cL_law 726 = .ok (.iadd, 1) := by decide +kernel
theorem dL_law_727 : decode cL_law 727 = .ok (.iaload, 1) := by decide +kernel
theorem dL_law_728 : decode cL_law 728 = .ok (.aload_n 0, 1) := by decide +kernel
theorem dL_law_729 : decode cL_law 729 = .ok (.iload_n 3, 1) := by decide +kernel
theorem dL_law_730 : decode cL_law 730 = .ok (.iconst 2, 1) := by decide +kernel
theorem dL_law_731 : decode cL_law 731 = .ok (.iadd, 1) := by decide +kernel
theorem dL_law_732 : decode cL_law 732 = .ok (.iaload, 1) := by decide +kernel
theorem dL_law_733 : decode cL_law 733 = .ok (.invokevirtual 90, 3) := by decide +kernel
theorem dL_law_736 : decode cL_law 736 = .ok (.aload_n 2, 1) := by decide +kernel
theorem dL_law_737 : decode cL_law 737 = .ok (.aload_n 0, 1) := by decide +kernel
theorem dL_law_738 : decode cL_law 738 = .ok (.iload_n 3, 1) := by decide +kernel
theorem dL_law_739 : decode cL_law 739 = .ok (.iconst 1, 1) := by decide +kernel
theorem dL_law_740 : decode cL_law 740 = .ok (.iadd, 1) := by decide +kernel
theorem dL_law_741 : decode cL_law 741 = .ok (.iaload, 1) := by decide +kernel
theorem dL_law_742 : decode cL_law 742 = .ok (.aload_n 0, 1) := by decide +kernel
theorem dL_law_743 : decode cL_law 743 = .ok (.iload_n 3, 1) := by decide +kernel
theorem dL_law_744 : decode cL_law 744 = .ok (.iconst 2, 1) := by decide +kernel
theorem dL_law_745 : decode cL_law 745 = .ok (.iadd, 1) := by decide +kernel
theorem dL_law_746 : decode cL_law 746 = .ok (.iaload, 1) := by decide +kernel
theorem dL_law_747 : decode cL_law 747 = .ok (.invokevirtual 93, 3) := by decide +kernel
theorem dL_law_750 : decode cL_law 750 = .ok (.if_icmp .eq 64, 3) := by decide +kernel
theorem dL_law_753 : decode cL_law 753 = .ok (.iconst 0, 1) := by decide +kernel
theorem dL_law_754 : decode cL_law 754 = .ok (.ireturn, 1) := by decide +kernel
theorem dL_law_755 : decode cL_law 755 = .ok (.aload_n 1, 1) := by decide +kernel
theorem dL_law_756 : decode cL_law 756 = .ok (.aload_n 0, 1) := by decide +kernel
theorem dL_law_757 : decode cL_law 757 = .ok (.iload_n 3, 1) := by decide +kernel
theorem dL_law_758 : decode cL_law 758 = .ok (.iconst 1, 1) := by decide +kernel
theorem dL_law_759 : decode cL_law 759 = .ok (.iadd, 1) := by decide +kernel
theorem dL_law_760 : decode cL_law 760 = .ok (.iaload, 1) := by decide +kernel
theorem dL_law_761 : decode cL_law 761 = .ok (.invokevirtual 94, 3) := by decide +kernel
theorem dL_law_764 : decode cL_law 764 = .ok (.aload_n 2, 1) := by decide +kernel
theorem dL_law_765 : decode cL_law 765 = .ok (.aload_n 0, 1) := by decide +kernel
theorem dL_law_766 : decode cL_law 766 = .ok (.iload_n 3, 1) := by decide +kernel
theorem dL_law_767 : decode cL_law 767 = .ok (.iconst 1, 1) := by decide +kernel
theorem dL_law_768 : decode cL_law 768 = .ok (.iadd, 1) := by decide +kernel
theorem dL_law_769 : decode cL_law 769 = .ok (.iaload, 1) := by decide +kernel
theorem dL_law_770 : decode cL_law 770 = .ok (.invokevirtual 97, 3) := by decide +kernel
theorem dL_law_773 : decode cL_law 773 = .ok (.if_icmp .eq 41, 3) := by decide +kernel
theorem dL_law_776 : decode cL_law 776 = .ok (.iconst 0, 1) := by decide +kernel
theorem dL_law_777 : decode cL_law 777 = .ok (.ireturn, 1) := by decide +kernel
theorem dL_law_778 : decode cL_law 778 = .ok (.aload_n 1, 1) := by decide +kernel
theorem dL_law_779 : decode cL_law 779 = .ok (.invokevirtual 98, 3) := by decide +kernel
theorem dL_law_782 : decode cL_law 782 = .ok (.aload_n 2, 1) := by decide +kernel
theorem dL_law_783 : decode cL_law 783 = .ok (.invokevirtual 101, 3) := by decide +kernel
theorem dL_law_786 : decode cL_law 786 = .ok (.if_icmp .eq 28, 3) := by decide +kernel
theorem dL_law_789 : decode cL_law 789 = .ok (.iconst 0, 1) := by decide +kernel
theorem dL_law_790 : decode cL_law 790 = .ok (.ireturn, 1) := by decide +kernel
theorem dL_law_791 : decode cL_law 791 = .ok (.aload_n 1, 1) := by decide +kernel
theorem dL_law_792 : decode cL_law 792 = .ok (.aload_n 0, 1) := by decide +kernel
theorem dL_law_793 : decode cL_law 793 = .ok (.iload_n 3, 1) := by decide +kernel
theorem dL_law_794 : decode cL_law 794 = .ok (.iconst 1, 1) := by decide +kernel
theorem dL_law_795 : decode cL_law 795 = .ok (.iadd, 1) := by decide +kernel
theorem dL_law_796 : decode cL_law 796 = .ok (.iaload, 1) := by decide +kernel
theorem dL_law_797 : decode cL_law 797 = .ok (.invokevirtual 102, 3) := by decide +kernel
theorem dL_law_800 : decode cL_law 800 = .ok (.aload_n 2, 1) := by decide +kernel
theorem dL_law_801 : decode cL_law 801 = .ok (.aload_n 0, 1) := by decide +kernel
theorem dL_law_802 : decode cL_law 802 = .ok (.iload_n 3, 1) := by decide +kernel
theorem dL_law_803 : decode cL_law 803 = .ok (.iconst 1, 1) := by decide +kernel
theorem dL_law_804 : decode cL_law 804 = .ok (.iadd, 1) := by decide +kernel
theorem dL_law_805 : decode cL_law 805 = .ok (.iaload, 1) := by decide +kernel
theorem dL_law_806 : decode cL_law 806 = .ok (.invokevirtual 105, 3) := by decide +kernel
theorem dL_law_809 : decode cL_law 809 = .ok (.if_icmp .eq 5, 3) := by decide +kernel
theorem dL_law_812 : decode cL_law 812 = .ok (.iconst 0, 1) := by decide +kernel
theorem dL_law_813 : decode cL_law 813 = .ok (.ireturn, 1) := by decide +kernel
theorem dL_law_814 : decode cL_law 814 = .ok (.iinc 3 4, 3) := by decide +kernel
theorem dL_law_817 : decode cL_law 817 = .ok (.goto (-799), 3) := by decide +kernel
theorem dL_law_820 : decode cL_law 820 = .ok (.iconst 1, 1) := by decide +kernel
theorem dL_law_821 : decode cL_law 821 = .ok (.ireturn, 1) := by decide +kernel
end
section
set_option maxRecDepth 20000 in
theorem tX3_init : z_Mt mX3_init := ⟨z_mem 49 rfl rfl, z_mem 36 rfl rfl, by decide +kernel, by decide +kernel, by decide +kernel, by decide⟩
set_option maxRecDepth 20000 in
theorem pnX3_init : z_Pn mX3_init 0 := by unfold z_Pn; decide +kernel
set_option maxRecDepth 20000 in
theorem tX0_init : z_Mt mX0_init := ⟨z_mem 57 rfl rfl, z_mem 37 rfl rfl, by decide +kernel, by decide +kernel, by decide +kernel, by decide⟩
set_option maxRecDepth 20000 in
theorem pnX0_init : z_Pn mX0_init 0 := by unfold z_Pn; decide +kernel
set_option maxRecDepth 20000 in
theorem tX2_init : z_Mt mX2_init := ⟨z_mem 103 rfl rfl, z_mem 38 rfl rfl, by decide +kernel, by decide +kernel, by decide +kernel, by decide⟩
set_option maxRecDepth 20000 in
theorem pnX2_init : z_Pn mX2_init 0 := by unfold z_Pn; decide +kernel
set_option maxRecDepth 20000 in
theorem tX1_init : z_Mt mX1_init := ⟨z_mem 123 rfl rfl, z_mem 39 rfl rfl, by decide +kernel, by decide +kernel, by decide +kernel, by decide⟩
set_option maxRecDepth 20000 in
theorem pnX1_init : z_Pn mX1_init 0 := by unfold z_Pn; decide +kernel
set_option maxRecDepth 20000 in
theorem tJ7_fill_53178 : z_Mt mJ7_fill_53178 := ⟨z_mem 147 rfl rfl, z_mem 40 rfl rfl, by decide +kernel, by decide +kernel, by decide +kernel, by decide⟩
set_option maxRecDepth 20000 in
theorem pnJ7_fill_53178 : z_Pn mJ7_fill_53178 2 := by unfold z_Pn; decide +kernel
set_option maxRecDepth 20000 in
theorem tX3_walk : z_Mt mX3_walk := ⟨z_mem 191 rfl rfl, z_mem 36 rfl rfl, by decide +kernel, by decide +kernel, by decide +kernel, by decide⟩
set_option maxRecDepth 20000 in
theorem pnX3_walk : z_Pn mX3_walk 3 := by unfold z_Pn; decide +kernel
set_option maxRecDepth 20000 in
theorem tX3_isPlace : z_Mt mX3_isPlace := ⟨z_mem 194 rfl rfl, z_mem 36 rfl rfl, by decide +kernel, by decide +kernel, by decide +kernel, by decide⟩
set_option maxRecDepth 20000 in
theorem pnX3_isPlace : z_Pn mX3_isPlace 1 := by unfold z_Pn; decide +kernel
set_option maxRecDepth 20000 in
theorem tX0_joins : z_Mt mX0_joins := ⟨z_mem 198 rfl rfl, z_mem 37 rfl rfl, by decide +kernel, by decide +kernel, by decide +kernel, by decide⟩
set_option maxRecDepth 20000 in
theorem pnX0_joins : z_Pn mX0_joins 2 := by unfold z_Pn; decide +kernel
set_option maxRecDepth 20000 in
theorem tX0_add : z_Mt mX0_add := ⟨z_mem 208 rfl rfl, z_mem 37 rfl rfl, by decide +kernel, by decide +kernel, by decide +kernel, by decide⟩
set_option maxRecDepth 20000 in
theorem pnX0_add : z_Pn mX0_add 3 := by unfold z_Pn; decide +kernel
set_option maxRecDepth 20000 in
theorem tX0_turn : z_Mt mX0_turn := ⟨z_mem 212 rfl rfl, z_mem 37 rfl rfl, by decide +kernel, by decide +kernel, by decide +kernel, by decide⟩
set_option maxRecDepth 20000 in
theorem pnX0_turn : z_Pn mX0_turn 2 := by unfold z_Pn; decide +kernel
set_option maxRecDepth 20000 in
theorem tX3_unwalk : z_Mt mX3_unwalk := ⟨z_mem 216 rfl rfl, z_mem 36 rfl rfl, by decide +kernel, by decide +kernel, by decide +kernel, by decide⟩
set_option maxRecDepth 20000 in
theorem pnX3_unwalk : z_Pn mX3_unwalk 0 := by unfold z_Pn; decide +kernel
set_option maxRecDepth 20000 in
theorem tX0_removeLast : z_Mt mX0_removeLast := ⟨z_mem 220 rfl rfl, z_mem 37 rfl rfl, by decide +kernel, by decide +kernel, by decide +kernel, by decide⟩
set_option maxRecDepth 20000 in
theorem pnX0_removeLast : z_Pn mX0_removeLast 0 := by unfold z_Pn; decide +kernel
set_option maxRecDepth 20000 in
theorem tX3_open : z_Mt mX3_open := ⟨z_mem 224 rfl rfl, z_mem 36 rfl rfl, by decide +kernel, by decide +kernel, by decide +kernel, by decide⟩
set_option maxRecDepth 20000 in
theorem pnX3_open : z_Pn mX3_open 2 := by unfold z_Pn; decide +kernel
set_option maxRecDepth 20000 in
theorem tX0_has : z_Mt mX0_has := ⟨z_mem 228 rfl rfl, z_mem 37 rfl rfl, by decide +kernel, by decide +kernel, by decide +kernel, by decide⟩
set_option maxRecDepth 20000 in
theorem pnX0_has : z_Pn mX0_has 1 := by unfold z_Pn; decide +kernel
set_option maxRecDepth 20000 in
theorem tX3_ofWalk : z_Mt mX3_ofWalk := ⟨z_mem 233 rfl rfl, z_mem 36 rfl rfl, by decide +kernel, by decide +kernel, by decide +kernel, by decide⟩
set_option maxRecDepth 20000 in
theorem pnX3_ofWalk : z_Pn mX3_ofWalk 2 := by unfold z_Pn; decide +kernel
set_option maxRecDepth 20000 in
theorem tX3_name : z_Mt mX3_name := ⟨z_mem 237 rfl rfl, z_mem 36 rfl rfl, by decide +kernel, by decide +kernel, by decide +kernel, by decide⟩
set_option maxRecDepth 20000 in
theorem pnX3_name : z_Pn mX3_name 1 := by unfold z_Pn; decide +kernel
set_option maxRecDepth 20000 in
theorem tX3_moves : z_Mt mX3_moves := ⟨z_mem 241 rfl rfl, z_mem 36 rfl rfl, by decide +kernel, by decide +kernel, by decide +kernel, by decide⟩
set_option maxRecDepth 20000 in
theorem pnX3_moves : z_Pn mX3_moves 2 := by unfold z_Pn; decide +kernel
set_option maxRecDepth 20000 in
theorem tX3_isName : z_Mt mX3_isName := ⟨z_mem 245 rfl rfl, z_mem 36 rfl rfl, by decide +kernel, by decide +kernel, by decide +kernel, by decide⟩
set_option maxRecDepth 20000 in
theorem pnX3_isName : z_Pn mX3_isName 1 := by unfold z_Pn; decide +kernel
set_option maxRecDepth 20000 in
theorem tX3_entrance : z_Mt mX3_entrance := ⟨z_mem 249 rfl rfl, z_mem 36 rfl rfl, by decide +kernel, by decide +kernel, by decide +kernel, by decide⟩
set_option maxRecDepth 20000 in
theorem pnX3_entrance : z_Pn mX3_entrance 2 := by unfold z_Pn; decide +kernel
set_option maxRecDepth 20000 in
theorem tX3_holds : z_Mt mX3_holds := ⟨z_mem 252 rfl rfl, z_mem 36 rfl rfl, by decide +kernel, by decide +kernel, by decide +kernel, by decide⟩
set_option maxRecDepth 20000 in
theorem pnX3_holds : z_Pn mX3_holds 2 := by unfold z_Pn; decide +kernel
set_option maxRecDepth 20000 in
theorem tX3_detour : z_Mt mX3_detour := ⟨z_mem 256 rfl rfl, z_mem 36 rfl rfl, by decide +kernel, by decide +kernel, by decide +kernel, by decide⟩
set_option maxRecDepth 20000 in
theorem pnX3_detour : z_Pn mX3_detour 1 := by unfold z_Pn; decide +kernel
set_option maxRecDepth 20000 in
theorem tX3_board : z_Mt mX3_board := ⟨z_mem 260 rfl rfl, z_mem 36 rfl rfl, by decide +kernel, by decide +kernel, by decide +kernel, by decide⟩
set_option maxRecDepth 20000 in
theorem pnX3_board : z_Pn mX3_board 3 := by unfold z_Pn; decide +kernel
set_option maxRecDepth 20000 in
theorem tX3_unboard : z_Mt mX3_unboard := ⟨z_mem 264 rfl rfl, z_mem 36 rfl rfl, by decide +kernel, by decide +kernel, by decide +kernel, by decide⟩
set_option maxRecDepth 20000 in
theorem pnX3_unboard : z_Pn mX3_unboard 2 := by unfold z_Pn; decide +kernel
set_option maxRecDepth 20000 in
theorem tX3_arrow : z_Mt mX3_arrow := ⟨z_mem 268 rfl rfl, z_mem 36 rfl rfl, by decide +kernel, by decide +kernel, by decide +kernel, by decide⟩
set_option maxRecDepth 20000 in
theorem pnX3_arrow : z_Pn mX3_arrow 2 := by unfold z_Pn; decide +kernel
set_option maxRecDepth 20000 in
theorem tX3_far : z_Mt mX3_far := ⟨z_mem 272 rfl rfl, z_mem 36 rfl rfl, by decide +kernel, by decide +kernel, by decide +kernel, by decide⟩
set_option maxRecDepth 20000 in
theorem pnX3_far : z_Pn mX3_far 3 := by unfold z_Pn; decide +kernel
set_option maxRecDepth 20000 in
theorem tX2_draw : z_Mt mX2_draw := ⟨z_mem 276 rfl rfl, z_mem 38 rfl rfl, by decide +kernel, by decide +kernel, by decide +kernel, by decide⟩
set_option maxRecDepth 20000 in
theorem pnX2_draw : z_Pn mX2_draw 3 := by unfold z_Pn; decide +kernel
set_option maxRecDepth 20000 in
theorem tX2_measure : z_Mt mX2_measure := ⟨z_mem 279 rfl rfl, z_mem 38 rfl rfl, by decide +kernel, by decide +kernel, by decide +kernel, by decide⟩
set_option maxRecDepth 20000 in
theorem pnX2_measure : z_Pn mX2_measure 3 := by unfold z_Pn; decide +kernel
set_option maxRecDepth 20000 in
theorem tX2_shorten : z_Mt mX2_shorten := ⟨z_mem 283 rfl rfl, z_mem 38 rfl rfl, by decide +kernel, by decide +kernel, by decide +kernel, by decide⟩
set_option maxRecDepth 20000 in
theorem pnX2_shorten : z_Pn mX2_shorten 4 := by unfold z_Pn; decide +kernel
set_option maxRecDepth 20000 in
theorem tX2_bestAt : z_Mt mX2_bestAt := ⟨z_mem 286 rfl rfl, z_mem 38 rfl rfl, by decide +kernel, by decide +kernel, by decide +kernel, by decide⟩
set_option maxRecDepth 20000 in
theorem pnX2_bestAt : z_Pn mX2_bestAt 3 := by unfold z_Pn; decide +kernel
set_option maxRecDepth 20000 in
theorem tX3_from : z_Mt mX3_from := ⟨z_mem 290 rfl rfl, z_mem 36 rfl rfl, by decide +kernel, by decide +kernel, by decide +kernel, by decide⟩
set_option maxRecDepth 20000 in
theorem pnX3_from : z_Pn mX3_from 1 := by unfold z_Pn; decide +kernel
set_option maxRecDepth 20000 in
theorem tX3_follow : z_Mt mX3_follow := ⟨z_mem 294 rfl rfl, z_mem 36 rfl rfl, by decide +kernel, by decide +kernel, by decide +kernel, by decide⟩
set_option maxRecDepth 20000 in
theorem pnX3_follow : z_Pn mX3_follow 3 := by unfold z_Pn; decide +kernel
set_option maxRecDepth 20000 in
theorem tX1_go : z_Mt mX1_go := ⟨z_mem 298 rfl rfl, z_mem 39 rfl rfl, by decide +kernel, by decide +kernel, by decide +kernel, by decide⟩
set_option maxRecDepth 20000 in
theorem pnX1_go : z_Pn mX1_go 4 := by unfold z_Pn; decide +kernel
set_option maxRecDepth 20000 in
theorem tX1_nextFrom : z_Mt mX1_nextFrom := ⟨z_mem 302 rfl rfl, z_mem 39 rfl rfl, by decide +kernel, by decide +kernel, by decide +kernel, by decide⟩
set_option maxRecDepth 20000 in
theorem pnX1_nextFrom : z_Pn mX1_nextFrom 4 := by unfold z_Pn; decide +kernel
set_option maxRecDepth 20000 in
theorem tJ6_bitCount_0f7a4 : z_Mt mJ6_bitCount_0f7a4 := ⟨z_mem 306 rfl rfl, z_mem 43 rfl rfl, by decide +kernel, by decide +kernel, by decide +kernel, by decide⟩
set_option maxRecDepth 20000 in
theorem pnJ6_bitCount_0f7a4 : z_Pn mJ6_bitCount_0f7a4 1 := by unfold z_Pn; decide +kernel
set_option maxRecDepth 20000 in
theorem tX1_placeAt : z_Mt mX1_placeAt := ⟨z_mem 313 rfl rfl, z_mem 39 rfl rfl, by decide +kernel, by decide +kernel, by decide +kernel, by decide⟩
set_option maxRecDepth 20000 in
theorem pnX1_placeAt : z_Pn mX1_placeAt 1 := by unfold z_Pn; decide +kernel
set_option maxRecDepth 20000 in
theorem tX3_ends : z_Mt mX3_ends := ⟨z_mem 317 rfl rfl, z_mem 36 rfl rfl, by decide +kernel, by decide +kernel, by decide +kernel, by decide⟩
set_option maxRecDepth 20000 in
theorem pnX3_ends : z_Pn mX3_ends 1 := by unfold z_Pn; decide +kernel
set_option maxRecDepth 20000 in
theorem tX3_isEnding : z_Mt mX3_isEnding := ⟨z_mem 320 rfl rfl, z_mem 36 rfl rfl, by decide +kernel, by decide +kernel, by decide +kernel, by decide⟩
set_option maxRecDepth 20000 in
theorem pnX3_isEnding : z_Pn mX3_isEnding 1 := by unfold z_Pn; decide +kernel
set_option maxRecDepth 20000 in
theorem tX3_countEndings : z_Mt mX3_countEndings := ⟨z_mem 324 rfl rfl, z_mem 36 rfl rfl, by decide +kernel, by decide +kernel, by decide +kernel, by decide⟩
set_option maxRecDepth 20000 in
theorem pnX3_countEndings : z_Pn mX3_countEndings 3 := by unfold z_Pn; decide +kernel
set_option maxRecDepth 20000 in
theorem tX3_those : z_Mt mX3_those := ⟨z_mem 328 rfl rfl, z_mem 36 rfl rfl, by decide +kernel, by decide +kernel, by decide +kernel, by decide⟩
set_option maxRecDepth 20000 in
theorem pnX3_those : z_Pn mX3_those 2 := by unfold z_Pn; decide +kernel
set_option maxRecDepth 20000 in
theorem tX3_idle : z_Mt mX3_idle := ⟨z_mem 332 rfl rfl, z_mem 36 rfl rfl, by decide +kernel, by decide +kernel, by decide +kernel, by decide⟩
set_option maxRecDepth 20000 in
theorem pnX3_idle : z_Pn mX3_idle 1 := by unfold z_Pn; decide +kernel
set_option maxRecDepth 20000 in
theorem tX3_isIdle : z_Mt mX3_isIdle := ⟨z_mem 336 rfl rfl, z_mem 36 rfl rfl, by decide +kernel, by decide +kernel, by decide +kernel, by decide⟩
set_option maxRecDepth 20000 in
theorem pnX3_isIdle : z_Pn mX3_isIdle 2 := by unfold z_Pn; decide +kernel
set_option maxRecDepth 20000 in
theorem tX1_wentLike : z_Mt mX1_wentLike := ⟨z_mem 343 rfl rfl, z_mem 39 rfl rfl, by decide +kernel, by decide +kernel, by decide +kernel, by decide⟩
set_option maxRecDepth 20000 in
theorem pnX1_wentLike : z_Pn mX1_wentLike 1 := by unfold z_Pn; decide +kernel
set_option maxRecDepth 20000 in
theorem tX3_mend : z_Mt mX3_mend := ⟨z_mem 347 rfl rfl, z_mem 36 rfl rfl, by decide +kernel, by decide +kernel, by decide +kernel, by decide⟩
set_option maxRecDepth 20000 in
theorem pnX3_mend : z_Pn mX3_mend 1 := by unfold z_Pn; decide +kernel
set_option maxRecDepth 20000 in
theorem tX3_findMend : z_Mt mX3_findMend := ⟨z_mem 351 rfl rfl, z_mem 36 rfl rfl, by decide +kernel, by decide +kernel, by decide +kernel, by decide⟩
set_option maxRecDepth 20000 in
theorem pnX3_findMend : z_Pn mX3_findMend 0 := by unfold z_Pn; decide +kernel
set_option maxRecDepth 20000 in
theorem tX3_offerMend : z_Mt mX3_offerMend := ⟨z_mem 356 rfl rfl, z_mem 36 rfl rfl, by decide +kernel, by decide +kernel, by decide +kernel, by decide⟩
set_option maxRecDepth 20000 in
theorem pnX3_offerMend : z_Pn mX3_offerMend 3 := by unfold z_Pn; decide +kernel
set_option maxRecDepth 20000 in
theorem tX3_leads : z_Mt mX3_leads := ⟨z_mem 360 rfl rfl, z_mem 36 rfl rfl, by decide +kernel, by decide +kernel, by decide +kernel, by decide⟩
set_option maxRecDepth 20000 in
theorem pnX3_leads : z_Pn mX3_leads 2 := by unfold z_Pn; decide +kernel
set_option maxRecDepth 20000 in
theorem tX3_wouldLead : z_Mt mX3_wouldLead := ⟨z_mem 364 rfl rfl, z_mem 36 rfl rfl, by decide +kernel, by decide +kernel, by decide +kernel, by decide⟩
set_option maxRecDepth 20000 in
theorem pnX3_wouldLead : z_Pn mX3_wouldLead 2 := by unfold z_Pn; decide +kernel
set_option maxRecDepth 20000 in
theorem tX3_fewest : z_Mt mX3_fewest := ⟨z_mem 368 rfl rfl, z_mem 36 rfl rfl, by decide +kernel, by decide +kernel, by decide +kernel, by decide⟩
set_option maxRecDepth 20000 in
theorem pnX3_fewest : z_Pn mX3_fewest 1 := by unfold z_Pn; decide +kernel
set_option maxRecDepth 20000 in
theorem tX3_leastSet : z_Mt mX3_leastSet := ⟨z_mem 372 rfl rfl, z_mem 36 rfl rfl, by decide +kernel, by decide +kernel, by decide +kernel, by decide⟩
set_option maxRecDepth 20000 in
theorem pnX3_leastSet : z_Pn mX3_leastSet 2 := by unfold z_Pn; decide +kernel
set_option maxRecDepth 20000 in
theorem tX3_choicesOnBestWays : z_Mt mX3_choicesOnBestWays := ⟨z_mem 376 rfl rfl, z_mem 36 rfl rfl, by decide +kernel, by decide +kernel, by decide +kernel, by decide⟩
set_option maxRecDepth 20000 in
theorem pnX3_choicesOnBestWays : z_Pn mX3_choicesOnBestWays 1 := by unfold z_Pn; decide +kernel
set_option maxRecDepth 20000 in
theorem tX3_choicesFrom : z_Mt mX3_choicesFrom := ⟨z_mem 380 rfl rfl, z_mem 36 rfl rfl, by decide +kernel, by decide +kernel, by decide +kernel, by decide⟩
set_option maxRecDepth 20000 in
theorem pnX3_choicesFrom : z_Pn mX3_choicesFrom 2 := by unfold z_Pn; decide +kernel
set_option maxRecDepth 20000 in
theorem tX3_posts : z_Mt mX3_posts := ⟨z_mem 385 rfl rfl, z_mem 36 rfl rfl, by decide +kernel, by decide +kernel, by decide +kernel, by decide⟩
set_option maxRecDepth 20000 in
theorem pnX3_posts : z_Pn mX3_posts 0 := by unfold z_Pn; decide +kernel
set_option maxRecDepth 20000 in
theorem tX3_many : z_Mt mX3_many := ⟨z_mem 389 rfl rfl, z_mem 36 rfl rfl, by decide +kernel, by decide +kernel, by decide +kernel, by decide⟩
set_option maxRecDepth 20000 in
theorem pnX3_many : z_Pn mX3_many 1 := by unfold z_Pn; decide +kernel
set_option maxRecDepth 20000 in
theorem tX0_countOpen : z_Mt mX0_countOpen := ⟨z_mem 393 rfl rfl, z_mem 37 rfl rfl, by decide +kernel, by decide +kernel, by decide +kernel, by decide⟩
set_option maxRecDepth 20000 in
theorem pnX0_countOpen : z_Pn mX0_countOpen 0 := by unfold z_Pn; decide +kernel
set_option maxRecDepth 20000 in
theorem tX3_countBoards : z_Mt mX3_countBoards := ⟨z_mem 397 rfl rfl, z_mem 36 rfl rfl, by decide +kernel, by decide +kernel, by decide +kernel, by decide⟩
set_option maxRecDepth 20000 in
theorem pnX3_countBoards : z_Pn mX3_countBoards 0 := by unfold z_Pn; decide +kernel
set_option maxRecDepth 20000 in
theorem tX3_boardedFor : z_Mt mX3_boardedFor := ⟨z_mem 401 rfl rfl, z_mem 36 rfl rfl, by decide +kernel, by decide +kernel, by decide +kernel, by decide⟩
set_option maxRecDepth 20000 in
theorem pnX3_boardedFor : z_Pn mX3_boardedFor 1 := by unfold z_Pn; decide +kernel
set_option maxRecDepth 20000 in
theorem tX3_boardedPlaces : z_Mt mX3_boardedPlaces := ⟨z_mem 405 rfl rfl, z_mem 36 rfl rfl, by decide +kernel, by decide +kernel, by decide +kernel, by decide⟩
set_option maxRecDepth 20000 in
theorem pnX3_boardedPlaces : z_Pn mX3_boardedPlaces 0 := by unfold z_Pn; decide +kernel
set_option maxRecDepth 20000 in
theorem tX4_init : z_Mt mX4_init := ⟨z_mem 410 rfl rfl, z_mem 41 rfl rfl, by decide +kernel, by decide +kernel, by decide +kernel, by decide⟩
set_option maxRecDepth 20000 in
theorem pnX4_init : z_Pn mX4_init 0 := by unfold z_Pn; decide +kernel
set_option maxRecDepth 20000 in
theorem tX4_walk : z_Mt mX4_walk := ⟨z_mem 479 rfl rfl, z_mem 41 rfl rfl, by decide +kernel, by decide +kernel, by decide +kernel, by decide⟩
set_option maxRecDepth 20000 in
theorem pnX4_walk : z_Pn mX4_walk 3 := by unfold z_Pn; decide +kernel
set_option maxRecDepth 20000 in
theorem tX4_isPlace : z_Mt mX4_isPlace := ⟨z_mem 482 rfl rfl, z_mem 41 rfl rfl, by decide +kernel, by decide +kernel, by decide +kernel, by decide⟩
set_option maxRecDepth 20000 in
theorem pnX4_isPlace : z_Pn mX4_isPlace 1 := by unfold z_Pn; decide +kernel
set_option maxRecDepth 20000 in
theorem tX4_within : z_Mt mX4_within := ⟨z_mem 485 rfl rfl, z_mem 41 rfl rfl, by decide +kernel, by decide +kernel, by decide +kernel, by decide⟩
set_option maxRecDepth 20000 in
theorem pnX4_within : z_Pn mX4_within 3 := by unfold z_Pn; decide +kernel
set_option maxRecDepth 20000 in
theorem tX4_walkBetween : z_Mt mX4_walkBetween := ⟨z_mem 489 rfl rfl, z_mem 41 rfl rfl, by decide +kernel, by decide +kernel, by decide +kernel, by decide⟩
set_option maxRecDepth 20000 in
theorem pnX4_walkBetween : z_Pn mX4_walkBetween 2 := by unfold z_Pn; decide +kernel
set_option maxRecDepth 20000 in
theorem tX4_unwalk : z_Mt mX4_unwalk := ⟨z_mem 493 rfl rfl, z_mem 41 rfl rfl, by decide +kernel, by decide +kernel, by decide +kernel, by decide⟩
set_option maxRecDepth 20000 in
theorem pnX4_unwalk : z_Pn mX4_unwalk 0 := by unfold z_Pn; decide +kernel
set_option maxRecDepth 20000 in
theorem tX4_open : z_Mt mX4_open := ⟨z_mem 497 rfl rfl, z_mem 41 rfl rfl, by decide +kernel, by decide +kernel, by decide +kernel, by decide⟩
set_option maxRecDepth 20000 in
theorem pnX4_open : z_Pn mX4_open 2 := by unfold z_Pn; decide +kernel
set_option maxRecDepth 20000 in
theorem tX4_isWalk : z_Mt mX4_isWalk := ⟨z_mem 501 rfl rfl, z_mem 41 rfl rfl, by decide +kernel, by decide +kernel, by decide +kernel, by decide⟩
set_option maxRecDepth 20000 in
theorem pnX4_isWalk : z_Pn mX4_isWalk 1 := by unfold z_Pn; decide +kernel
set_option maxRecDepth 20000 in
theorem tX4_ofWalk : z_Mt mX4_ofWalk := ⟨z_mem 505 rfl rfl, z_mem 41 rfl rfl, by decide +kernel, by decide +kernel, by decide +kernel, by decide⟩
set_option maxRecDepth 20000 in
theorem pnX4_ofWalk : z_Pn mX4_ofWalk 2 := by unfold z_Pn; decide +kernel
set_option maxRecDepth 20000 in
theorem tX4_name : z_Mt mX4_name := ⟨z_mem 509 rfl rfl, z_mem 41 rfl rfl, by decide +kernel, by decide +kernel, by decide +kernel, by decide⟩
set_option maxRecDepth 20000 in
theorem pnX4_name : z_Pn mX4_name 1 := by unfold z_Pn; decide +kernel
set_option maxRecDepth 20000 in
theorem tX4_moves : z_Mt mX4_moves := ⟨z_mem 513 rfl rfl, z_mem 41 rfl rfl, by decide +kernel, by decide +kernel, by decide +kernel, by decide⟩
set_option maxRecDepth 20000 in
theorem pnX4_moves : z_Pn mX4_moves 2 := by unfold z_Pn; decide +kernel
set_option maxRecDepth 20000 in
theorem tX4_isName : z_Mt mX4_isName := ⟨z_mem 517 rfl rfl, z_mem 41 rfl rfl, by decide +kernel, by decide +kernel, by decide +kernel, by decide⟩
set_option maxRecDepth 20000 in
theorem pnX4_isName : z_Pn mX4_isName 1 := by unfold z_Pn; decide +kernel
set_option maxRecDepth 20000 in
theorem tX4_entrance : z_Mt mX4_entrance := ⟨z_mem 521 rfl rfl, z_mem 41 rfl rfl, by decide +kernel, by decide +kernel, by decide +kernel, by decide⟩
set_option maxRecDepth 20000 in
theorem pnX4_entrance : z_Pn mX4_entrance 2 := by unfold z_Pn; decide +kernel
set_option maxRecDepth 20000 in
theorem tX4_isIn : z_Mt mX4_isIn := ⟨z_mem 524 rfl rfl, z_mem 41 rfl rfl, by decide +kernel, by decide +kernel, by decide +kernel, by decide⟩
set_option maxRecDepth 20000 in
theorem pnX4_isIn : z_Pn mX4_isIn 2 := by unfold z_Pn; decide +kernel
set_option maxRecDepth 20000 in
theorem tX4_detour : z_Mt mX4_detour := ⟨z_mem 528 rfl rfl, z_mem 41 rfl rfl, by decide +kernel, by decide +kernel, by decide +kernel, by decide⟩
set_option maxRecDepth 20000 in
theorem pnX4_detour : z_Pn mX4_detour 1 := by unfold z_Pn; decide +kernel
set_option maxRecDepth 20000 in
theorem tX4_board : z_Mt mX4_board := ⟨z_mem 532 rfl rfl, z_mem 41 rfl rfl, by decide +kernel, by decide +kernel, by decide +kernel, by decide⟩
set_option maxRecDepth 20000 in
theorem pnX4_board : z_Pn mX4_board 3 := by unfold z_Pn; decide +kernel
set_option maxRecDepth 20000 in
theorem tX4_unboard : z_Mt mX4_unboard := ⟨z_mem 536 rfl rfl, z_mem 41 rfl rfl, by decide +kernel, by decide +kernel, by decide +kernel, by decide⟩
set_option maxRecDepth 20000 in
theorem pnX4_unboard : z_Pn mX4_unboard 2 := by unfold z_Pn; decide +kernel
set_option maxRecDepth 20000 in
theorem tX4_arrow : z_Mt mX4_arrow := ⟨z_mem 540 rfl rfl, z_mem 41 rfl rfl, by decide +kernel, by decide +kernel, by decide +kernel, by decide⟩
set_option maxRecDepth 20000 in
theorem pnX4_arrow : z_Pn mX4_arrow 2 := by unfold z_Pn; decide +kernel
set_option maxRecDepth 20000 in
theorem tX4_far : z_Mt mX4_far := ⟨z_mem 544 rfl rfl, z_mem 41 rfl rfl, by decide +kernel, by decide +kernel, by decide +kernel, by decide⟩
set_option maxRecDepth 20000 in
theorem pnX4_far : z_Pn mX4_far 3 := by unfold z_Pn; decide +kernel
set_option maxRecDepth 20000 in
theorem tX4_findFar : z_Mt mX4_findFar := ⟨z_mem 548 rfl rfl, z_mem 41 rfl rfl, by decide +kernel, by decide +kernel, by decide +kernel, by decide⟩
set_option maxRecDepth 20000 in
theorem pnX4_findFar : z_Pn mX4_findFar 1 := by unfold z_Pn; decide +kernel
set_option maxRecDepth 20000 in
theorem tX4_draws : z_Mt mX4_draws := ⟨z_mem 553 rfl rfl, z_mem 41 rfl rfl, by decide +kernel, by decide +kernel, by decide +kernel, by decide⟩
set_option maxRecDepth 20000 in
theorem pnX4_draws : z_Pn mX4_draws 3 := by unfold z_Pn; decide +kernel
set_option maxRecDepth 20000 in
theorem tX4_bestAt : z_Mt mX4_bestAt := ⟨z_mem 557 rfl rfl, z_mem 41 rfl rfl, by decide +kernel, by decide +kernel, by decide +kernel, by decide⟩
set_option maxRecDepth 20000 in
theorem pnX4_bestAt : z_Pn mX4_bestAt 1 := by unfold z_Pn; decide +kernel
set_option maxRecDepth 20000 in
theorem tX4_openBetween : z_Mt mX4_openBetween := ⟨z_mem 561 rfl rfl, z_mem 41 rfl rfl, by decide +kernel, by decide +kernel, by decide +kernel, by decide⟩
set_option maxRecDepth 20000 in
theorem pnX4_openBetween : z_Pn mX4_openBetween 2 := by unfold z_Pn; decide +kernel
set_option maxRecDepth 20000 in
theorem tX4_from : z_Mt mX4_from := ⟨z_mem 565 rfl rfl, z_mem 41 rfl rfl, by decide +kernel, by decide +kernel, by decide +kernel, by decide⟩
set_option maxRecDepth 20000 in
theorem pnX4_from : z_Pn mX4_from 1 := by unfold z_Pn; decide +kernel
set_option maxRecDepth 20000 in
theorem tX4_follow : z_Mt mX4_follow := ⟨z_mem 569 rfl rfl, z_mem 41 rfl rfl, by decide +kernel, by decide +kernel, by decide +kernel, by decide⟩
set_option maxRecDepth 20000 in
theorem pnX4_follow : z_Pn mX4_follow 3 := by unfold z_Pn; decide +kernel
set_option maxRecDepth 20000 in
theorem tX4_laysArrows : z_Mt mX4_laysArrows := ⟨z_mem 573 rfl rfl, z_mem 41 rfl rfl, by decide +kernel, by decide +kernel, by decide +kernel, by decide⟩
set_option maxRecDepth 20000 in
theorem pnX4_laysArrows : z_Pn mX4_laysArrows 1 := by unfold z_Pn; decide +kernel
set_option maxRecDepth 20000 in
theorem tX4_follows : z_Mt mX4_follows := ⟨z_mem 577 rfl rfl, z_mem 41 rfl rfl, by decide +kernel, by decide +kernel, by decide +kernel, by decide⟩
set_option maxRecDepth 20000 in
theorem pnX4_follows : z_Pn mX4_follows 2 := by unfold z_Pn; decide +kernel
set_option maxRecDepth 20000 in
theorem tX4_nextWalk : z_Mt mX4_nextWalk := ⟨z_mem 581 rfl rfl, z_mem 41 rfl rfl, by decide +kernel, by decide +kernel, by decide +kernel, by decide⟩
set_option maxRecDepth 20000 in
theorem pnX4_nextWalk : z_Pn mX4_nextWalk 2 := by unfold z_Pn; decide +kernel
set_option maxRecDepth 20000 in
theorem tX4_onlyWalk : z_Mt mX4_onlyWalk := ⟨z_mem 585 rfl rfl, z_mem 41 rfl rfl, by decide +kernel, by decide +kernel, by decide +kernel, by decide⟩
set_option maxRecDepth 20000 in
theorem pnX4_onlyWalk : z_Pn mX4_onlyWalk 2 := by unfold z_Pn; decide +kernel
set_option maxRecDepth 20000 in
theorem tX4_touches : z_Mt mX4_touches := ⟨z_mem 589 rfl rfl, z_mem 41 rfl rfl, by decide +kernel, by decide +kernel, by decide +kernel, by decide⟩
set_option maxRecDepth 20000 in
theorem pnX4_touches : z_Pn mX4_touches 2 := by unfold z_Pn; decide +kernel
set_option maxRecDepth 20000 in
theorem tX4_ends : z_Mt mX4_ends := ⟨z_mem 593 rfl rfl, z_mem 41 rfl rfl, by decide +kernel, by decide +kernel, by decide +kernel, by decide⟩
set_option maxRecDepth 20000 in
theorem pnX4_ends : z_Pn mX4_ends 1 := by unfold z_Pn; decide +kernel
set_option maxRecDepth 20000 in
theorem tX4_manyEnd : z_Mt mX4_manyEnd := ⟨z_mem 597 rfl rfl, z_mem 41 rfl rfl, by decide +kernel, by decide +kernel, by decide +kernel, by decide⟩
set_option maxRecDepth 20000 in
theorem pnX4_manyEnd : z_Pn mX4_manyEnd 2 := by unfold z_Pn; decide +kernel
set_option maxRecDepth 20000 in
theorem tX4_those : z_Mt mX4_those := ⟨z_mem 601 rfl rfl, z_mem 41 rfl rfl, by decide +kernel, by decide +kernel, by decide +kernel, by decide⟩
set_option maxRecDepth 20000 in
theorem pnX4_those : z_Pn mX4_those 2 := by unfold z_Pn; decide +kernel
set_option maxRecDepth 20000 in
theorem tX4_idle : z_Mt mX4_idle := ⟨z_mem 605 rfl rfl, z_mem 41 rfl rfl, by decide +kernel, by decide +kernel, by decide +kernel, by decide⟩
set_option maxRecDepth 20000 in
theorem pnX4_idle : z_Pn mX4_idle 1 := by unfold z_Pn; decide +kernel
set_option maxRecDepth 20000 in
theorem tX4_isIdle : z_Mt mX4_isIdle := ⟨z_mem 609 rfl rfl, z_mem 41 rfl rfl, by decide +kernel, by decide +kernel, by decide +kernel, by decide⟩
set_option maxRecDepth 20000 in
theorem pnX4_isIdle : z_Pn mX4_isIdle 2 := by unfold z_Pn; decide +kernel
set_option maxRecDepth 20000 in
theorem tX4_keeps : z_Mt mX4_keeps := ⟨z_mem 613 rfl rfl, z_mem 41 rfl rfl, by decide +kernel, by decide +kernel, by decide +kernel, by decide⟩
set_option maxRecDepth 20000 in
theorem pnX4_keeps : z_Pn mX4_keeps 0 := by unfold z_Pn; decide +kernel
set_option maxRecDepth 20000 in
theorem tX4_isAsKept : z_Mt mX4_isAsKept := ⟨z_mem 617 rfl rfl, z_mem 41 rfl rfl, by decide +kernel, by decide +kernel, by decide +kernel, by decide⟩
set_option maxRecDepth 20000 in
theorem pnX4_isAsKept : z_Pn mX4_isAsKept 0 := by unfold z_Pn; decide +kernel
set_option maxRecDepth 20000 in
theorem tX4_mend : z_Mt mX4_mend := ⟨z_mem 621 rfl rfl, z_mem 41 rfl rfl, by decide +kernel, by decide +kernel, by decide +kernel, by decide⟩
set_option maxRecDepth 20000 in
theorem pnX4_mend : z_Pn mX4_mend 1 := by unfold z_Pn; decide +kernel
set_option maxRecDepth 20000 in
theorem tX4_moreBy : z_Mt mX4_moreBy := ⟨z_mem 626 rfl rfl, z_mem 41 rfl rfl, by decide +kernel, by decide +kernel, by decide +kernel, by decide⟩
set_option maxRecDepth 20000 in
theorem pnX4_moreBy : z_Pn mX4_moreBy 2 := by unfold z_Pn; decide +kernel
set_option maxRecDepth 20000 in
theorem tX4_leads : z_Mt mX4_leads := ⟨z_mem 630 rfl rfl, z_mem 41 rfl rfl, by decide +kernel, by decide +kernel, by decide +kernel, by decide⟩
set_option maxRecDepth 20000 in
theorem pnX4_leads : z_Pn mX4_leads 2 := by unfold z_Pn; decide +kernel
set_option maxRecDepth 20000 in
theorem tX4_leadsTo : z_Mt mX4_leadsTo := ⟨z_mem 634 rfl rfl, z_mem 41 rfl rfl, by decide +kernel, by decide +kernel, by decide +kernel, by decide⟩
set_option maxRecDepth 20000 in
theorem pnX4_leadsTo : z_Pn mX4_leadsTo 2 := by unfold z_Pn; decide +kernel
set_option maxRecDepth 20000 in
theorem tX4_haveBest : z_Mt mX4_haveBest := ⟨z_mem 638 rfl rfl, z_mem 41 rfl rfl, by decide +kernel, by decide +kernel, by decide +kernel, by decide⟩
set_option maxRecDepth 20000 in
theorem pnX4_haveBest : z_Pn mX4_haveBest 1 := by unfold z_Pn; decide +kernel
set_option maxRecDepth 20000 in
theorem tX4_doLead : z_Mt mX4_doLead := ⟨z_mem 642 rfl rfl, z_mem 41 rfl rfl, by decide +kernel, by decide +kernel, by decide +kernel, by decide⟩
set_option maxRecDepth 20000 in
theorem pnX4_doLead : z_Pn mX4_doLead 2 := by unfold z_Pn; decide +kernel
set_option maxRecDepth 20000 in
theorem tX4_fewest : z_Mt mX4_fewest := ⟨z_mem 646 rfl rfl, z_mem 41 rfl rfl, by decide +kernel, by decide +kernel, by decide +kernel, by decide⟩
set_option maxRecDepth 20000 in
theorem pnX4_fewest : z_Pn mX4_fewest 1 := by unfold z_Pn; decide +kernel
set_option maxRecDepth 20000 in
theorem tX4_manyOf : z_Mt mX4_manyOf := ⟨z_mem 649 rfl rfl, z_mem 41 rfl rfl, by decide +kernel, by decide +kernel, by decide +kernel, by decide⟩
set_option maxRecDepth 20000 in
theorem pnX4_manyOf : z_Pn mX4_manyOf 1 := by unfold z_Pn; decide +kernel
set_option maxRecDepth 20000 in
theorem tX4_posts : z_Mt mX4_posts := ⟨z_mem 653 rfl rfl, z_mem 41 rfl rfl, by decide +kernel, by decide +kernel, by decide +kernel, by decide⟩
set_option maxRecDepth 20000 in
theorem pnX4_posts : z_Pn mX4_posts 0 := by unfold z_Pn; decide +kernel
set_option maxRecDepth 20000 in
theorem tX4_many : z_Mt mX4_many := ⟨z_mem 657 rfl rfl, z_mem 41 rfl rfl, by decide +kernel, by decide +kernel, by decide +kernel, by decide⟩
set_option maxRecDepth 20000 in
theorem pnX4_many : z_Pn mX4_many 1 := by unfold z_Pn; decide +kernel
set_option maxRecDepth 20000 in
theorem tX4_manyOpen : z_Mt mX4_manyOpen := ⟨z_mem 661 rfl rfl, z_mem 41 rfl rfl, by decide +kernel, by decide +kernel, by decide +kernel, by decide⟩
set_option maxRecDepth 20000 in
theorem pnX4_manyOpen : z_Pn mX4_manyOpen 0 := by unfold z_Pn; decide +kernel
set_option maxRecDepth 20000 in
theorem tX4_allBoards : z_Mt mX4_allBoards := ⟨z_mem 665 rfl rfl, z_mem 41 rfl rfl, by decide +kernel, by decide +kernel, by decide +kernel, by decide⟩
set_option maxRecDepth 20000 in
theorem pnX4_allBoards : z_Pn mX4_allBoards 1 := by unfold z_Pn; decide +kernel
set_option maxRecDepth 20000 in
theorem tX4_manyBoards : z_Mt mX4_manyBoards := ⟨z_mem 669 rfl rfl, z_mem 41 rfl rfl, by decide +kernel, by decide +kernel, by decide +kernel, by decide⟩
set_option maxRecDepth 20000 in
theorem pnX4_manyBoards : z_Pn mX4_manyBoards 1 := by unfold z_Pn; decide +kernel
set_option maxRecDepth 20000 in
theorem wsX0 : ∀ w ∈ u_ws RX0 TX0 7, w ∈ z_T := by decide +kernel
set_option maxRecDepth 20000 in
theorem wsX1 : ∀ w ∈ u_ws RX1 TX1 5, w ∈ z_T := by decide +kernel
set_option maxRecDepth 20000 in
theorem wsX2 : ∀ w ∈ u_ws RX2 TX2 3, w ∈ z_T := by decide +kernel
set_option maxRecDepth 20000 in
theorem wsX3 : ∀ w ∈ u_ws RX3 TX3 13, w ∈ z_T := by decide +kernel
set_option maxRecDepth 20000 in
theorem wsX4 : ∀ w ∈ u_ws RX4 TX4 21, w ∈ z_T := by decide +kernel
set_option maxRecDepth 20000 in
theorem kRX3_42 : Cond.methodLink RX3 42 yJ7_fill_53178 ∈ z_T ∧ Cond.static yJ7_fill_53178 ∈ z_T := ⟨z_mem 145 rfl rfl, z_mem 146 rfl rfl⟩
set_option maxRecDepth 20000 in
theorem kRL_13 : Cond.methodLink RL 13 yX3_walk ∈ z_T ∧ Cond.instanceMethod yX3_walk ∈ z_T ∧ Cond.selects yX3_walk.cls yX3_walk yX3_walk ∈ z_T := ⟨z_mem 188 rfl rfl, z_mem 189 rfl rfl, z_mem 190 rfl rfl⟩
set_option maxRecDepth 20000 in
theorem kRX3_70 : Cond.methodLink RX3 70 yX3_isPlace ∈ z_T ∧ Cond.static yX3_isPlace ∈ z_T := ⟨z_mem 192 rfl rfl, z_mem 193 rfl rfl⟩
set_option maxRecDepth 20000 in
theorem kRX3_74 : Cond.methodLink RX3 74 yX0_joins ∈ z_T ∧ Cond.instanceMethod yX0_joins ∈ z_T ∧ Cond.selects yX0_joins.cls yX0_joins yX0_joins ∈ z_T := ⟨z_mem 195 rfl rfl, z_mem 196 rfl rfl, z_mem 197 rfl rfl⟩
set_option maxRecDepth 20000 in
theorem kRX0_37 : Cond.methodLink RX0 37 Lib.Math.min.name ∈ z_T ∧ Cond.static Lib.Math.min.name ∈ z_T ∧ Cond.initialized "java/lang/Math" ∈ z_T ∧ Cond.code Lib.Math.min.name Lib.Math.min.code 2 (some .int) ∈ z_T := ⟨z_mem 199 rfl rfl, z_mem 200 rfl rfl, z_mem 42 rfl rfl, z_mem 201 rfl rfl⟩
set_option maxRecDepth 20000 in
theorem kRX0_43 : Cond.methodLink RX0 43 Lib.Math.max.name ∈ z_T ∧ Cond.static Lib.Math.max.name ∈ z_T ∧ Cond.initialized "java/lang/Math" ∈ z_T ∧ Cond.code Lib.Math.max.name Lib.Math.max.code 2 (some .int) ∈ z_T := ⟨z_mem 202 rfl rfl, z_mem 203 rfl rfl, z_mem 42 rfl rfl, z_mem 204 rfl rfl⟩
set_option maxRecDepth 20000 in
theorem kRX3_81 : Cond.methodLink RX3 81 yX0_add ∈ z_T ∧ Cond.instanceMethod yX0_add ∈ z_T ∧ Cond.selects yX0_add.cls yX0_add yX0_add ∈ z_T := ⟨z_mem 205 rfl rfl, z_mem 206 rfl rfl, z_mem 207 rfl rfl⟩
set_option maxRecDepth 20000 in
theorem kRX0_46 : Cond.methodLink RX0 46 yX0_turn ∈ z_T ∧ Cond.instanceMethod yX0_turn ∈ z_T ∧ Cond.selects yX0_turn.cls yX0_turn yX0_turn ∈ z_T := ⟨z_mem 209 rfl rfl, z_mem 210 rfl rfl, z_mem 211 rfl rfl⟩
set_option maxRecDepth 20000 in
theorem kRL_18 : Cond.methodLink RL 18 yX3_unwalk ∈ z_T ∧ Cond.instanceMethod yX3_unwalk ∈ z_T ∧ Cond.selects yX3_unwalk.cls yX3_unwalk yX3_unwalk ∈ z_T := ⟨z_mem 213 rfl rfl, z_mem 214 rfl rfl, z_mem 215 rfl rfl⟩
set_option maxRecDepth 20000 in
theorem kRX3_85 : Cond.methodLink RX3 85 yX0_removeLast ∈ z_T ∧ Cond.instanceMethod yX0_removeLast ∈ z_T ∧ Cond.selects yX0_removeLast.cls yX0_removeLast yX0_removeLast ∈ z_T := ⟨z_mem 217 rfl rfl, z_mem 218 rfl rfl, z_mem 219 rfl rfl⟩
set_option maxRecDepth 20000 in
theorem kRL_23 : Cond.methodLink RL 23 yX3_open ∈ z_T ∧ Cond.instanceMethod yX3_open ∈ z_T ∧ Cond.selects yX3_open.cls yX3_open yX3_open ∈ z_T := ⟨z_mem 221 rfl rfl, z_mem 222 rfl rfl, z_mem 223 rfl rfl⟩
set_option maxRecDepth 20000 in
theorem kRX3_89 : Cond.methodLink RX3 89 yX0_has ∈ z_T ∧ Cond.instanceMethod yX0_has ∈ z_T ∧ Cond.selects yX0_has.cls yX0_has yX0_has ∈ z_T := ⟨z_mem 225 rfl rfl, z_mem 226 rfl rfl, z_mem 227 rfl rfl⟩
set_option maxRecDepth 20000 in
theorem kRX3_92 : Cond.methodLink RX3 92 yX0_turn ∈ z_T ∧ Cond.instanceMethod yX0_turn ∈ z_T ∧ Cond.selects yX0_turn.cls yX0_turn yX0_turn ∈ z_T := ⟨z_mem 229 rfl rfl, z_mem 210 rfl rfl, z_mem 211 rfl rfl⟩
set_option maxRecDepth 20000 in
theorem kRL_28 : Cond.methodLink RL 28 yX3_ofWalk ∈ z_T ∧ Cond.instanceMethod yX3_ofWalk ∈ z_T ∧ Cond.selects yX3_ofWalk.cls yX3_ofWalk yX3_ofWalk ∈ z_T := ⟨z_mem 230 rfl rfl, z_mem 231 rfl rfl, z_mem 232 rfl rfl⟩
set_option maxRecDepth 20000 in
theorem kRL_33 : Cond.methodLink RL 33 yX3_name ∈ z_T ∧ Cond.instanceMethod yX3_name ∈ z_T ∧ Cond.selects yX3_name.cls yX3_name yX3_name ∈ z_T := ⟨z_mem 234 rfl rfl, z_mem 235 rfl rfl, z_mem 236 rfl rfl⟩
set_option maxRecDepth 20000 in
theorem kRL_38 : Cond.methodLink RL 38 yX3_moves ∈ z_T ∧ Cond.instanceMethod yX3_moves ∈ z_T ∧ Cond.selects yX3_moves.cls yX3_moves yX3_moves ∈ z_T := ⟨z_mem 238 rfl rfl, z_mem 239 rfl rfl, z_mem 240 rfl rfl⟩
set_option maxRecDepth 20000 in
theorem kRX3_109 : Cond.methodLink RX3 109 yX3_isName ∈ z_T ∧ Cond.instanceMethod yX3_isName ∈ z_T ∧ Cond.selects yX3_isName.cls yX3_isName yX3_isName ∈ z_T := ⟨z_mem 242 rfl rfl, z_mem 244 rfl rfl, z_mem 0 rfl rfl⟩
set_option maxRecDepth 20000 in
theorem kRL_42 : Cond.methodLink RL 42 yX3_entrance ∈ z_T ∧ Cond.instanceMethod yX3_entrance ∈ z_T ∧ Cond.selects yX3_entrance.cls yX3_entrance yX3_entrance ∈ z_T := ⟨z_mem 246 rfl rfl, z_mem 247 rfl rfl, z_mem 248 rfl rfl⟩
set_option maxRecDepth 20000 in
theorem kRX3_112 : Cond.methodLink RX3 112 yX3_holds ∈ z_T ∧ Cond.static yX3_holds ∈ z_T := ⟨z_mem 250 rfl rfl, z_mem 251 rfl rfl⟩
set_option maxRecDepth 20000 in
theorem kRL_46 : Cond.methodLink RL 46 yX3_detour ∈ z_T ∧ Cond.instanceMethod yX3_detour ∈ z_T ∧ Cond.selects yX3_detour.cls yX3_detour yX3_detour ∈ z_T := ⟨z_mem 253 rfl rfl, z_mem 254 rfl rfl, z_mem 255 rfl rfl⟩
set_option maxRecDepth 20000 in
theorem kRL_50 : Cond.methodLink RL 50 yX3_board ∈ z_T ∧ Cond.instanceMethod yX3_board ∈ z_T ∧ Cond.selects yX3_board.cls yX3_board yX3_board ∈ z_T := ⟨z_mem 257 rfl rfl, z_mem 258 rfl rfl, z_mem 259 rfl rfl⟩
set_option maxRecDepth 20000 in
theorem kRL_54 : Cond.methodLink RL 54 yX3_unboard ∈ z_T ∧ Cond.instanceMethod yX3_unboard ∈ z_T ∧ Cond.selects yX3_unboard.cls yX3_unboard yX3_unboard ∈ z_T := ⟨z_mem 261 rfl rfl, z_mem 262 rfl rfl, z_mem 263 rfl rfl⟩
set_option maxRecDepth 20000 in
theorem kRL_58 : Cond.methodLink RL 58 yX3_arrow ∈ z_T ∧ Cond.instanceMethod yX3_arrow ∈ z_T ∧ Cond.selects yX3_arrow.cls yX3_arrow yX3_arrow ∈ z_T := ⟨z_mem 265 rfl rfl, z_mem 266 rfl rfl, z_mem 267 rfl rfl⟩
set_option maxRecDepth 20000 in
theorem kRL_62 : Cond.methodLink RL 62 yX3_far ∈ z_T ∧ Cond.instanceMethod yX3_far ∈ z_T ∧ Cond.selects yX3_far.cls yX3_far yX3_far ∈ z_T := ⟨z_mem 269 rfl rfl, z_mem 270 rfl rfl, z_mem 271 rfl rfl⟩
set_option maxRecDepth 20000 in
theorem kRX3_115 : Cond.methodLink RX3 115 yX2_draw ∈ z_T ∧ Cond.instanceMethod yX2_draw ∈ z_T ∧ Cond.selects yX2_draw.cls yX2_draw yX2_draw ∈ z_T := ⟨z_mem 273 rfl rfl, z_mem 274 rfl rfl, z_mem 275 rfl rfl⟩
set_option maxRecDepth 20000 in
theorem kRX2_23 : Cond.methodLink RX2 23 yX2_measure ∈ z_T ∧ Cond.static yX2_measure ∈ z_T := ⟨z_mem 277 rfl rfl, z_mem 278 rfl rfl⟩
set_option maxRecDepth 20000 in
theorem kRX2_31 : Cond.methodLink RX2 31 yJ7_fill_53178 ∈ z_T ∧ Cond.static yJ7_fill_53178 ∈ z_T := ⟨z_mem 280 rfl rfl, z_mem 146 rfl rfl⟩
set_option maxRecDepth 20000 in
theorem kRX2_56 : Cond.methodLink RX2 56 yX2_shorten ∈ z_T ∧ Cond.static yX2_shorten ∈ z_T := ⟨z_mem 281 rfl rfl, z_mem 282 rfl rfl⟩
set_option maxRecDepth 20000 in
theorem kRX2_27 : Cond.methodLink RX2 27 yX2_bestAt ∈ z_T ∧ Cond.static yX2_bestAt ∈ z_T := ⟨z_mem 284 rfl rfl, z_mem 285 rfl rfl⟩
set_option maxRecDepth 20000 in
theorem kRL_66 : Cond.methodLink RL 66 yX3_from ∈ z_T ∧ Cond.instanceMethod yX3_from ∈ z_T ∧ Cond.selects yX3_from.cls yX3_from yX3_from ∈ z_T := ⟨z_mem 287 rfl rfl, z_mem 288 rfl rfl, z_mem 289 rfl rfl⟩
set_option maxRecDepth 20000 in
theorem kRL_70 : Cond.methodLink RL 70 yX3_follow ∈ z_T ∧ Cond.instanceMethod yX3_follow ∈ z_T ∧ Cond.selects yX3_follow.cls yX3_follow yX3_follow ∈ z_T := ⟨z_mem 291 rfl rfl, z_mem 292 rfl rfl, z_mem 293 rfl rfl⟩
set_option maxRecDepth 20000 in
theorem kRX3_128 : Cond.methodLink RX3 128 yX1_go ∈ z_T ∧ Cond.instanceMethod yX1_go ∈ z_T ∧ Cond.selects yX1_go.cls yX1_go yX1_go ∈ z_T := ⟨z_mem 295 rfl rfl, z_mem 296 rfl rfl, z_mem 297 rfl rfl⟩
set_option maxRecDepth 20000 in
theorem kRX1_28 : Cond.methodLink RX1 28 yJ7_fill_53178 ∈ z_T ∧ Cond.static yJ7_fill_53178 ∈ z_T := ⟨z_mem 299 rfl rfl, z_mem 146 rfl rfl⟩
set_option maxRecDepth 20000 in
theorem kRX1_34 : Cond.methodLink RX1 34 yX1_nextFrom ∈ z_T ∧ Cond.static yX1_nextFrom ∈ z_T := ⟨z_mem 300 rfl rfl, z_mem 301 rfl rfl⟩
set_option maxRecDepth 20000 in
theorem kRX1_51 : Cond.methodLink RX1 51 yJ6_bitCount_0f7a4 ∈ z_T ∧ Cond.static yJ6_bitCount_0f7a4 ∈ z_T := ⟨z_mem 304 rfl rfl, z_mem 305 rfl rfl⟩
set_option maxRecDepth 20000 in
theorem kRX3_141 : Cond.methodLink RX3 141 yX1_placeAt ∈ z_T ∧ Cond.instanceMethod yX1_placeAt ∈ z_T ∧ Cond.selects yX1_placeAt.cls yX1_placeAt yX1_placeAt ∈ z_T := ⟨z_mem 310 rfl rfl, z_mem 311 rfl rfl, z_mem 312 rfl rfl⟩
set_option maxRecDepth 20000 in
theorem kRL_74 : Cond.methodLink RL 74 yX3_ends ∈ z_T ∧ Cond.instanceMethod yX3_ends ∈ z_T ∧ Cond.selects yX3_ends.cls yX3_ends yX3_ends ∈ z_T := ⟨z_mem 314 rfl rfl, z_mem 315 rfl rfl, z_mem 316 rfl rfl⟩
set_option maxRecDepth 20000 in
theorem kRX3_145 : Cond.methodLink RX3 145 yX3_isEnding ∈ z_T ∧ Cond.static yX3_isEnding ∈ z_T := ⟨z_mem 318 rfl rfl, z_mem 319 rfl rfl⟩
set_option maxRecDepth 20000 in
theorem kRX3_148 : Cond.methodLink RX3 148 yX3_countEndings ∈ z_T ∧ Cond.instanceMethod yX3_countEndings ∈ z_T ∧ Cond.selects yX3_countEndings.cls yX3_countEndings yX3_countEndings ∈ z_T := ⟨z_mem 321 rfl rfl, z_mem 323 rfl rfl, z_mem 1 rfl rfl⟩
set_option maxRecDepth 20000 in
theorem kRL_78 : Cond.methodLink RL 78 yX3_those ∈ z_T ∧ Cond.instanceMethod yX3_those ∈ z_T ∧ Cond.selects yX3_those.cls yX3_those yX3_those ∈ z_T := ⟨z_mem 325 rfl rfl, z_mem 326 rfl rfl, z_mem 327 rfl rfl⟩
set_option maxRecDepth 20000 in
theorem kRL_82 : Cond.methodLink RL 82 yX3_idle ∈ z_T ∧ Cond.instanceMethod yX3_idle ∈ z_T ∧ Cond.selects yX3_idle.cls yX3_idle yX3_idle ∈ z_T := ⟨z_mem 329 rfl rfl, z_mem 330 rfl rfl, z_mem 331 rfl rfl⟩
set_option maxRecDepth 20000 in
theorem kRX3_152 : Cond.methodLink RX3 152 yX3_isIdle ∈ z_T ∧ Cond.instanceMethod yX3_isIdle ∈ z_T ∧ Cond.selects yX3_isIdle.cls yX3_isIdle yX3_isIdle ∈ z_T := ⟨z_mem 333 rfl rfl, z_mem 335 rfl rfl, z_mem 2 rfl rfl⟩
set_option maxRecDepth 20000 in
theorem kRX3_188 : Cond.methodLink RX3 188 yX1_wentLike ∈ z_T ∧ Cond.instanceMethod yX1_wentLike ∈ z_T ∧ Cond.selects yX1_wentLike.cls yX1_wentLike yX1_wentLike ∈ z_T := ⟨z_mem 340 rfl rfl, z_mem 341 rfl rfl, z_mem 342 rfl rfl⟩
set_option maxRecDepth 20000 in
theorem kRL_86 : Cond.methodLink RL 86 yX3_mend ∈ z_T ∧ Cond.instanceMethod yX3_mend ∈ z_T ∧ Cond.selects yX3_mend.cls yX3_mend yX3_mend ∈ z_T := ⟨z_mem 344 rfl rfl, z_mem 345 rfl rfl, z_mem 346 rfl rfl⟩
set_option maxRecDepth 20000 in
theorem kRX3_155 : Cond.methodLink RX3 155 yX3_findMend ∈ z_T ∧ Cond.instanceMethod yX3_findMend ∈ z_T ∧ Cond.selects yX3_findMend.cls yX3_findMend yX3_findMend ∈ z_T := ⟨z_mem 348 rfl rfl, z_mem 350 rfl rfl, z_mem 3 rfl rfl⟩
set_option maxRecDepth 20000 in
theorem kRX3_192 : Cond.methodLink RX3 192 yX3_ends ∈ z_T ∧ Cond.instanceMethod yX3_ends ∈ z_T ∧ Cond.selects yX3_ends.cls yX3_ends yX3_ends ∈ z_T := ⟨z_mem 352 rfl rfl, z_mem 315 rfl rfl, z_mem 316 rfl rfl⟩
set_option maxRecDepth 20000 in
theorem kRX3_198 : Cond.methodLink RX3 198 yX3_offerMend ∈ z_T ∧ Cond.instanceMethod yX3_offerMend ∈ z_T ∧ Cond.selects yX3_offerMend.cls yX3_offerMend yX3_offerMend ∈ z_T := ⟨z_mem 353 rfl rfl, z_mem 355 rfl rfl, z_mem 4 rfl rfl⟩
set_option maxRecDepth 20000 in
theorem kRL_90 : Cond.methodLink RL 90 yX3_leads ∈ z_T ∧ Cond.instanceMethod yX3_leads ∈ z_T ∧ Cond.selects yX3_leads.cls yX3_leads yX3_leads ∈ z_T := ⟨z_mem 357 rfl rfl, z_mem 358 rfl rfl, z_mem 359 rfl rfl⟩
set_option maxRecDepth 20000 in
theorem kRX3_158 : Cond.methodLink RX3 158 yX3_wouldLead ∈ z_T ∧ Cond.instanceMethod yX3_wouldLead ∈ z_T ∧ Cond.selects yX3_wouldLead.cls yX3_wouldLead yX3_wouldLead ∈ z_T := ⟨z_mem 361 rfl rfl, z_mem 363 rfl rfl, z_mem 5 rfl rfl⟩
set_option maxRecDepth 20000 in
theorem kRL_94 : Cond.methodLink RL 94 yX3_fewest ∈ z_T ∧ Cond.instanceMethod yX3_fewest ∈ z_T ∧ Cond.selects yX3_fewest.cls yX3_fewest yX3_fewest ∈ z_T := ⟨z_mem 365 rfl rfl, z_mem 366 rfl rfl, z_mem 367 rfl rfl⟩
set_option maxRecDepth 20000 in
theorem kRX3_161 : Cond.methodLink RX3 161 yX3_leastSet ∈ z_T ∧ Cond.instanceMethod yX3_leastSet ∈ z_T ∧ Cond.selects yX3_leastSet.cls yX3_leastSet yX3_leastSet ∈ z_T := ⟨z_mem 369 rfl rfl, z_mem 371 rfl rfl, z_mem 6 rfl rfl⟩
set_option maxRecDepth 20000 in
theorem kRX3_202 : Cond.methodLink RX3 202 yX3_choicesOnBestWays ∈ z_T ∧ Cond.instanceMethod yX3_choicesOnBestWays ∈ z_T ∧ Cond.selects yX3_choicesOnBestWays.cls yX3_choicesOnBestWays yX3_choicesOnBestWays ∈ z_T := ⟨z_mem 373 rfl rfl, z_mem 375 rfl rfl, z_mem 7 rfl rfl⟩
set_option maxRecDepth 20000 in
theorem kRX3_205 : Cond.methodLink RX3 205 yX3_choicesFrom ∈ z_T ∧ Cond.instanceMethod yX3_choicesFrom ∈ z_T ∧ Cond.selects yX3_choicesFrom.cls yX3_choicesFrom yX3_choicesFrom ∈ z_T := ⟨z_mem 377 rfl rfl, z_mem 379 rfl rfl, z_mem 8 rfl rfl⟩
set_option maxRecDepth 20000 in
theorem kRX3_168 : Cond.methodLink RX3 168 yJ6_bitCount_0f7a4 ∈ z_T ∧ Cond.static yJ6_bitCount_0f7a4 ∈ z_T := ⟨z_mem 381 rfl rfl, z_mem 305 rfl rfl⟩
set_option maxRecDepth 20000 in
theorem kRL_98 : Cond.methodLink RL 98 yX3_posts ∈ z_T ∧ Cond.instanceMethod yX3_posts ∈ z_T ∧ Cond.selects yX3_posts.cls yX3_posts yX3_posts ∈ z_T := ⟨z_mem 382 rfl rfl, z_mem 383 rfl rfl, z_mem 384 rfl rfl⟩
set_option maxRecDepth 20000 in
theorem kRL_102 : Cond.methodLink RL 102 yX3_many ∈ z_T ∧ Cond.instanceMethod yX3_many ∈ z_T ∧ Cond.selects yX3_many.cls yX3_many yX3_many ∈ z_T := ⟨z_mem 386 rfl rfl, z_mem 387 rfl rfl, z_mem 388 rfl rfl⟩
set_option maxRecDepth 20000 in
theorem kRX3_165 : Cond.methodLink RX3 165 yX0_countOpen ∈ z_T ∧ Cond.instanceMethod yX0_countOpen ∈ z_T ∧ Cond.selects yX0_countOpen.cls yX0_countOpen yX0_countOpen ∈ z_T := ⟨z_mem 390 rfl rfl, z_mem 391 rfl rfl, z_mem 392 rfl rfl⟩
set_option maxRecDepth 20000 in
theorem kRX3_173 : Cond.methodLink RX3 173 yX3_countBoards ∈ z_T ∧ Cond.instanceMethod yX3_countBoards ∈ z_T ∧ Cond.selects yX3_countBoards.cls yX3_countBoards yX3_countBoards ∈ z_T := ⟨z_mem 394 rfl rfl, z_mem 396 rfl rfl, z_mem 9 rfl rfl⟩
set_option maxRecDepth 20000 in
theorem kRX3_179 : Cond.methodLink RX3 179 yX3_boardedFor ∈ z_T ∧ Cond.instanceMethod yX3_boardedFor ∈ z_T ∧ Cond.selects yX3_boardedFor.cls yX3_boardedFor yX3_boardedFor ∈ z_T := ⟨z_mem 398 rfl rfl, z_mem 400 rfl rfl, z_mem 10 rfl rfl⟩
set_option maxRecDepth 20000 in
theorem kRX3_176 : Cond.methodLink RX3 176 yX3_boardedPlaces ∈ z_T ∧ Cond.instanceMethod yX3_boardedPlaces ∈ z_T ∧ Cond.selects yX3_boardedPlaces.cls yX3_boardedPlaces yX3_boardedPlaces ∈ z_T := ⟨z_mem 402 rfl rfl, z_mem 404 rfl rfl, z_mem 11 rfl rfl⟩
set_option maxRecDepth 20000 in
theorem kRL_17 : Cond.methodLink RL 17 yX4_walk ∈ z_T ∧ Cond.instanceMethod yX4_walk ∈ z_T ∧ Cond.selects yX4_walk.cls yX4_walk yX4_walk ∈ z_T := ⟨z_mem 476 rfl rfl, z_mem 477 rfl rfl, z_mem 478 rfl rfl⟩
set_option maxRecDepth 20000 in
theorem kRX4_62 : Cond.methodLink RX4 62 yX4_isPlace ∈ z_T ∧ Cond.static yX4_isPlace ∈ z_T := ⟨z_mem 480 rfl rfl, z_mem 481 rfl rfl⟩
set_option maxRecDepth 20000 in
theorem kRX4_47 : Cond.methodLink RX4 47 yX4_within ∈ z_T ∧ Cond.static yX4_within ∈ z_T := ⟨z_mem 483 rfl rfl, z_mem 484 rfl rfl⟩
set_option maxRecDepth 20000 in
theorem kRX4_58 : Cond.methodLink RX4 58 yX4_walkBetween ∈ z_T ∧ Cond.instanceMethod yX4_walkBetween ∈ z_T ∧ Cond.selects yX4_walkBetween.cls yX4_walkBetween yX4_walkBetween ∈ z_T := ⟨z_mem 486 rfl rfl, z_mem 488 rfl rfl, z_mem 12 rfl rfl⟩
set_option maxRecDepth 20000 in
theorem kRL_22 : Cond.methodLink RL 22 yX4_unwalk ∈ z_T ∧ Cond.instanceMethod yX4_unwalk ∈ z_T ∧ Cond.selects yX4_unwalk.cls yX4_unwalk yX4_unwalk ∈ z_T := ⟨z_mem 490 rfl rfl, z_mem 491 rfl rfl, z_mem 492 rfl rfl⟩
set_option maxRecDepth 20000 in
theorem kRL_27 : Cond.methodLink RL 27 yX4_open ∈ z_T ∧ Cond.instanceMethod yX4_open ∈ z_T ∧ Cond.selects yX4_open.cls yX4_open yX4_open ∈ z_T := ⟨z_mem 494 rfl rfl, z_mem 495 rfl rfl, z_mem 496 rfl rfl⟩
set_option maxRecDepth 20000 in
theorem kRX4_66 : Cond.methodLink RX4 66 yX4_isWalk ∈ z_T ∧ Cond.instanceMethod yX4_isWalk ∈ z_T ∧ Cond.selects yX4_isWalk.cls yX4_isWalk yX4_isWalk ∈ z_T := ⟨z_mem 498 rfl rfl, z_mem 500 rfl rfl, z_mem 13 rfl rfl⟩
set_option maxRecDepth 20000 in
theorem kRL_32 : Cond.methodLink RL 32 yX4_ofWalk ∈ z_T ∧ Cond.instanceMethod yX4_ofWalk ∈ z_T ∧ Cond.selects yX4_ofWalk.cls yX4_ofWalk yX4_ofWalk ∈ z_T := ⟨z_mem 502 rfl rfl, z_mem 503 rfl rfl, z_mem 504 rfl rfl⟩
set_option maxRecDepth 20000 in
theorem kRL_37 : Cond.methodLink RL 37 yX4_name ∈ z_T ∧ Cond.instanceMethod yX4_name ∈ z_T ∧ Cond.selects yX4_name.cls yX4_name yX4_name ∈ z_T := ⟨z_mem 506 rfl rfl, z_mem 507 rfl rfl, z_mem 508 rfl rfl⟩
set_option maxRecDepth 20000 in
theorem kRL_41 : Cond.methodLink RL 41 yX4_moves ∈ z_T ∧ Cond.instanceMethod yX4_moves ∈ z_T ∧ Cond.selects yX4_moves.cls yX4_moves yX4_moves ∈ z_T := ⟨z_mem 510 rfl rfl, z_mem 511 rfl rfl, z_mem 512 rfl rfl⟩
set_option maxRecDepth 20000 in
theorem kRX4_69 : Cond.methodLink RX4 69 yX4_isName ∈ z_T ∧ Cond.instanceMethod yX4_isName ∈ z_T ∧ Cond.selects yX4_isName.cls yX4_isName yX4_isName ∈ z_T := ⟨z_mem 514 rfl rfl, z_mem 516 rfl rfl, z_mem 14 rfl rfl⟩
set_option maxRecDepth 20000 in
theorem kRL_45 : Cond.methodLink RL 45 yX4_entrance ∈ z_T ∧ Cond.instanceMethod yX4_entrance ∈ z_T ∧ Cond.selects yX4_entrance.cls yX4_entrance yX4_entrance ∈ z_T := ⟨z_mem 518 rfl rfl, z_mem 519 rfl rfl, z_mem 520 rfl rfl⟩
set_option maxRecDepth 20000 in
theorem kRX4_75 : Cond.methodLink RX4 75 yX4_isIn ∈ z_T ∧ Cond.static yX4_isIn ∈ z_T := ⟨z_mem 522 rfl rfl, z_mem 523 rfl rfl⟩
set_option maxRecDepth 20000 in
theorem kRL_49 : Cond.methodLink RL 49 yX4_detour ∈ z_T ∧ Cond.instanceMethod yX4_detour ∈ z_T ∧ Cond.selects yX4_detour.cls yX4_detour yX4_detour ∈ z_T := ⟨z_mem 525 rfl rfl, z_mem 526 rfl rfl, z_mem 527 rfl rfl⟩
set_option maxRecDepth 20000 in
theorem kRL_53 : Cond.methodLink RL 53 yX4_board ∈ z_T ∧ Cond.instanceMethod yX4_board ∈ z_T ∧ Cond.selects yX4_board.cls yX4_board yX4_board ∈ z_T := ⟨z_mem 529 rfl rfl, z_mem 530 rfl rfl, z_mem 531 rfl rfl⟩
set_option maxRecDepth 20000 in
theorem kRL_57 : Cond.methodLink RL 57 yX4_unboard ∈ z_T ∧ Cond.instanceMethod yX4_unboard ∈ z_T ∧ Cond.selects yX4_unboard.cls yX4_unboard yX4_unboard ∈ z_T := ⟨z_mem 533 rfl rfl, z_mem 534 rfl rfl, z_mem 535 rfl rfl⟩
set_option maxRecDepth 20000 in
theorem kRL_61 : Cond.methodLink RL 61 yX4_arrow ∈ z_T ∧ Cond.instanceMethod yX4_arrow ∈ z_T ∧ Cond.selects yX4_arrow.cls yX4_arrow yX4_arrow ∈ z_T := ⟨z_mem 537 rfl rfl, z_mem 538 rfl rfl, z_mem 539 rfl rfl⟩
set_option maxRecDepth 20000 in
theorem kRL_65 : Cond.methodLink RL 65 yX4_far ∈ z_T ∧ Cond.instanceMethod yX4_far ∈ z_T ∧ Cond.selects yX4_far.cls yX4_far yX4_far ∈ z_T := ⟨z_mem 541 rfl rfl, z_mem 542 rfl rfl, z_mem 543 rfl rfl⟩
set_option maxRecDepth 20000 in
theorem kRX4_90 : Cond.methodLink RX4 90 yX4_findFar ∈ z_T ∧ Cond.instanceMethod yX4_findFar ∈ z_T ∧ Cond.selects yX4_findFar.cls yX4_findFar yX4_findFar ∈ z_T := ⟨z_mem 545 rfl rfl, z_mem 547 rfl rfl, z_mem 15 rfl rfl⟩
set_option maxRecDepth 20000 in
theorem kRX4_83 : Cond.methodLink RX4 83 yX4_draws ∈ z_T ∧ Cond.instanceMethod yX4_draws ∈ z_T ∧ Cond.selects yX4_draws.cls yX4_draws yX4_draws ∈ z_T := ⟨z_mem 550 rfl rfl, z_mem 552 rfl rfl, z_mem 16 rfl rfl⟩
set_option maxRecDepth 20000 in
theorem kRX4_94 : Cond.methodLink RX4 94 yX4_bestAt ∈ z_T ∧ Cond.instanceMethod yX4_bestAt ∈ z_T ∧ Cond.selects yX4_bestAt.cls yX4_bestAt yX4_bestAt ∈ z_T := ⟨z_mem 554 rfl rfl, z_mem 556 rfl rfl, z_mem 17 rfl rfl⟩
set_option maxRecDepth 20000 in
theorem kRX4_87 : Cond.methodLink RX4 87 yX4_openBetween ∈ z_T ∧ Cond.instanceMethod yX4_openBetween ∈ z_T ∧ Cond.selects yX4_openBetween.cls yX4_openBetween yX4_openBetween ∈ z_T := ⟨z_mem 558 rfl rfl, z_mem 560 rfl rfl, z_mem 18 rfl rfl⟩
set_option maxRecDepth 20000 in
theorem kRL_69 : Cond.methodLink RL 69 yX4_from ∈ z_T ∧ Cond.instanceMethod yX4_from ∈ z_T ∧ Cond.selects yX4_from.cls yX4_from yX4_from ∈ z_T := ⟨z_mem 562 rfl rfl, z_mem 563 rfl rfl, z_mem 564 rfl rfl⟩
set_option maxRecDepth 20000 in
theorem kRL_73 : Cond.methodLink RL 73 yX4_follow ∈ z_T ∧ Cond.instanceMethod yX4_follow ∈ z_T ∧ Cond.selects yX4_follow.cls yX4_follow yX4_follow ∈ z_T := ⟨z_mem 566 rfl rfl, z_mem 567 rfl rfl, z_mem 568 rfl rfl⟩
set_option maxRecDepth 20000 in
theorem kRX4_116 : Cond.methodLink RX4 116 yX4_laysArrows ∈ z_T ∧ Cond.instanceMethod yX4_laysArrows ∈ z_T ∧ Cond.selects yX4_laysArrows.cls yX4_laysArrows yX4_laysArrows ∈ z_T := ⟨z_mem 570 rfl rfl, z_mem 572 rfl rfl, z_mem 19 rfl rfl⟩
set_option maxRecDepth 20000 in
theorem kRX4_119 : Cond.methodLink RX4 119 yX4_follows ∈ z_T ∧ Cond.instanceMethod yX4_follows ∈ z_T ∧ Cond.selects yX4_follows.cls yX4_follows yX4_follows ∈ z_T := ⟨z_mem 574 rfl rfl, z_mem 576 rfl rfl, z_mem 20 rfl rfl⟩
set_option maxRecDepth 20000 in
theorem kRX4_113 : Cond.methodLink RX4 113 yX4_nextWalk ∈ z_T ∧ Cond.instanceMethod yX4_nextWalk ∈ z_T ∧ Cond.selects yX4_nextWalk.cls yX4_nextWalk yX4_nextWalk ∈ z_T := ⟨z_mem 578 rfl rfl, z_mem 580 rfl rfl, z_mem 21 rfl rfl⟩
set_option maxRecDepth 20000 in
theorem kRX4_104 : Cond.methodLink RX4 104 yX4_onlyWalk ∈ z_T ∧ Cond.instanceMethod yX4_onlyWalk ∈ z_T ∧ Cond.selects yX4_onlyWalk.cls yX4_onlyWalk yX4_onlyWalk ∈ z_T := ⟨z_mem 582 rfl rfl, z_mem 584 rfl rfl, z_mem 22 rfl rfl⟩
set_option maxRecDepth 20000 in
theorem kRX4_98 : Cond.methodLink RX4 98 yX4_touches ∈ z_T ∧ Cond.instanceMethod yX4_touches ∈ z_T ∧ Cond.selects yX4_touches.cls yX4_touches yX4_touches ∈ z_T := ⟨z_mem 586 rfl rfl, z_mem 588 rfl rfl, z_mem 23 rfl rfl⟩
set_option maxRecDepth 20000 in
theorem kRL_77 : Cond.methodLink RL 77 yX4_ends ∈ z_T ∧ Cond.instanceMethod yX4_ends ∈ z_T ∧ Cond.selects yX4_ends.cls yX4_ends yX4_ends ∈ z_T := ⟨z_mem 590 rfl rfl, z_mem 591 rfl rfl, z_mem 592 rfl rfl⟩
set_option maxRecDepth 20000 in
theorem kRX4_123 : Cond.methodLink RX4 123 yX4_manyEnd ∈ z_T ∧ Cond.instanceMethod yX4_manyEnd ∈ z_T ∧ Cond.selects yX4_manyEnd.cls yX4_manyEnd yX4_manyEnd ∈ z_T := ⟨z_mem 594 rfl rfl, z_mem 596 rfl rfl, z_mem 24 rfl rfl⟩
set_option maxRecDepth 20000 in
theorem kRL_81 : Cond.methodLink RL 81 yX4_those ∈ z_T ∧ Cond.instanceMethod yX4_those ∈ z_T ∧ Cond.selects yX4_those.cls yX4_those yX4_those ∈ z_T := ⟨z_mem 598 rfl rfl, z_mem 599 rfl rfl, z_mem 600 rfl rfl⟩
set_option maxRecDepth 20000 in
theorem kRL_85 : Cond.methodLink RL 85 yX4_idle ∈ z_T ∧ Cond.instanceMethod yX4_idle ∈ z_T ∧ Cond.selects yX4_idle.cls yX4_idle yX4_idle ∈ z_T := ⟨z_mem 602 rfl rfl, z_mem 603 rfl rfl, z_mem 604 rfl rfl⟩
set_option maxRecDepth 20000 in
theorem kRX4_139 : Cond.methodLink RX4 139 yX4_isIdle ∈ z_T ∧ Cond.instanceMethod yX4_isIdle ∈ z_T ∧ Cond.selects yX4_isIdle.cls yX4_isIdle yX4_isIdle ∈ z_T := ⟨z_mem 606 rfl rfl, z_mem 608 rfl rfl, z_mem 25 rfl rfl⟩
set_option maxRecDepth 20000 in
theorem kRX4_132 : Cond.methodLink RX4 132 yX4_keeps ∈ z_T ∧ Cond.instanceMethod yX4_keeps ∈ z_T ∧ Cond.selects yX4_keeps.cls yX4_keeps yX4_keeps ∈ z_T := ⟨z_mem 610 rfl rfl, z_mem 612 rfl rfl, z_mem 26 rfl rfl⟩
set_option maxRecDepth 20000 in
theorem kRX4_135 : Cond.methodLink RX4 135 yX4_isAsKept ∈ z_T ∧ Cond.instanceMethod yX4_isAsKept ∈ z_T ∧ Cond.selects yX4_isAsKept.cls yX4_isAsKept yX4_isAsKept ∈ z_T := ⟨z_mem 614 rfl rfl, z_mem 616 rfl rfl, z_mem 27 rfl rfl⟩
set_option maxRecDepth 20000 in
theorem kRL_89 : Cond.methodLink RL 89 yX4_mend ∈ z_T ∧ Cond.instanceMethod yX4_mend ∈ z_T ∧ Cond.selects yX4_mend.cls yX4_mend yX4_mend ∈ z_T := ⟨z_mem 618 rfl rfl, z_mem 619 rfl rfl, z_mem 620 rfl rfl⟩
set_option maxRecDepth 20000 in
theorem kRX4_142 : Cond.methodLink RX4 142 yX4_ends ∈ z_T ∧ Cond.instanceMethod yX4_ends ∈ z_T ∧ Cond.selects yX4_ends.cls yX4_ends yX4_ends ∈ z_T := ⟨z_mem 622 rfl rfl, z_mem 591 rfl rfl, z_mem 592 rfl rfl⟩
set_option maxRecDepth 20000 in
theorem kRX4_145 : Cond.methodLink RX4 145 yX4_moreBy ∈ z_T ∧ Cond.instanceMethod yX4_moreBy ∈ z_T ∧ Cond.selects yX4_moreBy.cls yX4_moreBy yX4_moreBy ∈ z_T := ⟨z_mem 623 rfl rfl, z_mem 625 rfl rfl, z_mem 28 rfl rfl⟩
set_option maxRecDepth 20000 in
theorem kRL_93 : Cond.methodLink RL 93 yX4_leads ∈ z_T ∧ Cond.instanceMethod yX4_leads ∈ z_T ∧ Cond.selects yX4_leads.cls yX4_leads yX4_leads ∈ z_T := ⟨z_mem 627 rfl rfl, z_mem 628 rfl rfl, z_mem 629 rfl rfl⟩
set_option maxRecDepth 20000 in
theorem kRX4_154 : Cond.methodLink RX4 154 yX4_leadsTo ∈ z_T ∧ Cond.instanceMethod yX4_leadsTo ∈ z_T ∧ Cond.selects yX4_leadsTo.cls yX4_leadsTo yX4_leadsTo ∈ z_T := ⟨z_mem 631 rfl rfl, z_mem 633 rfl rfl, z_mem 29 rfl rfl⟩
set_option maxRecDepth 20000 in
theorem kRX4_148 : Cond.methodLink RX4 148 yX4_haveBest ∈ z_T ∧ Cond.instanceMethod yX4_haveBest ∈ z_T ∧ Cond.selects yX4_haveBest.cls yX4_haveBest yX4_haveBest ∈ z_T := ⟨z_mem 635 rfl rfl, z_mem 637 rfl rfl, z_mem 30 rfl rfl⟩
set_option maxRecDepth 20000 in
theorem kRX4_151 : Cond.methodLink RX4 151 yX4_doLead ∈ z_T ∧ Cond.instanceMethod yX4_doLead ∈ z_T ∧ Cond.selects yX4_doLead.cls yX4_doLead yX4_doLead ∈ z_T := ⟨z_mem 639 rfl rfl, z_mem 641 rfl rfl, z_mem 31 rfl rfl⟩
set_option maxRecDepth 20000 in
theorem kRL_97 : Cond.methodLink RL 97 yX4_fewest ∈ z_T ∧ Cond.instanceMethod yX4_fewest ∈ z_T ∧ Cond.selects yX4_fewest.cls yX4_fewest yX4_fewest ∈ z_T := ⟨z_mem 643 rfl rfl, z_mem 644 rfl rfl, z_mem 645 rfl rfl⟩
set_option maxRecDepth 20000 in
theorem kRX4_157 : Cond.methodLink RX4 157 yX4_manyOf ∈ z_T ∧ Cond.static yX4_manyOf ∈ z_T := ⟨z_mem 647 rfl rfl, z_mem 648 rfl rfl⟩
set_option maxRecDepth 20000 in
theorem kRL_101 : Cond.methodLink RL 101 yX4_posts ∈ z_T ∧ Cond.instanceMethod yX4_posts ∈ z_T ∧ Cond.selects yX4_posts.cls yX4_posts yX4_posts ∈ z_T := ⟨z_mem 650 rfl rfl, z_mem 651 rfl rfl, z_mem 652 rfl rfl⟩
set_option maxRecDepth 20000 in
theorem kRL_105 : Cond.methodLink RL 105 yX4_many ∈ z_T ∧ Cond.instanceMethod yX4_many ∈ z_T ∧ Cond.selects yX4_many.cls yX4_many yX4_many ∈ z_T := ⟨z_mem 654 rfl rfl, z_mem 655 rfl rfl, z_mem 656 rfl rfl⟩
set_option maxRecDepth 20000 in
theorem kRX4_163 : Cond.methodLink RX4 163 yX4_manyOpen ∈ z_T ∧ Cond.instanceMethod yX4_manyOpen ∈ z_T ∧ Cond.selects yX4_manyOpen.cls yX4_manyOpen yX4_manyOpen ∈ z_T := ⟨z_mem 658 rfl rfl, z_mem 660 rfl rfl, z_mem 32 rfl rfl⟩
set_option maxRecDepth 20000 in
theorem kRX4_167 : Cond.methodLink RX4 167 yX4_allBoards ∈ z_T ∧ Cond.instanceMethod yX4_allBoards ∈ z_T ∧ Cond.selects yX4_allBoards.cls yX4_allBoards yX4_allBoards ∈ z_T := ⟨z_mem 662 rfl rfl, z_mem 664 rfl rfl, z_mem 33 rfl rfl⟩
set_option maxRecDepth 20000 in
theorem kRX4_160 : Cond.methodLink RX4 160 yX4_manyBoards ∈ z_T ∧ Cond.instanceMethod yX4_manyBoards ∈ z_T ∧ Cond.selects yX4_manyBoards.cls yX4_manyBoards yX4_manyBoards ∈ z_T := ⟨z_mem 666 rfl rfl, z_mem 668 rfl rfl, z_mem 34 rfl rfl⟩
set_option maxRecDepth 20000 in
theorem kRX3_182 : Cond.methodLink RX3 182 arraycopyName ∈ z_T ∧ Cond.native arraycopyName ∈ z_T ∧ Cond.static arraycopyName ∈ z_T ∧ Cond.initialized "java/lang/System" ∈ z_T := ⟨z_mem 337 rfl rfl, z_mem 339 rfl rfl, z_mem 338 rfl rfl, z_mem 44 rfl rfl⟩
set_option maxRecDepth 20000 in
theorem kRX1_47 : Cond.static yX3_holds ∈ z_T := z_mem 251 rfl rfl
set_option maxRecDepth 20000 in
theorem fRX0_9 : z_F RX0 9 0 0 := ⟨_, _, _, rfl, by decide, wsX0, z_mem 61 rfl rfl⟩
set_option maxRecDepth 20000 in
theorem fRX2_47 : z_F RX2 47 0 0 := ⟨_, _, _, rfl, by decide, wsX0, z_mem 62 rfl rfl⟩
set_option maxRecDepth 20000 in
theorem fRX3_96 : z_F RX3 96 0 0 := ⟨_, _, _, rfl, by decide, wsX0, z_mem 63 rfl rfl⟩
set_option maxRecDepth 20000 in
theorem fRX0_15 : z_F RX0 15 0 1 := ⟨_, _, _, rfl, by decide, wsX0, z_mem 64 rfl rfl⟩
set_option maxRecDepth 20000 in
theorem fRX2_50 : z_F RX2 50 0 1 := ⟨_, _, _, rfl, by decide, wsX0, z_mem 65 rfl rfl⟩
set_option maxRecDepth 20000 in
theorem fRX3_99 : z_F RX3 99 0 1 := ⟨_, _, _, rfl, by decide, wsX0, z_mem 66 rfl rfl⟩
set_option maxRecDepth 20000 in
theorem fRX0_18 : z_F RX0 18 0 2 := ⟨_, _, _, rfl, by decide, wsX0, z_mem 67 rfl rfl⟩
set_option maxRecDepth 20000 in
theorem fRX2_53 : z_F RX2 53 0 2 := ⟨_, _, _, rfl, by decide, wsX0, z_mem 68 rfl rfl⟩
set_option maxRecDepth 20000 in
theorem fRX3_102 : z_F RX3 102 0 2 := ⟨_, _, _, rfl, by decide, wsX0, z_mem 69 rfl rfl⟩
set_option maxRecDepth 20000 in
theorem fRX0_21 : z_F RX0 21 0 3 := ⟨_, _, _, rfl, by decide, wsX0, z_mem 70 rfl rfl⟩
set_option maxRecDepth 20000 in
theorem fRX2_43 : z_F RX2 43 0 3 := ⟨_, _, _, rfl, by decide, wsX0, z_mem 71 rfl rfl⟩
set_option maxRecDepth 20000 in
theorem fRX3_105 : z_F RX3 105 0 3 := ⟨_, _, _, rfl, by decide, wsX0, z_mem 72 rfl rfl⟩
set_option maxRecDepth 20000 in
theorem fRX0_25 : z_F RX0 25 0 4 := ⟨_, _, _, rfl, by decide, wsX0, z_mem 73 rfl rfl⟩
set_option maxRecDepth 20000 in
theorem fRX1_44 : z_F RX1 44 0 4 := ⟨_, _, _, rfl, by decide, wsX0, z_mem 74 rfl rfl⟩
set_option maxRecDepth 20000 in
theorem fRX3_125 : z_F RX3 125 0 4 := ⟨_, _, _, rfl, by decide, wsX0, z_mem 75 rfl rfl⟩
set_option maxRecDepth 20000 in
theorem fRX0_30 : z_F RX0 30 0 5 := ⟨_, _, _, rfl, by decide, wsX0, z_mem 76 rfl rfl⟩
set_option maxRecDepth 20000 in
theorem fRX1_38 : z_F RX1 38 0 5 := ⟨_, _, _, rfl, by decide, wsX0, z_mem 77 rfl rfl⟩
set_option maxRecDepth 20000 in
theorem fRX2_60 : z_F RX2 60 0 5 := ⟨_, _, _, rfl, by decide, wsX0, z_mem 78 rfl rfl⟩
set_option maxRecDepth 20000 in
theorem fRX0_33 : z_F RX0 33 0 6 := ⟨_, _, _, rfl, by decide, wsX0, z_mem 79 rfl rfl⟩
set_option maxRecDepth 20000 in
theorem pRX0_33 : z_P RX0 33 0 6 := ⟨_, _, _, tyX0, rfl, by decide, wsX0, z_mem 79 rfl rfl, tyX0_ok, nmX0, rfl, rfl⟩
set_option maxRecDepth 20000 in
theorem fRX3_78 : z_F RX3 78 0 6 := ⟨_, _, _, rfl, by decide, wsX0, z_mem 80 rfl rfl⟩
set_option maxRecDepth 20000 in
theorem pRX3_78 : z_P RX3 78 0 6 := ⟨_, _, _, tyX0, rfl, by decide, wsX0, z_mem 80 rfl rfl, tyX0_ok, nmX0, rfl, rfl⟩
set_option maxRecDepth 20000 in
theorem fRX2_37 : z_F RX2 37 0 6 := ⟨_, _, _, rfl, by decide, wsX0, z_mem 81 rfl rfl⟩
set_option maxRecDepth 20000 in
theorem pRX2_37 : z_P RX2 37 0 6 := ⟨_, _, _, tyX0, rfl, by decide, wsX0, z_mem 81 rfl rfl, tyX0_ok, nmX0, rfl, rfl⟩
set_option maxRecDepth 20000 in
theorem fRX2_11 : z_F RX2 11 2 0 := ⟨_, _, _, rfl, by decide, wsX2, z_mem 106 rfl rfl⟩
set_option maxRecDepth 20000 in
theorem fRX3_119 : z_F RX3 119 2 0 := ⟨_, _, _, rfl, by decide, wsX2, z_mem 107 rfl rfl⟩
set_option maxRecDepth 20000 in
theorem fRX2_16 : z_F RX2 16 2 1 := ⟨_, _, _, rfl, by decide, wsX2, z_mem 108 rfl rfl⟩
set_option maxRecDepth 20000 in
theorem fRX3_122 : z_F RX3 122 2 1 := ⟨_, _, _, rfl, by decide, wsX2, z_mem 109 rfl rfl⟩
set_option maxRecDepth 20000 in
theorem fRX2_19 : z_F RX2 19 2 2 := ⟨_, _, _, rfl, by decide, wsX2, z_mem 110 rfl rfl⟩
set_option maxRecDepth 20000 in
theorem fRX3_195 : z_F RX3 195 2 2 := ⟨_, _, _, rfl, by decide, wsX2, z_mem 111 rfl rfl⟩
set_option maxRecDepth 20000 in
theorem fRX1_9 : z_F RX1 9 1 0 := ⟨_, _, _, rfl, by decide, wsX1, z_mem 125 rfl rfl⟩
set_option maxRecDepth 20000 in
theorem fRX1_15 : z_F RX1 15 1 1 := ⟨_, _, _, rfl, by decide, wsX1, z_mem 126 rfl rfl⟩
set_option maxRecDepth 20000 in
theorem fRX1_18 : z_F RX1 18 1 2 := ⟨_, _, _, rfl, by decide, wsX1, z_mem 127 rfl rfl⟩
set_option maxRecDepth 20000 in
theorem pRX1_18 : z_P RX1 18 1 2 := ⟨_, _, _, tyX1, rfl, by decide, wsX1, z_mem 127 rfl rfl, tyX1_ok, nmX1, rfl, rfl⟩
set_option maxRecDepth 20000 in
theorem fRX3_135 : z_F RX3 135 1 2 := ⟨_, _, _, rfl, by decide, wsX1, z_mem 128 rfl rfl⟩
set_option maxRecDepth 20000 in
theorem pRX3_135 : z_P RX3 135 1 2 := ⟨_, _, _, tyX1, rfl, by decide, wsX1, z_mem 128 rfl rfl, tyX1_ok, nmX1, rfl, rfl⟩
set_option maxRecDepth 20000 in
theorem fRX1_22 : z_F RX1 22 1 3 := ⟨_, _, _, rfl, by decide, wsX1, z_mem 129 rfl rfl⟩
set_option maxRecDepth 20000 in
theorem pRX1_22 : z_P RX1 22 1 3 := ⟨_, _, _, tyX1, rfl, by decide, wsX1, z_mem 129 rfl rfl, tyX1_ok, nmX1, rfl, rfl⟩
set_option maxRecDepth 20000 in
theorem fRX3_138 : z_F RX3 138 1 3 := ⟨_, _, _, rfl, by decide, wsX1, z_mem 130 rfl rfl⟩
set_option maxRecDepth 20000 in
theorem pRX3_138 : z_P RX3 138 1 3 := ⟨_, _, _, tyX1, rfl, by decide, wsX1, z_mem 130 rfl rfl, tyX1_ok, nmX1, rfl, rfl⟩
set_option maxRecDepth 20000 in
theorem fRX1_25 : z_F RX1 25 1 4 := ⟨_, _, _, rfl, by decide, wsX1, z_mem 131 rfl rfl⟩
set_option maxRecDepth 20000 in
theorem pRX1_25 : z_P RX1 25 1 4 := ⟨_, _, _, tyX1, rfl, by decide, wsX1, z_mem 131 rfl rfl, tyX1_ok, nmX1, rfl, rfl⟩
set_option maxRecDepth 20000 in
theorem fRX3_132 : z_F RX3 132 1 4 := ⟨_, _, _, rfl, by decide, wsX1, z_mem 132 rfl rfl⟩
set_option maxRecDepth 20000 in
theorem pRX3_132 : z_P RX3 132 1 4 := ⟨_, _, _, tyX1, rfl, by decide, wsX1, z_mem 132 rfl rfl, tyX1_ok, nmX1, rfl, rfl⟩
set_option maxRecDepth 20000 in
theorem fRX3_12 : z_F RX3 12 3 0 := ⟨_, _, _, rfl, by decide, wsX3, z_mem 148 rfl rfl⟩
set_option maxRecDepth 20000 in
theorem fRX3_19 : z_F RX3 19 3 1 := ⟨_, _, _, rfl, by decide, wsX3, z_mem 149 rfl rfl⟩
set_option maxRecDepth 20000 in
theorem fRX3_26 : z_F RX3 26 3 2 := ⟨_, _, _, rfl, by decide, wsX3, z_mem 150 rfl rfl⟩
set_option maxRecDepth 20000 in
theorem fRX3_30 : z_F RX3 30 3 3 := ⟨_, _, _, rfl, by decide, wsX3, z_mem 151 rfl rfl⟩
set_option maxRecDepth 20000 in
theorem fRX3_33 : z_F RX3 33 3 4 := ⟨_, _, _, rfl, by decide, wsX3, z_mem 152 rfl rfl⟩
set_option maxRecDepth 20000 in
theorem fRX3_39 : z_F RX3 39 3 5 := ⟨_, _, _, rfl, by decide, wsX3, z_mem 153 rfl rfl⟩
set_option maxRecDepth 20000 in
theorem fRX3_48 : z_F RX3 48 3 6 := ⟨_, _, _, rfl, by decide, wsX3, z_mem 154 rfl rfl⟩
set_option maxRecDepth 20000 in
theorem fRX3_51 : z_F RX3 51 3 7 := ⟨_, _, _, rfl, by decide, wsX3, z_mem 155 rfl rfl⟩
set_option maxRecDepth 20000 in
theorem pRX3_51 : z_P RX3 51 3 7 := ⟨_, _, _, tyX3, rfl, by decide, wsX3, z_mem 155 rfl rfl, tyX3_ok, nmX3, rfl, rfl⟩
set_option maxRecDepth 20000 in
theorem fRX3_55 : z_F RX3 55 3 8 := ⟨_, _, _, rfl, by decide, wsX3, z_mem 156 rfl rfl⟩
set_option maxRecDepth 20000 in
theorem pRX3_55 : z_P RX3 55 3 8 := ⟨_, _, _, tyX3, rfl, by decide, wsX3, z_mem 156 rfl rfl, tyX3_ok, nmX3, rfl, rfl⟩
set_option maxRecDepth 20000 in
theorem fRX3_58 : z_F RX3 58 3 9 := ⟨_, _, _, rfl, by decide, wsX3, z_mem 157 rfl rfl⟩
set_option maxRecDepth 20000 in
theorem pRX3_58 : z_P RX3 58 3 9 := ⟨_, _, _, tyX3, rfl, by decide, wsX3, z_mem 157 rfl rfl, tyX3_ok, nmX3, rfl, rfl⟩
set_option maxRecDepth 20000 in
theorem fRX3_61 : z_F RX3 61 3 10 := ⟨_, _, _, rfl, by decide, wsX3, z_mem 158 rfl rfl⟩
set_option maxRecDepth 20000 in
theorem pRX3_61 : z_P RX3 61 3 10 := ⟨_, _, _, tyX3, rfl, by decide, wsX3, z_mem 158 rfl rfl, tyX3_ok, nmX3, rfl, rfl⟩
set_option maxRecDepth 20000 in
theorem fRX3_64 : z_F RX3 64 3 11 := ⟨_, _, _, rfl, by decide, wsX3, z_mem 159 rfl rfl⟩
set_option maxRecDepth 20000 in
theorem pRX3_64 : z_P RX3 64 3 11 := ⟨_, _, _, tyX3, rfl, by decide, wsX3, z_mem 159 rfl rfl, tyX3_ok, nmX3, rfl, rfl⟩
set_option maxRecDepth 20000 in
theorem fRX3_67 : z_F RX3 67 3 12 := ⟨_, _, _, rfl, by decide, wsX3, z_mem 160 rfl rfl⟩
set_option maxRecDepth 20000 in
theorem pRX3_67 : z_P RX3 67 3 12 := ⟨_, _, _, tyX3, rfl, by decide, wsX3, z_mem 160 rfl rfl, tyX3_ok, nmX3, rfl, rfl⟩
set_option maxRecDepth 20000 in
theorem fRX4_51 : z_F RX4 51 4 0 := ⟨_, _, _, rfl, by decide, wsX4, z_mem 412 rfl rfl⟩
set_option maxRecDepth 20000 in
theorem pRX4_51 : z_P RX4 51 4 0 := ⟨_, _, _, tyX4, rfl, by decide, wsX4, z_mem 412 rfl rfl, tyX4_ok, nmX4, rfl, rfl⟩
set_option maxRecDepth 20000 in
theorem fRX4_7 : z_F RX4 7 4 1 := ⟨_, _, _, rfl, by decide, wsX4, z_mem 413 rfl rfl⟩
set_option maxRecDepth 20000 in
theorem fRX4_13 : z_F RX4 13 4 2 := ⟨_, _, _, rfl, by decide, wsX4, z_mem 414 rfl rfl⟩
set_option maxRecDepth 20000 in
theorem fRX4_16 : z_F RX4 16 4 3 := ⟨_, _, _, rfl, by decide, wsX4, z_mem 415 rfl rfl⟩
set_option maxRecDepth 20000 in
theorem fRX4_19 : z_F RX4 19 4 4 := ⟨_, _, _, rfl, by decide, wsX4, z_mem 416 rfl rfl⟩
set_option maxRecDepth 20000 in
theorem fRX4_55 : z_F RX4 55 4 5 := ⟨_, _, _, rfl, by decide, wsX4, z_mem 417 rfl rfl⟩
set_option maxRecDepth 20000 in
theorem pRX4_55 : z_P RX4 55 4 5 := ⟨_, _, _, tyX4, rfl, by decide, wsX4, z_mem 417 rfl rfl, tyX4_ok, nmX4, rfl, rfl⟩
set_option maxRecDepth 20000 in
theorem fRX4_23 : z_F RX4 23 4 6 := ⟨_, _, _, rfl, by decide, wsX4, z_mem 418 rfl rfl⟩
set_option maxRecDepth 20000 in
theorem fRX4_72 : z_F RX4 72 4 7 := ⟨_, _, _, rfl, by decide, wsX4, z_mem 419 rfl rfl⟩
set_option maxRecDepth 20000 in
theorem pRX4_72 : z_P RX4 72 4 7 := ⟨_, _, _, tyX4, rfl, by decide, wsX4, z_mem 419 rfl rfl, tyX4_ok, nmX4, rfl, rfl⟩
set_option maxRecDepth 20000 in
theorem fRX4_79 : z_F RX4 79 4 8 := ⟨_, _, _, rfl, by decide, wsX4, z_mem 420 rfl rfl⟩
set_option maxRecDepth 20000 in
theorem pRX4_79 : z_P RX4 79 4 8 := ⟨_, _, _, tyX4, rfl, by decide, wsX4, z_mem 420 rfl rfl, tyX4_ok, nmX4, rfl, rfl⟩
set_option maxRecDepth 20000 in
theorem fRX4_26 : z_F RX4 26 4 9 := ⟨_, _, _, rfl, by decide, wsX4, z_mem 421 rfl rfl⟩
set_option maxRecDepth 20000 in
theorem fRX4_29 : z_F RX4 29 4 10 := ⟨_, _, _, rfl, by decide, wsX4, z_mem 422 rfl rfl⟩
set_option maxRecDepth 20000 in
theorem fRX4_32 : z_F RX4 32 4 11 := ⟨_, _, _, rfl, by decide, wsX4, z_mem 423 rfl rfl⟩
set_option maxRecDepth 20000 in
theorem fRX4_35 : z_F RX4 35 4 12 := ⟨_, _, _, rfl, by decide, wsX4, z_mem 424 rfl rfl⟩
set_option maxRecDepth 20000 in
theorem fRX4_101 : z_F RX4 101 4 13 := ⟨_, _, _, rfl, by decide, wsX4, z_mem 425 rfl rfl⟩
set_option maxRecDepth 20000 in
theorem pRX4_101 : z_P RX4 101 4 13 := ⟨_, _, _, tyX4, rfl, by decide, wsX4, z_mem 425 rfl rfl, tyX4_ok, nmX4, rfl, rfl⟩
set_option maxRecDepth 20000 in
theorem fRX4_107 : z_F RX4 107 4 14 := ⟨_, _, _, rfl, by decide, wsX4, z_mem 426 rfl rfl⟩
set_option maxRecDepth 20000 in
theorem pRX4_107 : z_P RX4 107 4 14 := ⟨_, _, _, tyX4, rfl, by decide, wsX4, z_mem 426 rfl rfl, tyX4_ok, nmX4, rfl, rfl⟩
set_option maxRecDepth 20000 in
theorem fRX4_110 : z_F RX4 110 4 15 := ⟨_, _, _, rfl, by decide, wsX4, z_mem 427 rfl rfl⟩
set_option maxRecDepth 20000 in
theorem pRX4_110 : z_P RX4 110 4 15 := ⟨_, _, _, tyX4, rfl, by decide, wsX4, z_mem 427 rfl rfl, tyX4_ok, nmX4, rfl, rfl⟩
set_option maxRecDepth 20000 in
theorem fRX4_38 : z_F RX4 38 4 16 := ⟨_, _, _, rfl, by decide, wsX4, z_mem 428 rfl rfl⟩
set_option maxRecDepth 20000 in
theorem fRX4_126 : z_F RX4 126 4 17 := ⟨_, _, _, rfl, by decide, wsX4, z_mem 429 rfl rfl⟩
set_option maxRecDepth 20000 in
theorem pRX4_126 : z_P RX4 126 4 17 := ⟨_, _, _, tyX4, rfl, by decide, wsX4, z_mem 429 rfl rfl, tyX4_ok, nmX4, rfl, rfl⟩
set_option maxRecDepth 20000 in
theorem fRX4_129 : z_F RX4 129 4 18 := ⟨_, _, _, rfl, by decide, wsX4, z_mem 430 rfl rfl⟩
set_option maxRecDepth 20000 in
theorem pRX4_129 : z_P RX4 129 4 18 := ⟨_, _, _, tyX4, rfl, by decide, wsX4, z_mem 430 rfl rfl, tyX4_ok, nmX4, rfl, rfl⟩
set_option maxRecDepth 20000 in
theorem fRX4_41 : z_F RX4 41 4 19 := ⟨_, _, _, rfl, by decide, wsX4, z_mem 431 rfl rfl⟩
set_option maxRecDepth 20000 in
theorem fRX4_44 : z_F RX4 44 4 20 := ⟨_, _, _, rfl, by decide, wsX4, z_mem 432 rfl rfl⟩
set_option maxRecDepth 20000 in
theorem qRJ6_265 : Cond.constant RJ6 265 1431655765 ∈ z_T := z_mem 307 rfl rfl
set_option maxRecDepth 20000 in
theorem qRJ6_266 : Cond.constant RJ6 266 858993459 ∈ z_T := z_mem 308 rfl rfl
set_option maxRecDepth 20000 in
theorem qRJ6_267 : Cond.constant RJ6 267 252645135 ∈ z_T := z_mem 309 rfl rfl
set_option maxRecDepth 20000 in
theorem qRX4_82 : Cond.constant RX4 82 100000 ∈ z_T := z_mem 549 rfl rfl
end
section
/-! HELP for the blocks: answers of methods that only ask -/
def z_bo (c : Prop) (D : zM) : Int32 → zM → Prop := fun r D1 => D1 = D ∧ ((c ∧ r = 1) ∨ (¬ c ∧ r = 0))
def z_va (v : Int32) (D : zM) : Int32 → zM → Prop := fun r D1 => D1 = D ∧ r = v
section ZH
variable {Y : zY} {pc : Nat} {lv : List (Option Value)} {st rest : List Value} {D D1 : zM} {P : Option Int32 → zM → Prop} {r : Option Int32}
theorem z_bool {c : Prop} (q : z_pi (z_bo c D) r D1) (k1 : c → z_Ok Y pc lv (.int 1 :: rest) D P) (k0 : ¬ c → z_Ok Y pc lv (.int 0 :: rest) D P) : z_Ok Y pc lv (z_psh r rest) D1 P := by
  cases r with
  | none => exact q.elim
  | some v =>
    obtain ⟨rfl, ⟨h1, rfl⟩ | ⟨h1, rfl⟩⟩ := q
    · exact k1 h1
    · exact k0 h1
theorem z_pure {v : Int32} (q : z_pi (z_va v D) r D1) (k : z_Ok Y pc lv (.int v :: rest) D P) : z_Ok Y pc lv (z_psh r rest) D1 P := by
  cases r with
  | none => exact q.elim
  | some w =>
    obtain ⟨rfl, rfl⟩ := q
    exact k
theorem z_intr {Q : Int32 → zM → Prop} (q : z_pi Q r D1) (k : ∀ v, Q v D1 → z_Ok Y pc lv (.int v :: rest) D1 P) : z_Ok Y pc lv (z_psh r rest) D1 P := by
  cases r with
  | none => exact q.elim
  | some w => exact k w q
theorem z_void {Q : zM → Prop} (q : z_pv Q r D1) (k : Q D1 → z_Ok Y pc lv rest D1 P) : z_Ok Y pc lv (z_psh r rest) D1 P := by
  cases r with
  | none => exact k q
  | some w => exact q.elim
theorem z_case (c : Prop) (k1 : c → z_Ok Y pc lv st D P) (k0 : ¬ c → z_Ok Y pc lv st D P) : z_Ok Y pc lv st D P := (Classical.em c).elim k1 k0
end ZH
def zb (s k : Int32) : Prop := (s >>> (k &&& 31)) &&& 1 = 1
def z_nm (k w : Int32) : Prop := 0 ≤ k ∧ k < w
def z_wi (v a b : Int32) : Prop := a ≤ v ∧ v ≤ b
def z_sh8 (x y : Int32) : Int32 := (x.toUInt32 >>> (y.toUInt32 &&& Int32.toUInt32 31)).toInt32
def z_bc1 (x : Int32) : Int32 := x - (z_sh8 x 1 &&& 1431655765)
def z_bc2 (x : Int32) : Int32 := (x &&& 858993459) + (z_sh8 x 2 &&& 858993459)
def z_bc3 (x : Int32) : Int32 := (x + z_sh8 x 4) &&& 252645135
def z_bc4 (x : Int32) : Int32 := x + z_sh8 x 8
def z_bc5 (x : Int32) : Int32 := x + z_sh8 x 16
def z_bc (x : Int32) : Int32 := z_bc5 (z_bc4 (z_bc3 (z_bc2 (z_bc1 x)))) &&& 63
theorem z_rowsAt (b n : Nat) (h : (List.range n).all (fun j => decide (z_sh[b + j]? = some (.inr (.inl (0, 10))))) = true) {i : Int32} (hi : vp_in i n) : z_sh[b + i.toNatClampNeg]? = some (.inr (.inl (0, 10))) := by
  have hlt : i.toNatClampNeg < n := Nat.not_le.mp fun q => hi (Or.inr q)
  have := List.all_eq_true.mp h i.toNatClampNeg (List.mem_range.mpr hlt)
  exact of_decide_eq_true this
theorem z_r8 {i : Int32} (hi : vp_in i 10) : z_sh[8 + i.toNatClampNeg]? = some (.inr (.inl (0, 10))) := z_rowsAt 8 10 (by decide +kernel) hi
theorem z_r20 {i : Int32} (hi : vp_in i 5) : z_sh[20 + i.toNatClampNeg]? = some (.inr (.inl (0, 10))) := z_rowsAt 20 5 (by decide +kernel) hi
theorem z_r26 {i : Int32} (hi : vp_in i 5) : z_sh[26 + i.toNatClampNeg]? = some (.inr (.inl (0, 10))) := z_rowsAt 26 5 (by decide +kernel) hi
theorem z_r40 {i : Int32} (hi : vp_in i 5) : z_sh[40 + i.toNatClampNeg]? = some (.inr (.inl (0, 10))) := z_rowsAt 40 5 (by decide +kernel) hi
theorem z_toInt_ne {x : Int32} {k : Int32} (h : ¬ x = k) : x.toInt ≠ k.toInt := fun q => h (Int32.toInt_inj.mp q)
theorem z_sw0_2 {x : Int32} (h0 : ¬ x = 0) (h1 : ¬ x = 1) (h2 : ¬ x = 2) : x.toInt < 0 ∨ 2 < x.toInt := by
  have a0 := z_toInt_ne h0; have a1 := z_toInt_ne h1; have a2 := z_toInt_ne h2
  rw [show (0 : Int32).toInt = 0 by decide] at a0
  rw [show (1 : Int32).toInt = 1 by decide] at a1
  rw [show (2 : Int32).toInt = 2 by decide] at a2
  omega
theorem z_sw0_3 {x : Int32} (h0 : ¬ x = 0) (h1 : ¬ x = 1) (h2 : ¬ x = 2) (h3 : ¬ x = 3) : x.toInt < 0 ∨ 3 < x.toInt := by
  have a0 := z_toInt_ne h0; have a1 := z_toInt_ne h1; have a2 := z_toInt_ne h2; have a3 := z_toInt_ne h3
  rw [show (0 : Int32).toInt = 0 by decide] at a0
  rw [show (1 : Int32).toInt = 1 by decide] at a1
  rw [show (2 : Int32).toInt = 2 by decide] at a2
  rw [show (3 : Int32).toInt = 3 by decide] at a3
  omega
theorem z_sw0_6 {x : Int32} (h0 : ¬ x = 0) (h1 : ¬ x = 1) (h2 : ¬ x = 2) (h3 : ¬ x = 3) (h4 : ¬ x = 4) (h5 : ¬ x = 5) (h6 : ¬ x = 6) : x.toInt < 0 ∨ 6 < x.toInt := by
  have a0 := z_toInt_ne h0; have a1 := z_toInt_ne h1; have a2 := z_toInt_ne h2; have a3 := z_toInt_ne h3; have a4 := z_toInt_ne h4; have a5 := z_toInt_ne h5; have a6 := z_toInt_ne h6
  rw [show (0 : Int32).toInt = 0 by decide] at a0
  rw [show (1 : Int32).toInt = 1 by decide] at a1
  rw [show (2 : Int32).toInt = 2 by decide] at a2
  rw [show (3 : Int32).toInt = 3 by decide] at a3
  rw [show (4 : Int32).toInt = 4 by decide] at a4
  rw [show (5 : Int32).toInt = 5 by decide] at a5
  rw [show (6 : Int32).toInt = 6 by decide] at a6
  omega
/-- a number in a range is a natural number -/
theorem z_inN {i : Int32} {n : Nat} (h : vp_in i n) : ∃ k : Nat, k < n ∧ i = nI k ∧ k < 2 ^ 31 := by
  have hlt : i.toNatClampNeg < n := Nat.not_le.mp fun q => h (Or.inr q)
  have h0 : ¬ i < 0 := fun q => h (Or.inl q)
  have hge : 0 ≤ i.toInt := by
    have := mt Int32.lt_iff_toInt_lt.mpr h0
    rw [show (0 : Int32).toInt = 0 by decide] at this
    omega
  have hb := Int32.toInt_lt i
  have e : i = nI i.toNatClampNeg := by
    apply Int32.toInt_inj.mp
    have h2 : i.toNatClampNeg < 2 ^ 31 := by
      rw [show i.toNatClampNeg = i.toInt.toNat from rfl]
      omega
    rw [nI_toInt h2, show i.toNatClampNeg = i.toInt.toNat from rfl]
    omega
  refine ⟨i.toNatClampNeg, hlt, e, ?_⟩
  rw [show i.toNatClampNeg = i.toInt.toNat from rfl]
  omega
theorem z_in_mono {i : Int32} {m n : Nat} (h : vp_in i m) (hm : m ≤ n) : vp_in i n := fun q => h (q.imp id (fun z => Nat.le_trans hm z))
end
section
set_option maxRecDepth 20000 in
theorem bX4_within_0 {x0 x1 x2 : Int32} {D : zM} {P : Option Int32 → zM → Prop}  (k1 : x0 < x1 → P (some 0) D) (k2 : ¬ x0 < x1 → x2 < x0 → P (some 0) D) (k3 : ¬ x0 < x1 → ¬ x2 < x0 → P (some 1) D) : z_Ok mX4_within 0 [some (.int x0), some (.int x1), some (.int x2)] [] D P := z_iload_n 0 dX4_within_0 rfl rfl <| z_iload_n 1 dX4_within_1 rfl rfl <| z_icmp_lt (x := x0) (y := x1) 14 dX4_within_2 (by decide) (fun c1 => z_iconst (v := 0) dX4_within_14 (by decide) <| z_ret (ty := .boolean) dX4_within_15 rfl rfl (k1 c1)) (fun c2 => z_iload_n 0 dX4_within_5 rfl rfl <| z_iload_n 2 dX4_within_6 rfl rfl <| z_icmp_gt (x := x0) (y := x2) 14 dX4_within_7 (by decide) (fun c3 => z_iconst (v := 0) dX4_within_14 (by decide) <| z_ret (ty := .boolean) dX4_within_15 rfl rfl (k2 c2 c3)) (fun c4 => z_iconst (v := 1) dX4_within_10 (by decide) <| z_goto 15 dX4_within_11 (by decide) <| z_ret (ty := .boolean) dX4_within_15 rfl rfl (k3 c2 c4)))
theorem uX4_within (v a c : Int32) (D : zM) : z_Ci mX4_within [.int v, .int a, .int c] D (z_bo (z_wi v a c) D) :=
  bX4_within_0 (fun h => ⟨rfl, Or.inr ⟨fun q => absurd h (Int32.not_lt.mpr q.1), rfl⟩⟩) (fun _ h => ⟨rfl, Or.inr ⟨fun q => absurd h (Int32.not_lt.mpr q.2), rfl⟩⟩) (fun h h2 => ⟨rfl, Or.inl ⟨⟨Int32.not_lt.mp h, Int32.not_lt.mp h2⟩, rfl⟩⟩)
set_option maxRecDepth 20000 in
theorem bX4_isPlace_0 {x0 : Int32} {D : zM} {P : Option Int32 → zM → Prop}  (k1 : z_wi x0 0 9 → P (some 1) D) (k2 : ¬ z_wi x0 0 9 → P (some 0) D) : z_Ok mX4_isPlace 0 [some (.int x0)] [] D P := z_iload_n 0 dX4_isPlace_0 rfl rfl <| z_iconst (v := 0) dX4_isPlace_1 (by decide) <| z_bipush (v := 9) dX4_isPlace_2 (by decide) <| z_callS (n := 3) [.int x0, .int 0, .int 9] [] dX4_isPlace_4 tX4_within kRX4_47 (by decide) pnX4_within rfl rfl (Nat.le_of_ble_eq_true rfl) (by simp [Value.category]) (by simp [Value.category]) (uX4_within x0 0 9 D) (fun r D1 q1 => z_bool q1 (fun c1 => z_ret (ty := .boolean) dX4_isPlace_7 rfl rfl (k1 c1)) (fun c2 => z_ret (ty := .boolean) dX4_isPlace_7 rfl rfl (k2 c2)))
theorem z_wi9 (x : Int32) : z_wi x 0 9 ↔ vp_in x 10 := by
  unfold z_wi vp_in
  rw [Int32.le_iff_toInt_le, Int32.le_iff_toInt_le, Int32.lt_iff_toInt_lt, show (0 : Int32).toInt = 0 by decide, show (9 : Int32).toInt = 9 by decide, show x.toNatClampNeg = x.toInt.toNat from rfl]
  omega
theorem uX4_isPlace (x : Int32) (D : zM) : z_Ci mX4_isPlace [.int x] D (z_bo (vp_in x 10) D) :=
  bX4_isPlace_0 (fun h => ⟨rfl, Or.inl ⟨(z_wi9 x).mp h, rfl⟩⟩) (fun h => ⟨rfl, Or.inr ⟨fun q => h ((z_wi9 x).mpr q), rfl⟩⟩)
set_option maxRecDepth 20000 in
theorem bX4_isWalk_0 {x1 : Int32} {D : zM} {P : Option Int32 → zM → Prop}  (k1 : z_wi x1 0 ((D 46 0) - 1) → P (some 1) D) (k2 : ¬ z_wi x1 0 ((D 46 0) - 1) → P (some 0) D) : z_Ok mX4_isWalk 0 [some (.ref 46), some (.int x1)] [] D P := z_iload_n 1 dX4_isWalk_0 rfl rfl <| z_iconst (v := 0) dX4_isWalk_1 (by decide) <| z_aload_n 0 dX4_isWalk_2 rfl rfl <| z_geti 0 dX4_isWalk_3 fRX4_51 rfl rfl <| z_iconst (v := 1) dX4_isWalk_6 (by decide) <| z_isub dX4_isWalk_7 <| z_callS (n := 3) [.int x1, .int 0, .int ((D 46 0) - 1)] [] dX4_isWalk_8 tX4_within kRX4_47 (by decide) pnX4_within rfl rfl (Nat.le_of_ble_eq_true rfl) (by simp [Value.category]) (by simp [Value.category]) (uX4_within x1 0 ((D 46 0) - 1) D) (fun r D1 q1 => z_bool q1 (fun c1 => z_ret (ty := .boolean) dX4_isWalk_11 rfl rfl (k1 c1)) (fun c2 => z_ret (ty := .boolean) dX4_isWalk_11 rfl rfl (k2 c2)))
theorem uX4_isWalk (x : Int32) (D : zM) : z_Ci mX4_isWalk [.ref 46, .int x] D (z_bo (z_wi x 0 (D 46 0 - 1)) D) :=
  bX4_isWalk_0 (fun h => ⟨rfl, Or.inl ⟨h, rfl⟩⟩) (fun h => ⟨rfl, Or.inr ⟨h, rfl⟩⟩)
set_option maxRecDepth 20000 in
theorem bX4_isName_0 {x1 : Int32} {D : zM} {P : Option Int32 → zM → Prop}  (k1 : z_wi x1 0 ((D 46 5) - 1) → P (some 1) D) (k2 : ¬ z_wi x1 0 ((D 46 5) - 1) → P (some 0) D) : z_Ok mX4_isName 0 [some (.ref 46), some (.int x1)] [] D P := z_iload_n 1 dX4_isName_0 rfl rfl <| z_iconst (v := 0) dX4_isName_1 (by decide) <| z_aload_n 0 dX4_isName_2 rfl rfl <| z_geti 5 dX4_isName_3 fRX4_55 rfl rfl <| z_iconst (v := 1) dX4_isName_6 (by decide) <| z_isub dX4_isName_7 <| z_callS (n := 3) [.int x1, .int 0, .int ((D 46 5) - 1)] [] dX4_isName_8 tX4_within kRX4_47 (by decide) pnX4_within rfl rfl (Nat.le_of_ble_eq_true rfl) (by simp [Value.category]) (by simp [Value.category]) (uX4_within x1 0 ((D 46 5) - 1) D) (fun r D1 q1 => z_bool q1 (fun c1 => z_ret (ty := .boolean) dX4_isName_11 rfl rfl (k1 c1)) (fun c2 => z_ret (ty := .boolean) dX4_isName_11 rfl rfl (k2 c2)))
theorem uX4_isName (x : Int32) (D : zM) : z_Ci mX4_isName [.ref 46, .int x] D (z_bo (z_wi x 0 (D 46 5 - 1)) D) :=
  bX4_isName_0 (fun h => ⟨rfl, Or.inl ⟨h, rfl⟩⟩) (fun h => ⟨rfl, Or.inr ⟨h, rfl⟩⟩)
set_option maxRecDepth 20000 in
theorem bX4_isIn_0 {x0 x1 : Int32} {D : zM} {P : Option Int32 → zM → Prop}  (k1 : ¬ ((x0 >>> (x1 &&& 31)) &&& 1) = 1 → P (some 0) D) (k2 : ((x0 >>> (x1 &&& 31)) &&& 1) = 1 → P (some 1) D) : z_Ok mX4_isIn 0 [some (.int x0), some (.int x1)] [] D P := z_iload_n 0 dX4_isIn_0 rfl rfl <| z_iload_n 1 dX4_isIn_1 rfl rfl <| z_ishr dX4_isIn_2 <| z_iconst (v := 1) dX4_isIn_3 (by decide) <| z_iand dX4_isIn_4 <| z_iconst (v := 1) dX4_isIn_5 (by decide) <| z_icmp_ne (x := (x0 >>> (x1 &&& 31)) &&& 1) (y := 1) 13 dX4_isIn_6 (by decide) (fun c1 => z_iconst (v := 0) dX4_isIn_13 (by decide) <| z_ret (ty := .boolean) dX4_isIn_14 rfl rfl (k1 c1)) (fun c2 => z_iconst (v := 1) dX4_isIn_9 (by decide) <| z_goto 14 dX4_isIn_10 (by decide) <| z_ret (ty := .boolean) dX4_isIn_14 rfl rfl (k2 c2))
theorem uX4_isIn (s k : Int32) (D : zM) : z_Ci mX4_isIn [.int s, .int k] D (z_bo (zb s k) D) :=
  bX4_isIn_0 (fun h => ⟨rfl, Or.inr ⟨fun q => h q, rfl⟩⟩) (fun h => ⟨rfl, Or.inl ⟨h, rfl⟩⟩)
set_option maxRecDepth 20000 in
theorem bX3_isPlace_0 {x0 : Int32} {D : zM} {P : Option Int32 → zM → Prop}  (k1 : x0 < 0 → P (some 0) D) (k2 : ¬ x0 < 0 → 10 ≤ x0 → P (some 0) D) (k3 : ¬ x0 < 0 → ¬ 10 ≤ x0 → P (some 1) D) : z_Ok mX3_isPlace 0 [some (.int x0)] [] D P := z_iload_n 0 dX3_isPlace_0 rfl rfl <| z_if_lt (x := x0) 14 dX3_isPlace_1 (by decide) (fun c1 => z_iconst (v := 0) dX3_isPlace_14 (by decide) <| z_ret (ty := .boolean) dX3_isPlace_15 rfl rfl (k1 c1)) (fun c2 => z_iload_n 0 dX3_isPlace_4 rfl rfl <| z_bipush (v := 10) dX3_isPlace_5 (by decide) <| z_icmp_ge (x := x0) (y := 10) 14 dX3_isPlace_7 (by decide) (fun c3 => z_iconst (v := 0) dX3_isPlace_14 (by decide) <| z_ret (ty := .boolean) dX3_isPlace_15 rfl rfl (k2 c2 c3)) (fun c4 => z_iconst (v := 1) dX3_isPlace_10 (by decide) <| z_goto 15 dX3_isPlace_11 (by decide) <| z_ret (ty := .boolean) dX3_isPlace_15 rfl rfl (k3 c2 c4)))
theorem z_nm10 (x : Int32) : (0 ≤ x ∧ ¬ 10 ≤ x) ↔ vp_in x 10 := by
  unfold vp_in
  rw [Int32.le_iff_toInt_le, Int32.le_iff_toInt_le, Int32.lt_iff_toInt_lt, show (0 : Int32).toInt = 0 by decide, show (10 : Int32).toInt = 10 by decide, show x.toNatClampNeg = x.toInt.toNat from rfl]
  omega
theorem uX3_isPlace (x : Int32) (D : zM) : z_Ci mX3_isPlace [.int x] D (z_bo (vp_in x 10) D) :=
  bX3_isPlace_0 (fun h => ⟨rfl, Or.inr ⟨fun q => absurd h (Int32.not_lt.mpr ((z_nm10 x).mpr q).1), rfl⟩⟩) (fun _ h => ⟨rfl, Or.inr ⟨fun q => ((z_nm10 x).mpr q).2 h, rfl⟩⟩) (fun h h2 => ⟨rfl, Or.inl ⟨(z_nm10 x).mp ⟨Int32.not_lt.mp h, h2⟩, rfl⟩⟩)
set_option maxRecDepth 20000 in
theorem bX3_isEnding_0 {x0 : Int32} {D : zM} {P : Option Int32 → zM → Prop}  (k1 : x0 < 0 → P (some 0) D) (k2 : ¬ x0 < 0 → 4 < x0 → P (some 0) D) (k3 : ¬ x0 < 0 → ¬ 4 < x0 → P (some 1) D) : z_Ok mX3_isEnding 0 [some (.int x0)] [] D P := z_iload_n 0 dX3_isEnding_0 rfl rfl <| z_if_lt (x := x0) 13 dX3_isEnding_1 (by decide) (fun c1 => z_iconst (v := 0) dX3_isEnding_13 (by decide) <| z_ret (ty := .boolean) dX3_isEnding_14 rfl rfl (k1 c1)) (fun c2 => z_iload_n 0 dX3_isEnding_4 rfl rfl <| z_iconst (v := 4) dX3_isEnding_5 (by decide) <| z_icmp_gt (x := x0) (y := 4) 13 dX3_isEnding_6 (by decide) (fun c3 => z_iconst (v := 0) dX3_isEnding_13 (by decide) <| z_ret (ty := .boolean) dX3_isEnding_14 rfl rfl (k2 c2 c3)) (fun c4 => z_iconst (v := 1) dX3_isEnding_9 (by decide) <| z_goto 14 dX3_isEnding_10 (by decide) <| z_ret (ty := .boolean) dX3_isEnding_14 rfl rfl (k3 c2 c4)))
theorem z_nm4 (x : Int32) : (0 ≤ x ∧ ¬ 4 < x) ↔ vp_in x 5 := by
  unfold vp_in
  rw [Int32.le_iff_toInt_le, Int32.lt_iff_toInt_lt, Int32.lt_iff_toInt_lt, show (0 : Int32).toInt = 0 by decide, show (4 : Int32).toInt = 4 by decide, show x.toNatClampNeg = x.toInt.toNat from rfl]
  omega
theorem uX3_isEnding (x : Int32) (D : zM) : z_Ci mX3_isEnding [.int x] D (z_bo (vp_in x 5) D) :=
  bX3_isEnding_0 (fun h => ⟨rfl, Or.inr ⟨fun q => absurd h (Int32.not_lt.mpr ((z_nm4 x).mpr q).1), rfl⟩⟩) (fun _ h => ⟨rfl, Or.inr ⟨fun q => ((z_nm4 x).mpr q).2 h, rfl⟩⟩) (fun h h2 => ⟨rfl, Or.inl ⟨(z_nm4 x).mp ⟨Int32.not_lt.mp h, h2⟩, rfl⟩⟩)
set_option maxRecDepth 20000 in
theorem bX3_holds_0 {x0 x1 : Int32} {D : zM} {P : Option Int32 → zM → Prop}  (k1 : ((x0 >>> (x1 &&& 31)) &&& 1) = 0 → P (some 0) D) (k2 : ¬ ((x0 >>> (x1 &&& 31)) &&& 1) = 0 → P (some 1) D) : z_Ok mX3_holds 0 [some (.int x0), some (.int x1)] [] D P := z_iload_n 0 dX3_holds_0 rfl rfl <| z_iload_n 1 dX3_holds_1 rfl rfl <| z_ishr dX3_holds_2 <| z_iconst (v := 1) dX3_holds_3 (by decide) <| z_iand dX3_holds_4 <| z_if_eq (x := (x0 >>> (x1 &&& 31)) &&& 1) 12 dX3_holds_5 (by decide) (fun c1 => z_iconst (v := 0) dX3_holds_12 (by decide) <| z_ret (ty := .boolean) dX3_holds_13 rfl rfl (k1 c1)) (fun c2 => z_iconst (v := 1) dX3_holds_8 (by decide) <| z_goto 13 dX3_holds_9 (by decide) <| z_ret (ty := .boolean) dX3_holds_13 rfl rfl (k2 c2))
theorem z_and1 (x : Int32) : x &&& 1 = 0 ∨ x &&& 1 = 1 := by
  have h : ∀ b : BitVec 32, b &&& 1#32 = 0#32 ∨ b &&& 1#32 = 1#32 := by
    intro b
    have e : (b &&& 1#32).toNat = b.toNat % 2 := by
      rw [BitVec.toNat_and, show (1#32 : BitVec 32).toNat = 1 by decide, Nat.and_one_is_mod]
    rcases Nat.mod_two_eq_zero_or_one b.toNat with q | q
    · left
      apply BitVec.eq_of_toNat_eq
      rw [e, q]
      rfl
    · right
      apply BitVec.eq_of_toNat_eq
      rw [e, q]
      rfl
  rcases h x.toBitVec with h | h
  · left
    apply Int32.toBitVec_inj.mp
    exact h
  · right
    apply Int32.toBitVec_inj.mp
    exact h
theorem uX3_holds (s k : Int32) (D : zM) : z_Ci mX3_holds [.int s, .int k] D (z_bo (zb s k) D) :=
  bX3_holds_0 (fun h => ⟨rfl, Or.inr ⟨fun q => by unfold zb at q; rw [h] at q; exact absurd q (by decide), rfl⟩⟩) (fun h => ⟨rfl, Or.inl ⟨(z_and1 _).resolve_left h, rfl⟩⟩)
set_option maxRecDepth 20000 in
theorem bX3_isName_0 {x1 : Int32} {D : zM} {P : Option Int32 → zM → Prop}  (k1 : x1 < 0 → P (some 0) D) (k2 : ¬ x1 < 0 → (D 0 7) ≤ x1 → P (some 0) D) (k3 : ¬ x1 < 0 → ¬ (D 0 7) ≤ x1 → P (some 1) D) : z_Ok mX3_isName 0 [some (.ref 0), some (.int x1)] [] D P := z_iload_n 1 dX3_isName_0 rfl rfl <| z_if_lt (x := x1) 16 dX3_isName_1 (by decide) (fun c1 => z_iconst (v := 0) dX3_isName_16 (by decide) <| z_ret (ty := .boolean) dX3_isName_17 rfl rfl (k1 c1)) (fun c2 => z_iload_n 1 dX3_isName_4 rfl rfl <| z_aload_n 0 dX3_isName_5 rfl rfl <| z_geti 7 dX3_isName_6 fRX3_51 rfl rfl <| z_icmp_ge (x := x1) (y := D 0 7) 16 dX3_isName_9 (by decide) (fun c3 => z_iconst (v := 0) dX3_isName_16 (by decide) <| z_ret (ty := .boolean) dX3_isName_17 rfl rfl (k2 c2 c3)) (fun c4 => z_iconst (v := 1) dX3_isName_12 (by decide) <| z_goto 17 dX3_isName_13 (by decide) <| z_ret (ty := .boolean) dX3_isName_17 rfl rfl (k3 c2 c4)))
theorem uX3_isName (x : Int32) (D : zM) : z_Ci mX3_isName [.ref 0, .int x] D (z_bo (z_nm x (D 0 7)) D) :=
  bX3_isName_0 (fun h => ⟨rfl, Or.inr ⟨fun q => absurd h (Int32.not_lt.mpr q.1), rfl⟩⟩) (fun _ h => ⟨rfl, Or.inr ⟨fun q => absurd q.2 (Int32.not_lt.mpr h), rfl⟩⟩) (fun h h2 => ⟨rfl, Or.inl ⟨⟨Int32.not_lt.mp h, Int32.not_le.mp h2⟩, rfl⟩⟩)
set_option maxRecDepth 20000 in
theorem bX0_has_0 {x1 : Int32} {D : zM} {P : Option Int32 → zM → Prop}  (k1 : x1 < 0 → P (some 0) D) (k2 : ¬ x1 < 0 → (D 1 6) ≤ x1 → P (some 0) D) (k3 : ¬ x1 < 0 → ¬ (D 1 6) ≤ x1 → P (some 1) D) : z_Ok mX0_has 0 [some (.ref 1), some (.int x1)] [] D P := z_iload_n 1 dX0_has_0 rfl rfl <| z_if_lt (x := x1) 16 dX0_has_1 (by decide) (fun c1 => z_iconst (v := 0) dX0_has_16 (by decide) <| z_ret (ty := .boolean) dX0_has_17 rfl rfl (k1 c1)) (fun c2 => z_iload_n 1 dX0_has_4 rfl rfl <| z_aload_n 0 dX0_has_5 rfl rfl <| z_geti 6 dX0_has_6 fRX0_33 rfl rfl <| z_icmp_ge (x := x1) (y := D 1 6) 16 dX0_has_9 (by decide) (fun c3 => z_iconst (v := 0) dX0_has_16 (by decide) <| z_ret (ty := .boolean) dX0_has_17 rfl rfl (k2 c2 c3)) (fun c4 => z_iconst (v := 1) dX0_has_12 (by decide) <| z_goto 17 dX0_has_13 (by decide) <| z_ret (ty := .boolean) dX0_has_17 rfl rfl (k3 c2 c4)))
theorem uX0_has (x : Int32) (D : zM) : z_Ci mX0_has [.ref 1, .int x] D (z_bo (z_nm x (D 1 6)) D) :=
  bX0_has_0 (fun h => ⟨rfl, Or.inr ⟨fun q => absurd h (Int32.not_lt.mpr q.1), rfl⟩⟩) (fun _ h => ⟨rfl, Or.inr ⟨fun q => absurd q.2 (Int32.not_lt.mpr h), rfl⟩⟩) (fun h h2 => ⟨rfl, Or.inl ⟨⟨Int32.not_lt.mp h, Int32.not_le.mp h2⟩, rfl⟩⟩)
set_option maxRecDepth 20000 in
theorem bJ6_bitCount_0f7a4_0 {x0 : Int32} {D : zM} {P : Option Int32 → zM → Prop}  (k1 : P (some ((((((((x0 - (((x0.toUInt32 >>> ((1 : Int32).toUInt32 &&& Int32.toUInt32 31)).toInt32) &&& 1431655765)) &&& 858993459) + ((((x0 - (((x0.toUInt32 >>> ((1 : Int32).toUInt32 &&& Int32.toUInt32 31)).toInt32) &&& 1431655765)).toUInt32 >>> ((2 : Int32).toUInt32 &&& Int32.toUInt32 31)).toInt32) &&& 858993459)) + (((((x0 - (((x0.toUInt32 >>> ((1 : Int32).toUInt32 &&& Int32.toUInt32 31)).toInt32) &&& 1431655765)) &&& 858993459) + ((((x0 - (((x0.toUInt32 >>> ((1 : Int32).toUInt32 &&& Int32.toUInt32 31)).toInt32) &&& 1431655765)).toUInt32 >>> ((2 : Int32).toUInt32 &&& Int32.toUInt32 31)).toInt32) &&& 858993459)).toUInt32 >>> ((4 : Int32).toUInt32 &&& Int32.toUInt32 31)).toInt32)) &&& 252645135) + (((((((x0 - (((x0.toUInt32 >>> ((1 : Int32).toUInt32 &&& Int32.toUInt32 31)).toInt32) &&& 1431655765)) &&& 858993459) + ((((x0 - (((x0.toUInt32 >>> ((1 : Int32).toUInt32 &&& Int32.toUInt32 31)).toInt32) &&& 1431655765)).toUInt32 >>> ((2 : Int32).toUInt32 &&& Int32.toUInt32 31)).toInt32) &&& 858993459)) + (((((x0 - (((x0.toUInt32 >>> ((1 : Int32).toUInt32 &&& Int32.toUInt32 31)).toInt32) &&& 1431655765)) &&& 858993459) + ((((x0 - (((x0.toUInt32 >>> ((1 : Int32).toUInt32 &&& Int32.toUInt32 31)).toInt32) &&& 1431655765)).toUInt32 >>> ((2 : Int32).toUInt32 &&& Int32.toUInt32 31)).toInt32) &&& 858993459)).toUInt32 >>> ((4 : Int32).toUInt32 &&& Int32.toUInt32 31)).toInt32)) &&& 252645135).toUInt32 >>> ((8 : Int32).toUInt32 &&& Int32.toUInt32 31)).toInt32)) + ((((((((x0 - (((x0.toUInt32 >>> ((1 : Int32).toUInt32 &&& Int32.toUInt32 31)).toInt32) &&& 1431655765)) &&& 858993459) + ((((x0 - (((x0.toUInt32 >>> ((1 : Int32).toUInt32 &&& Int32.toUInt32 31)).toInt32) &&& 1431655765)).toUInt32 >>> ((2 : Int32).toUInt32 &&& Int32.toUInt32 31)).toInt32) &&& 858993459)) + (((((x0 - (((x0.toUInt32 >>> ((1 : Int32).toUInt32 &&& Int32.toUInt32 31)).toInt32) &&& 1431655765)) &&& 858993459) + ((((x0 - (((x0.toUInt32 >>> ((1 : Int32).toUInt32 &&& Int32.toUInt32 31)).toInt32) &&& 1431655765)).toUInt32 >>> ((2 : Int32).toUInt32 &&& Int32.toUInt32 31)).toInt32) &&& 858993459)).toUInt32 >>> ((4 : Int32).toUInt32 &&& Int32.toUInt32 31)).toInt32)) &&& 252645135) + (((((((x0 - (((x0.toUInt32 >>> ((1 : Int32).toUInt32 &&& Int32.toUInt32 31)).toInt32) &&& 1431655765)) &&& 858993459) + ((((x0 - (((x0.toUInt32 >>> ((1 : Int32).toUInt32 &&& Int32.toUInt32 31)).toInt32) &&& 1431655765)).toUInt32 >>> ((2 : Int32).toUInt32 &&& Int32.toUInt32 31)).toInt32) &&& 858993459)) + (((((x0 - (((x0.toUInt32 >>> ((1 : Int32).toUInt32 &&& Int32.toUInt32 31)).toInt32) &&& 1431655765)) &&& 858993459) + ((((x0 - (((x0.toUInt32 >>> ((1 : Int32).toUInt32 &&& Int32.toUInt32 31)).toInt32) &&& 1431655765)).toUInt32 >>> ((2 : Int32).toUInt32 &&& Int32.toUInt32 31)).toInt32) &&& 858993459)).toUInt32 >>> ((4 : Int32).toUInt32 &&& Int32.toUInt32 31)).toInt32)) &&& 252645135).toUInt32 >>> ((8 : Int32).toUInt32 &&& Int32.toUInt32 31)).toInt32)).toUInt32 >>> ((16 : Int32).toUInt32 &&& Int32.toUInt32 31)).toInt32)) &&& 63)) D) : z_Ok mJ6_bitCount_0f7a4 0 [some (.int x0)] [] D P := z_iload_n 0 dJ6_bitCount_0f7a4_0 rfl rfl <| z_iload_n 0 dJ6_bitCount_0f7a4_1 rfl rfl <| z_iconst (v := 1) dJ6_bitCount_0f7a4_2 (by decide) <| z_iushr dJ6_bitCount_0f7a4_3 <| z_ldcw (v := 1431655765) dJ6_bitCount_0f7a4_4 qRJ6_265 <| z_iand dJ6_bitCount_0f7a4_7 <| z_isub dJ6_bitCount_0f7a4_8 <| z_istore_n 0 dJ6_bitCount_0f7a4_9 rfl rfl <| z_iload_n 0 dJ6_bitCount_0f7a4_10 rfl rfl <| z_ldcw (v := 858993459) dJ6_bitCount_0f7a4_11 qRJ6_266 <| z_iand dJ6_bitCount_0f7a4_14 <| z_iload_n 0 dJ6_bitCount_0f7a4_15 rfl rfl <| z_iconst (v := 2) dJ6_bitCount_0f7a4_16 (by decide) <| z_iushr dJ6_bitCount_0f7a4_17 <| z_ldcw (v := 858993459) dJ6_bitCount_0f7a4_18 qRJ6_266 <| z_iand dJ6_bitCount_0f7a4_21 <| z_iadd dJ6_bitCount_0f7a4_22 <| z_istore_n 0 dJ6_bitCount_0f7a4_23 rfl rfl <| z_iload_n 0 dJ6_bitCount_0f7a4_24 rfl rfl <| z_iload_n 0 dJ6_bitCount_0f7a4_25 rfl rfl <| z_iconst (v := 4) dJ6_bitCount_0f7a4_26 (by decide) <| z_iushr dJ6_bitCount_0f7a4_27 <| z_iadd dJ6_bitCount_0f7a4_28 <| z_ldcw (v := 252645135) dJ6_bitCount_0f7a4_29 qRJ6_267 <| z_iand dJ6_bitCount_0f7a4_32 <| z_istore_n 0 dJ6_bitCount_0f7a4_33 rfl rfl <| z_iload_n 0 dJ6_bitCount_0f7a4_34 rfl rfl <| z_iload_n 0 dJ6_bitCount_0f7a4_35 rfl rfl <| z_bipush (v := 8) dJ6_bitCount_0f7a4_36 (by decide) <| z_iushr dJ6_bitCount_0f7a4_38 <| z_iadd dJ6_bitCount_0f7a4_39 <| z_istore_n 0 dJ6_bitCount_0f7a4_40 rfl rfl <| z_iload_n 0 dJ6_bitCount_0f7a4_41 rfl rfl <| z_iload_n 0 dJ6_bitCount_0f7a4_42 rfl rfl <| z_bipush (v := 16) dJ6_bitCount_0f7a4_43 (by decide) <| z_iushr dJ6_bitCount_0f7a4_45 <| z_iadd dJ6_bitCount_0f7a4_46 <| z_istore_n 0 dJ6_bitCount_0f7a4_47 rfl rfl <| z_iload_n 0 dJ6_bitCount_0f7a4_48 rfl rfl <| z_bipush (v := 63) dJ6_bitCount_0f7a4_49 (by decide) <| z_iand dJ6_bitCount_0f7a4_51 <| z_ret (ty := .int) dJ6_bitCount_0f7a4_52 rfl rfl (k1)
theorem uJ6_bitCount_0f7a4 (x : Int32) (D : zM) : z_Ci mJ6_bitCount_0f7a4 [.int x] D (z_va (z_bc x) D) :=
  bJ6_bitCount_0f7a4_0 ⟨rfl, rfl⟩
end
section
set_option maxRecDepth 20000 in
theorem bX0_joins_0 {x1 x2 : Int32} {D : zM} {P : Option Int32 → zM → Prop}  (k1 : z_Ok mX0_joins 16 [some (.ref 1), some (.int x1), some (.int x2), some (.int (if x2 < x1 then x2 else x1)), some (.int (if x1 < x2 then x2 else x1)), some (.int 0)] [] D P) : z_Ok mX0_joins 0 [some (.ref 1), some (.int x1), some (.int x2), none, none, none] [] D P := z_iload_n 1 dX0_joins_0 rfl rfl <| z_iload_n 2 dX0_joins_1 rfl rfl <| z_mmin dX0_joins_2 kRX0_37 (by decide) (by simp [Value.category]) <| z_istore_n 3 dX0_joins_5 rfl rfl <| z_iload_n 1 dX0_joins_6 rfl rfl <| z_iload_n 2 dX0_joins_7 rfl rfl <| z_mmax dX0_joins_8 kRX0_43 (by decide) (by simp [Value.category]) <| z_istore dX0_joins_11 rfl <| z_iconst (v := 0) dX0_joins_13 (by decide) <| z_istore dX0_joins_14 rfl <| k1
set_option maxRecDepth 20000 in
theorem bX0_joins_16 {x1 x2 x3 x4 x5 : Int32} {D : zM} {P : Option Int32 → zM → Prop}  (h1 : ¬ (D 1 6) ≤ x5 → vp_in x5 14) (k1 : (D 1 6) ≤ x5 → P (some 0) D) (k2 : ¬ (D 1 6) ≤ x5 → ¬ (D 2 x5.toNatClampNeg) = x3 → z_Ok mX0_joins 16 [some (.ref 1), some (.int x1), some (.int x2), some (.int x3), some (.int x4), some (.int (x5 + 1))] [] D P) (k3 : ¬ (D 1 6) ≤ x5 → (D 2 x5.toNatClampNeg) = x3 → ¬ (D 3 x5.toNatClampNeg) = x4 → z_Ok mX0_joins 16 [some (.ref 1), some (.int x1), some (.int x2), some (.int x3), some (.int x4), some (.int (x5 + 1))] [] D P) (k4 : ¬ (D 1 6) ≤ x5 → (D 2 x5.toNatClampNeg) = x3 → (D 3 x5.toNatClampNeg) = x4 → P (some 1) D) : z_Ok mX0_joins 16 [some (.ref 1), some (.int x1), some (.int x2), some (.int x3), some (.int x4), some (.int x5)] [] D P := z_iload dX0_joins_16 rfl <| z_aload_n 0 dX0_joins_18 rfl rfl <| z_geti 6 dX0_joins_19 fRX0_33 rfl rfl <| z_icmp_ge (x := x5) (y := D 1 6) 56 dX0_joins_22 (by decide) (fun c1 => z_iconst (v := 0) dX0_joins_56 (by decide) <| z_ret (ty := .boolean) dX0_joins_57 rfl rfl (k1 c1)) (fun c2 => z_aload_n 0 dX0_joins_25 rfl rfl <| z_getr 0 2 dX0_joins_26 fRX0_9 rfl rfl <| z_iload dX0_joins_29 rfl <| z_iald dX0_joins_31 rfl (h1 c2) <| z_iload_n 3 dX0_joins_32 rfl rfl <| z_icmp_ne (x := D 2 x5.toNatClampNeg) (y := x3) 50 dX0_joins_33 (by decide) (fun c3 => z_iinc (v := x5 + 1) dX0_joins_50 rfl rfl rfl <| z_goto 16 dX0_joins_53 (by decide) <| k2 c2 c3) (fun c4 => z_aload_n 0 dX0_joins_36 rfl rfl <| z_getr 1 3 dX0_joins_37 fRX0_15 rfl rfl <| z_iload dX0_joins_40 rfl <| z_iald dX0_joins_42 rfl (h1 c2) <| z_iload dX0_joins_43 rfl <| z_icmp_ne (x := D 3 x5.toNatClampNeg) (y := x4) 50 dX0_joins_45 (by decide) (fun c5 => z_iinc (v := x5 + 1) dX0_joins_50 rfl rfl rfl <| z_goto 16 dX0_joins_53 (by decide) <| k3 c2 c4 c5) (fun c6 => z_iconst (v := 1) dX0_joins_48 (by decide) <| z_ret (ty := .boolean) dX0_joins_49 rfl rfl (k4 c2 c4 c6))))
set_option maxRecDepth 20000 in
theorem bX0_add_0 {x1 x2 x3 : Int32} {D : zM} {P : Option Int32 → zM → Prop}  (h1 : vp_in (D 1 6) 14) (k1 : z_Ok mX0_add 60 [some (.ref 1), some (.int x1), some (.int x2), some (.int x3), some (.int (D 1 6))] [.int 1, .int (D 1 6), .ref 1] (z_up (z_up (z_up (z_up (z_up D 1 6 ((D 1 6) + 1)) 2 (D 1 6).toNatClampNeg (if x2 < x1 then x2 else x1)) 3 (D 1 6).toNatClampNeg (if x1 < x2 then x2 else x1)) 4 (D 1 6).toNatClampNeg x3) 5 (D 1 6).toNatClampNeg 0) P) : z_Ok mX0_add 0 [some (.ref 1), some (.int x1), some (.int x2), some (.int x3), none] [] D P := z_aload_n 0 dX0_add_0 rfl rfl <| z_geti 6 dX0_add_1 fRX0_33 rfl rfl <| z_istore dX0_add_4 rfl <| z_aload_n 0 dX0_add_6 rfl rfl <| z_dup dX0_add_7 rfl <| z_geti 6 dX0_add_8 fRX0_33 rfl rfl <| z_iconst (v := 1) dX0_add_11 (by decide) <| z_iadd dX0_add_12 <| z_put 6 dX0_add_13 pRX0_33 rfl rfl <| z_aload_n 0 dX0_add_16 rfl rfl <| z_getr 0 2 dX0_add_17 fRX0_9 rfl rfl <| z_iload dX0_add_20 rfl <| z_iload_n 1 dX0_add_22 rfl rfl <| z_iload_n 2 dX0_add_23 rfl rfl <| z_mmin dX0_add_24 kRX0_37 (by decide) (by simp [Value.category]) <| z_iast dX0_add_27 rfl h1 <| z_aload_n 0 dX0_add_28 rfl rfl <| z_getr 1 3 dX0_add_29 fRX0_15 rfl rfl <| z_iload dX0_add_32 rfl <| z_iload_n 1 dX0_add_34 rfl rfl <| z_iload_n 2 dX0_add_35 rfl rfl <| z_mmax dX0_add_36 kRX0_43 (by decide) (by simp [Value.category]) <| z_iast dX0_add_39 rfl h1 <| z_aload_n 0 dX0_add_40 rfl rfl <| z_getr 2 4 dX0_add_41 fRX0_18 rfl rfl <| z_iload dX0_add_44 rfl <| z_iload_n 3 dX0_add_46 rfl rfl <| z_iast dX0_add_47 rfl h1 <| z_aload_n 0 dX0_add_48 rfl rfl <| z_getr 3 5 dX0_add_49 fRX0_21 rfl rfl <| z_iload dX0_add_52 rfl <| z_iconst (v := 0) dX0_add_54 (by decide) <| z_bast dX0_add_55 rfl h1 rfl <| z_aload_n 0 dX0_add_56 rfl rfl <| z_iload dX0_add_57 rfl <| z_iconst (v := 1) dX0_add_59 (by decide) <| k1
set_option maxRecDepth 20000 in
theorem sX0_add_60 {lv : List (Option Value)} {v0 v1 : Int32} {D : zM} {P : Option Int32 → zM → Prop} {Q : Int32 → zM → Prop} (hC : z_Ci mX0_turn [.ref 1, .int v0, .int v1] D Q) (kk : ∀ r D1, Q r D1 → z_Ok mX0_add 63 lv [.int r] D1 P) : z_Ok mX0_add 60 lv [.int v1, .int v0, .ref 1] D P := z_callV (n := 2) [.int v0, .int v1] [] dX0_add_60 tX0_turn kRX0_46 (by decide) pnX0_turn rfl rfl rfl rfl (Nat.le_of_ble_eq_true rfl) (by simp [Value.category]) (by simp [Value.category]) hC (fun r D1 q1 => z_intr q1 (fun r q => kk r D1 q))
set_option maxRecDepth 20000 in
theorem bX0_add_63 {x1 x2 x3 x4 y0 : Int32} {D : zM} {P : Option Int32 → zM → Prop}  (k1 : P (some x4) D) : z_Ok mX0_add 63 [some (.ref 1), some (.int x1), some (.int x2), some (.int x3), some (.int x4)] [.int y0] D P := z_pop dX0_add_63 rfl <| z_iload dX0_add_64 rfl <| z_ret (ty := .int) dX0_add_66 rfl rfl (k1)
set_option maxRecDepth 20000 in
theorem bX0_removeLast_0 {D : zM} {P : Option Int32 → zM → Prop}  (k1 : z_Ok mX0_removeLast 8 [some (.ref 1)] [.int 0, .int ((D 1 6) - 1), .ref 1] D P) : z_Ok mX0_removeLast 0 [some (.ref 1)] [] D P := z_aload_n 0 dX0_removeLast_0 rfl rfl <| z_aload_n 0 dX0_removeLast_1 rfl rfl <| z_geti 6 dX0_removeLast_2 fRX0_33 rfl rfl <| z_iconst (v := 1) dX0_removeLast_5 (by decide) <| z_isub dX0_removeLast_6 <| z_iconst (v := 0) dX0_removeLast_7 (by decide) <| k1
set_option maxRecDepth 20000 in
theorem sX0_removeLast_8 {lv : List (Option Value)} {v0 v1 : Int32} {D : zM} {P : Option Int32 → zM → Prop} {Q : Int32 → zM → Prop} (hC : z_Ci mX0_turn [.ref 1, .int v0, .int v1] D Q) (kk : ∀ r D1, Q r D1 → z_Ok mX0_removeLast 11 lv [.int r] D1 P) : z_Ok mX0_removeLast 8 lv [.int v1, .int v0, .ref 1] D P := z_callV (n := 2) [.int v0, .int v1] [] dX0_removeLast_8 tX0_turn kRX0_46 (by decide) pnX0_turn rfl rfl rfl rfl (Nat.le_of_ble_eq_true rfl) (by simp [Value.category]) (by simp [Value.category]) hC (fun r D1 q1 => z_intr q1 (fun r q => kk r D1 q))
set_option maxRecDepth 20000 in
theorem bX0_removeLast_11 {y0 : Int32} {D : zM} {P : Option Int32 → zM → Prop}  (k1 : P (some ((D 1 6) - 1)) (z_up D 1 6 ((D 1 6) - 1))) : z_Ok mX0_removeLast 11 [some (.ref 1)] [.int y0] D P := z_pop dX0_removeLast_11 rfl <| z_aload_n 0 dX0_removeLast_12 rfl rfl <| z_dup dX0_removeLast_13 rfl <| z_geti 6 dX0_removeLast_14 fRX0_33 rfl rfl <| z_iconst (v := 1) dX0_removeLast_17 (by decide) <| z_isub dX0_removeLast_18 <| z_put 6 dX0_removeLast_19 pRX0_33 rfl rfl <| z_aload_n 0 dX0_removeLast_22 rfl rfl <| z_geti 6 dX0_removeLast_23 fRX0_33 rfl rfl <| z_ret (ty := .int) dX0_removeLast_26 rfl rfl (k1)
set_option maxRecDepth 20000 in
theorem bX0_turn_0 {x1 x2 : Int32} {D : zM} {P : Option Int32 → zM → Prop}  (h1 : vp_in x1 14) (h2 : ¬ (D 5 x1.toNatClampNeg) = x2 → vp_nar .boolean x2 = x2) (h3 : ¬ (D 5 x1.toNatClampNeg) = x2 → vp_in (D 2 x1.toNatClampNeg) 10) (h4 : ¬ (D 5 x1.toNatClampNeg) = x2 → vp_in (D 3 x1.toNatClampNeg) 10) (k1 : ¬ (D 5 x1.toNatClampNeg) = x2 → x2 = 0 → P (some 1) (z_up (z_up (z_up (z_up (z_up D 5 x1.toNatClampNeg x2) 6 (D 2 x1.toNatClampNeg).toNatClampNeg ((D 6 (D 2 x1.toNatClampNeg).toNatClampNeg) ^^^ ((1 : Int32) <<< ((D 3 x1.toNatClampNeg) &&& 31)))) 6 (D 3 x1.toNatClampNeg).toNatClampNeg (((z_up (z_up D 5 x1.toNatClampNeg x2) 6 (D 2 x1.toNatClampNeg).toNatClampNeg ((D 6 (D 2 x1.toNatClampNeg).toNatClampNeg) ^^^ ((1 : Int32) <<< ((D 3 x1.toNatClampNeg) &&& 31)))) 6 (D 3 x1.toNatClampNeg).toNatClampNeg) ^^^ ((1 : Int32) <<< ((D 2 x1.toNatClampNeg) &&& 31)))) (8 + (D 2 x1.toNatClampNeg).toNatClampNeg) (D 3 x1.toNatClampNeg).toNatClampNeg 0) (8 + (D 3 x1.toNatClampNeg).toNatClampNeg) (D 2 x1.toNatClampNeg).toNatClampNeg ((z_up (z_up (z_up (z_up D 5 x1.toNatClampNeg x2) 6 (D 2 x1.toNatClampNeg).toNatClampNeg ((D 6 (D 2 x1.toNatClampNeg).toNatClampNeg) ^^^ ((1 : Int32) <<< ((D 3 x1.toNatClampNeg) &&& 31)))) 6 (D 3 x1.toNatClampNeg).toNatClampNeg (((z_up (z_up D 5 x1.toNatClampNeg x2) 6 (D 2 x1.toNatClampNeg).toNatClampNeg ((D 6 (D 2 x1.toNatClampNeg).toNatClampNeg) ^^^ ((1 : Int32) <<< ((D 3 x1.toNatClampNeg) &&& 31)))) 6 (D 3 x1.toNatClampNeg).toNatClampNeg) ^^^ ((1 : Int32) <<< ((D 2 x1.toNatClampNeg) &&& 31)))) (8 + (D 2 x1.toNatClampNeg).toNatClampNeg) (D 3 x1.toNatClampNeg).toNatClampNeg 0) (8 + (D 2 x1.toNatClampNeg).toNatClampNeg) (D 3 x1.toNatClampNeg).toNatClampNeg))) (k2 : ¬ (D 5 x1.toNatClampNeg) = x2 → ¬ x2 = 0 → P (some 1) (z_up (z_up (z_up (z_up (z_up D 5 x1.toNatClampNeg x2) 6 (D 2 x1.toNatClampNeg).toNatClampNeg ((D 6 (D 2 x1.toNatClampNeg).toNatClampNeg) ^^^ ((1 : Int32) <<< ((D 3 x1.toNatClampNeg) &&& 31)))) 6 (D 3 x1.toNatClampNeg).toNatClampNeg (((z_up (z_up D 5 x1.toNatClampNeg x2) 6 (D 2 x1.toNatClampNeg).toNatClampNeg ((D 6 (D 2 x1.toNatClampNeg).toNatClampNeg) ^^^ ((1 : Int32) <<< ((D 3 x1.toNatClampNeg) &&& 31)))) 6 (D 3 x1.toNatClampNeg).toNatClampNeg) ^^^ ((1 : Int32) <<< ((D 2 x1.toNatClampNeg) &&& 31)))) (8 + (D 2 x1.toNatClampNeg).toNatClampNeg) (D 3 x1.toNatClampNeg).toNatClampNeg (D 4 x1.toNatClampNeg)) (8 + (D 3 x1.toNatClampNeg).toNatClampNeg) (D 2 x1.toNatClampNeg).toNatClampNeg ((z_up (z_up (z_up (z_up D 5 x1.toNatClampNeg x2) 6 (D 2 x1.toNatClampNeg).toNatClampNeg ((D 6 (D 2 x1.toNatClampNeg).toNatClampNeg) ^^^ ((1 : Int32) <<< ((D 3 x1.toNatClampNeg) &&& 31)))) 6 (D 3 x1.toNatClampNeg).toNatClampNeg (((z_up (z_up D 5 x1.toNatClampNeg x2) 6 (D 2 x1.toNatClampNeg).toNatClampNeg ((D 6 (D 2 x1.toNatClampNeg).toNatClampNeg) ^^^ ((1 : Int32) <<< ((D 3 x1.toNatClampNeg) &&& 31)))) 6 (D 3 x1.toNatClampNeg).toNatClampNeg) ^^^ ((1 : Int32) <<< ((D 2 x1.toNatClampNeg) &&& 31)))) (8 + (D 2 x1.toNatClampNeg).toNatClampNeg) (D 3 x1.toNatClampNeg).toNatClampNeg (D 4 x1.toNatClampNeg)) (8 + (D 2 x1.toNatClampNeg).toNatClampNeg) (D 3 x1.toNatClampNeg).toNatClampNeg))) (k3 : (D 5 x1.toNatClampNeg) = x2 → P (some 0) D) : z_Ok mX0_turn 0 [some (.ref 1), some (.int x1), some (.int x2), none, none] [] D P := z_aload_n 0 dX0_turn_0 rfl rfl <| z_getr 3 5 dX0_turn_1 fRX0_21 rfl rfl <| z_iload_n 1 dX0_turn_4 rfl rfl <| z_bald dX0_turn_5 rfl h1 <| z_iload_n 2 dX0_turn_6 rfl rfl <| z_icmp_ne (x := D 5 x1.toNatClampNeg) (y := x2) 12 dX0_turn_7 (by decide) (fun c1 => z_aload_n 0 dX0_turn_12 rfl rfl <| z_getr 3 5 dX0_turn_13 fRX0_21 rfl rfl <| z_iload_n 1 dX0_turn_16 rfl rfl <| z_iload_n 2 dX0_turn_17 rfl rfl <| z_bast dX0_turn_18 rfl h1 (h2 c1) <| z_aload_n 0 dX0_turn_19 rfl rfl <| z_getr 0 2 dX0_turn_20 fRX0_9 rfl rfl <| z_iload_n 1 dX0_turn_23 rfl rfl <| z_iald dX0_turn_24 rfl h1 <| z_istore_n 3 dX0_turn_25 rfl rfl <| z_aload_n 0 dX0_turn_26 rfl rfl <| z_getr 1 3 dX0_turn_27 fRX0_15 rfl rfl <| z_iload_n 1 dX0_turn_30 rfl rfl <| z_iald dX0_turn_31 rfl h1 <| z_istore dX0_turn_32 rfl <| z_aload_n 0 dX0_turn_34 rfl rfl <| z_getr 4 6 dX0_turn_35 fRX0_25 rfl rfl <| z_iload_n 3 dX0_turn_38 rfl rfl <| z_dup2 dX0_turn_39 rfl rfl <| z_iald dX0_turn_40 rfl (h3 c1) <| z_iconst (v := 1) dX0_turn_41 (by decide) <| z_iload dX0_turn_42 rfl <| z_ishl dX0_turn_44 <| z_ixor dX0_turn_45 <| z_iast dX0_turn_46 rfl (h3 c1) <| z_aload_n 0 dX0_turn_47 rfl rfl <| z_getr 4 6 dX0_turn_48 fRX0_25 rfl rfl <| z_iload dX0_turn_51 rfl <| z_dup2 dX0_turn_53 rfl rfl <| z_iald dX0_turn_54 rfl (h4 c1) <| z_iconst (v := 1) dX0_turn_55 (by decide) <| z_iload_n 3 dX0_turn_56 rfl rfl <| z_ishl dX0_turn_57 <| z_ixor dX0_turn_58 <| z_iast dX0_turn_59 rfl (h4 c1) <| z_aload_n 0 dX0_turn_60 rfl rfl <| z_getr 5 7 dX0_turn_61 fRX0_30 rfl rfl <| z_iload_n 3 dX0_turn_64 rfl rfl <| z_aald dX0_turn_65 rfl (h3 c1) <| z_iload dX0_turn_66 rfl <| z_iload_n 2 dX0_turn_68 rfl rfl <| z_if_eq (x := x2) 81 dX0_turn_69 (by decide) (fun c2 => z_iconst (v := 0) dX0_turn_81 (by decide) <| z_iast dX0_turn_82 (z_r8 (h3 c1)) (h4 c1) <| z_aload_n 0 dX0_turn_83 rfl rfl <| z_getr 5 7 dX0_turn_84 fRX0_30 rfl rfl <| z_iload dX0_turn_87 rfl <| z_aald dX0_turn_89 rfl (h4 c1) <| z_iload_n 3 dX0_turn_90 rfl rfl <| z_aload_n 0 dX0_turn_91 rfl rfl <| z_getr 5 7 dX0_turn_92 fRX0_30 rfl rfl <| z_iload_n 3 dX0_turn_95 rfl rfl <| z_aald dX0_turn_96 rfl (h3 c1) <| z_iload dX0_turn_97 rfl <| z_iald dX0_turn_99 (z_r8 (h3 c1)) (h4 c1) <| z_iast dX0_turn_100 (z_r8 (h4 c1)) (h3 c1) <| z_iconst (v := 1) dX0_turn_101 (by decide) <| z_ret (ty := .boolean) dX0_turn_102 rfl rfl (k1 c1 c2)) (fun c3 => z_aload_n 0 dX0_turn_72 rfl rfl <| z_getr 2 4 dX0_turn_73 fRX0_18 rfl rfl <| z_iload_n 1 dX0_turn_76 rfl rfl <| z_iald dX0_turn_77 rfl h1 <| z_goto 82 dX0_turn_78 (by decide) <| z_iast dX0_turn_82 (z_r8 (h3 c1)) (h4 c1) <| z_aload_n 0 dX0_turn_83 rfl rfl <| z_getr 5 7 dX0_turn_84 fRX0_30 rfl rfl <| z_iload dX0_turn_87 rfl <| z_aald dX0_turn_89 rfl (h4 c1) <| z_iload_n 3 dX0_turn_90 rfl rfl <| z_aload_n 0 dX0_turn_91 rfl rfl <| z_getr 5 7 dX0_turn_92 fRX0_30 rfl rfl <| z_iload_n 3 dX0_turn_95 rfl rfl <| z_aald dX0_turn_96 rfl (h3 c1) <| z_iload dX0_turn_97 rfl <| z_iald dX0_turn_99 (z_r8 (h3 c1)) (h4 c1) <| z_iast dX0_turn_100 (z_r8 (h4 c1)) (h3 c1) <| z_iconst (v := 1) dX0_turn_101 (by decide) <| z_ret (ty := .boolean) dX0_turn_102 rfl rfl (k2 c1 c3))) (fun c4 => z_iconst (v := 0) dX0_turn_10 (by decide) <| z_ret (ty := .boolean) dX0_turn_11 rfl rfl (k3 c4))
set_option maxRecDepth 20000 in
theorem bX0_countOpen_0 {D : zM} {P : Option Int32 → zM → Prop}  (k1 : z_Ok mX0_countOpen 4 [some (.ref 1), some (.int 0), some (.int 0)] [] D P) : z_Ok mX0_countOpen 0 [some (.ref 1), none, none] [] D P := z_iconst (v := 0) dX0_countOpen_0 (by decide) <| z_istore_n 1 dX0_countOpen_1 rfl rfl <| z_iconst (v := 0) dX0_countOpen_2 (by decide) <| z_istore_n 2 dX0_countOpen_3 rfl rfl <| k1
set_option maxRecDepth 20000 in
theorem bX0_countOpen_4 {x1 x2 : Int32} {D : zM} {P : Option Int32 → zM → Prop}  (h1 : ¬ (D 1 6) ≤ x2 → vp_in x2 14) (k1 : (D 1 6) ≤ x2 → P (some x1) D) (k2 : ¬ (D 1 6) ≤ x2 → (D 5 x2.toNatClampNeg) = 0 → z_Ok mX0_countOpen 4 [some (.ref 1), some (.int x1), some (.int (x2 + 1))] [] D P) (k3 : ¬ (D 1 6) ≤ x2 → ¬ (D 5 x2.toNatClampNeg) = 0 → z_Ok mX0_countOpen 4 [some (.ref 1), some (.int (x1 + 1)), some (.int (x2 + 1))] [] D P) : z_Ok mX0_countOpen 4 [some (.ref 1), some (.int x1), some (.int x2)] [] D P := z_iload_n 2 dX0_countOpen_4 rfl rfl <| z_aload_n 0 dX0_countOpen_5 rfl rfl <| z_geti 6 dX0_countOpen_6 fRX0_33 rfl rfl <| z_icmp_ge (x := x2) (y := D 1 6) 30 dX0_countOpen_9 (by decide) (fun c1 => z_iload_n 1 dX0_countOpen_30 rfl rfl <| z_ret (ty := .int) dX0_countOpen_31 rfl rfl (k1 c1)) (fun c2 => z_aload_n 0 dX0_countOpen_12 rfl rfl <| z_getr 3 5 dX0_countOpen_13 fRX0_21 rfl rfl <| z_iload_n 2 dX0_countOpen_16 rfl rfl <| z_bald dX0_countOpen_17 rfl (h1 c2) <| z_if_eq (x := D 5 x2.toNatClampNeg) 24 dX0_countOpen_18 (by decide) (fun c3 => z_iinc (v := x2 + 1) dX0_countOpen_24 rfl rfl rfl <| z_goto 4 dX0_countOpen_27 (by decide) <| k2 c2 c3) (fun c4 => z_iinc (v := x1 + 1) dX0_countOpen_21 rfl rfl rfl <| z_iinc (v := x2 + 1) dX0_countOpen_24 rfl rfl rfl <| z_goto 4 dX0_countOpen_27 (by decide) <| k3 c2 c4))
set_option maxRecDepth 20000 in
theorem bX1_go_0 {x2 x3 : Int32} {D : zM} {P : Option Int32 → zM → Prop} {f : Nat} (hf : z_sh[f]? = some (.inl (1, [some (f + 1), some (f + 2), none, none, none]))) (hf1 : z_sh[f + 1]? = some (.inr (.inl (0, 30)))) (hf2 : z_sh[f + 2]? = some (.inr (.inl (0, 10)))) {r : Nat} (hr : z_sh[r]? = some (.inr (.inl (0, 10)))) (k1 : z_Ok mX1_go 5 [some (.ref f), some (.ref 1), some (.int x2), some (.int x3), some (.ref r), none, none, none, none] [.int 0, .ref (f + 2)] D P) : z_Ok mX1_go 0 [some (.ref f), some (.ref 1), some (.int x2), some (.int x3), some (.ref r), none, none, none, none] [] D P := z_aload_n 0 dX1_go_0 rfl rfl <| z_getr 1 (f + 2) dX1_go_1 fRX1_15 hf rfl <| z_iconst (v := 0) dX1_go_4 (by decide) <| k1
set_option maxRecDepth 20000 in
theorem sX1_go_5 {lv : List (Option Value)} {v1 : Int32} {v0 : Nat} {D : zM} {P : Option Int32 → zM → Prop} {Q : zM → Prop} (hC : z_Cv mJ7_fill_53178 [.ref v0, .int v1] D Q) (kk : ∀ D1, Q D1 → z_Ok mX1_go 8 lv [] D1 P) : z_Ok mX1_go 5 lv [.int v1, .ref v0] D P := z_callS (n := 2) [.ref v0, .int v1] [] dX1_go_5 tJ7_fill_53178 kRX1_28 (by decide) pnJ7_fill_53178 rfl rfl (Nat.le_of_ble_eq_true rfl) (by simp [Value.category]) (by simp [Value.category]) hC (fun r D1 q1 => z_void q1 (fun q => kk D1 q))
set_option maxRecDepth 20000 in
theorem bX1_go_8 {x2 x3 : Int32} {D : zM} {P : Option Int32 → zM → Prop} {f : Nat} (hf : z_sh[f]? = some (.inl (1, [some (f + 1), some (f + 2), none, none, none]))) (hf1 : z_sh[f + 1]? = some (.inr (.inl (0, 30)))) (hf2 : z_sh[f + 2]? = some (.inr (.inl (0, 10)))) {r : Nat} (hr : z_sh[r]? = some (.inr (.inl (0, 10)))) (h1 : vp_in 0 30) (k1 : z_Ok mX1_go 39 [some (.ref f), some (.ref 1), some (.int x2), some (.int x3), some (.ref r), some (.int x2), some (.int 0), some (.int 1), none] [] (z_up (z_up (z_up (z_up D (f + 1) (0 : Int32).toNatClampNeg x2) f 2 0) f 3 0) f 4 4) P) : z_Ok mX1_go 8 [some (.ref f), some (.ref 1), some (.int x2), some (.int x3), some (.ref r), none, none, none, none] [] D P := z_aload_n 0 dX1_go_8 rfl rfl <| z_getr 0 (f + 1) dX1_go_9 fRX1_9 hf rfl <| z_iconst (v := 0) dX1_go_12 (by decide) <| z_iload_n 2 dX1_go_13 rfl rfl <| z_iast dX1_go_14 hf1 h1 <| z_aload_n 0 dX1_go_15 rfl rfl <| z_iconst (v := 0) dX1_go_16 (by decide) <| z_put 2 dX1_go_17 pRX1_18 hf rfl <| z_aload_n 0 dX1_go_20 rfl rfl <| z_iconst (v := 0) dX1_go_21 (by decide) <| z_put 3 dX1_go_22 pRX1_22 hf rfl <| z_aload_n 0 dX1_go_25 rfl rfl <| z_iconst (v := 4) dX1_go_26 (by decide) <| z_put 4 dX1_go_27 pRX1_25 hf rfl <| z_iload_n 2 dX1_go_30 rfl rfl <| z_istore dX1_go_31 rfl <| z_iconst (v := 0) dX1_go_33 (by decide) <| z_istore dX1_go_34 rfl <| z_iconst (v := 1) dX1_go_36 (by decide) <| z_istore dX1_go_37 rfl <| k1
set_option maxRecDepth 20000 in
theorem bX1_go_39 {x2 x3 x5 x6 x7 : Int32} {o8 : Option Value} {D : zM} {P : Option Int32 → zM → Prop} {f : Nat} (hf : z_sh[f]? = some (.inl (1, [some (f + 1), some (f + 2), none, none, none]))) (hf1 : z_sh[f + 1]? = some (.inr (.inl (0, 30)))) (hf2 : z_sh[f + 2]? = some (.inr (.inl (0, 10)))) {r : Nat} (hr : z_sh[r]? = some (.inr (.inl (0, 10)))) (h1 : ¬ 29 < x7 → ¬ x5 = x3 → vp_in x5 10) (k1 : 29 < x7 → P none D) (k2 : ¬ 29 < x7 → ¬ x5 = x3 → z_Ok mX1_go 68 [some (.ref f), some (.ref 1), some (.int x2), some (.int x3), some (.ref r), some (.int x5), some (.int x6), some (.int x7), o8] [.int (D r x5.toNatClampNeg), .int x6, .int x5, .ref 1] D P) (k3 : ¬ 29 < x7 → x5 = x3 → P none (z_up D f 4 0)) : z_Ok mX1_go 39 [some (.ref f), some (.ref 1), some (.int x2), some (.int x3), some (.ref r), some (.int x5), some (.int x6), some (.int x7), o8] [] D P := z_iload dX1_go_39 rfl <| z_bipush (v := 29) dX1_go_41 (by decide) <| z_icmp_gt (x := x7) (y := 29) 162 dX1_go_43 (by decide) (fun c1 => z_vret dX1_go_162 rfl (k1 c1)) (fun c2 => z_iload dX1_go_46 rfl <| z_iload_n 3 dX1_go_48 rfl rfl <| z_icmp_ne (x := x5) (y := x3) 58 dX1_go_49 (by decide) (fun c3 => z_aload_n 1 dX1_go_58 rfl rfl <| z_iload dX1_go_59 rfl <| z_iload dX1_go_61 rfl <| z_aload dX1_go_63 rfl <| z_iload dX1_go_65 rfl <| z_iald dX1_go_67 hr (h1 c2 c3) <| k2 c2 c3) (fun c4 => z_aload_n 0 dX1_go_52 rfl rfl <| z_iconst (v := 0) dX1_go_53 (by decide) <| z_put 4 dX1_go_54 pRX1_25 hf rfl <| z_vret dX1_go_57 rfl (k3 c2 c4)))
set_option maxRecDepth 20000 in
theorem sX1_go_68 {lv : List (Option Value)} {v1 v2 v3 : Int32} {v0 : Nat} {D : zM} {P : Option Int32 → zM → Prop} {Q : Int32 → zM → Prop} (hC : z_Ci mX1_nextFrom [.ref v0, .int v1, .int v2, .int v3] D Q) (kk : ∀ r D1, Q r D1 → z_Ok mX1_go 71 lv [.int r] D1 P) : z_Ok mX1_go 68 lv [.int v3, .int v2, .int v1, .ref v0] D P := z_callS (n := 4) [.ref v0, .int v1, .int v2, .int v3] [] dX1_go_68 tX1_nextFrom kRX1_34 (by decide) pnX1_nextFrom rfl rfl (Nat.le_of_ble_eq_true rfl) (by simp [Value.category]) (by simp [Value.category]) hC (fun r D1 q1 => z_intr q1 (fun r q => kk r D1 q))
set_option maxRecDepth 20000 in
theorem bX1_go_71 {x2 x3 x5 x6 x7 y0 : Int32} {o8 : Option Value} {D : zM} {P : Option Int32 → zM → Prop} {f : Nat} (hf : z_sh[f]? = some (.inl (1, [some (f + 1), some (f + 2), none, none, none]))) (hf1 : z_sh[f + 1]? = some (.inr (.inl (0, 30)))) (hf2 : z_sh[f + 2]? = some (.inr (.inl (0, 10)))) {r : Nat} (hr : z_sh[r]? = some (.inr (.inl (0, 10)))) (h1 : 0 ≤ y0 → vp_in x7 30) (h2 : 0 ≤ y0 → vp_in x5 10) (h3 : 0 ≤ y0 → vp_in y0 10) (k1 : 0 ≤ y0 → (((z_up (z_up (z_up D (f + 1) x7.toNatClampNeg y0) f 2 x7) f 3 (((z_up (z_up D (f + 1) x7.toNatClampNeg y0) f 2 x7) f 3) + ((z_up (z_up D (f + 1) x7.toNatClampNeg y0) f 2 x7) (8 + x5.toNatClampNeg) y0.toNatClampNeg))) (f + 2) y0.toNatClampNeg) &&& ((1 : Int32) <<< (x5 &&& 31))) = 0 → z_Ok mX1_go 39 [some (.ref f), some (.ref 1), some (.int x2), some (.int x3), some (.ref r), some (.int y0), some (.int ((1 : Int32) <<< (x5 &&& 31))), some (.int (x7 + 1)), some (.int y0)] [] (z_up (z_up (z_up (z_up D (f + 1) x7.toNatClampNeg y0) f 2 x7) f 3 (((z_up (z_up D (f + 1) x7.toNatClampNeg y0) f 2 x7) f 3) + ((z_up (z_up D (f + 1) x7.toNatClampNeg y0) f 2 x7) (8 + x5.toNatClampNeg) y0.toNatClampNeg))) (f + 2) y0.toNatClampNeg (((z_up (z_up (z_up D (f + 1) x7.toNatClampNeg y0) f 2 x7) f 3 (((z_up (z_up D (f + 1) x7.toNatClampNeg y0) f 2 x7) f 3) + ((z_up (z_up D (f + 1) x7.toNatClampNeg y0) f 2 x7) (8 + x5.toNatClampNeg) y0.toNatClampNeg))) (f + 2) y0.toNatClampNeg) ||| ((1 : Int32) <<< (x5 &&& 31)))) P) (k2 : 0 ≤ y0 → ¬ (((z_up (z_up (z_up D (f + 1) x7.toNatClampNeg y0) f 2 x7) f 3 (((z_up (z_up D (f + 1) x7.toNatClampNeg y0) f 2 x7) f 3) + ((z_up (z_up D (f + 1) x7.toNatClampNeg y0) f 2 x7) (8 + x5.toNatClampNeg) y0.toNatClampNeg))) (f + 2) y0.toNatClampNeg) &&& ((1 : Int32) <<< (x5 &&& 31))) = 0 → P none (z_up (z_up (z_up D (f + 1) x7.toNatClampNeg y0) f 2 x7) f 3 (((z_up (z_up D (f + 1) x7.toNatClampNeg y0) f 2 x7) f 3) + ((z_up (z_up D (f + 1) x7.toNatClampNeg y0) f 2 x7) (8 + x5.toNatClampNeg) y0.toNatClampNeg)))) (k3 : ¬ 0 ≤ y0 → P none (z_up D f 4 (-y0))) : z_Ok mX1_go 71 [some (.ref f), some (.ref 1), some (.int x2), some (.int x3), some (.ref r), some (.int x5), some (.int x6), some (.int x7), o8] [.int y0] D P := z_istore dX1_go_71 rfl <| z_iload dX1_go_73 rfl <| z_if_ge (x := y0) 86 dX1_go_75 (by decide) (fun c1 => z_aload_n 0 dX1_go_86 rfl rfl <| z_getr 0 (f + 1) dX1_go_87 fRX1_9 hf rfl <| z_iload dX1_go_90 rfl <| z_iload dX1_go_92 rfl <| z_iast dX1_go_94 hf1 (h1 c1) <| z_aload_n 0 dX1_go_95 rfl rfl <| z_iload dX1_go_96 rfl <| z_put 2 dX1_go_98 pRX1_18 hf rfl <| z_aload_n 0 dX1_go_101 rfl rfl <| z_dup dX1_go_102 rfl <| z_geti 3 dX1_go_103 fRX1_22 hf rfl <| z_aload_n 1 dX1_go_106 rfl rfl <| z_getr 5 7 dX1_go_107 fRX1_38 rfl rfl <| z_iload dX1_go_110 rfl <| z_aald dX1_go_112 rfl (h2 c1) <| z_iload dX1_go_113 rfl <| z_iald dX1_go_115 (z_r8 (h2 c1)) (h3 c1) <| z_iadd dX1_go_116 <| z_put 3 dX1_go_117 pRX1_22 hf rfl <| z_iconst (v := 1) dX1_go_120 (by decide) <| z_iload dX1_go_121 rfl <| z_ishl dX1_go_123 <| z_istore dX1_go_124 rfl <| z_aload_n 0 dX1_go_126 rfl rfl <| z_getr 1 (f + 2) dX1_go_127 fRX1_15 hf rfl <| z_iload dX1_go_130 rfl <| z_iald dX1_go_132 hf2 (h3 c1) <| z_iload dX1_go_133 rfl <| z_iand dX1_go_135 <| z_if_eq (x := ((z_up (z_up (z_up D (f + 1) x7.toNatClampNeg y0) f 2 x7) f 3 (((z_up (z_up D (f + 1) x7.toNatClampNeg y0) f 2 x7) f 3) + ((z_up (z_up D (f + 1) x7.toNatClampNeg y0) f 2 x7) (8 + x5.toNatClampNeg) y0.toNatClampNeg))) (f + 2) y0.toNatClampNeg) &&& ((1 : Int32) <<< (x5 &&& 31))) 140 dX1_go_136 (by decide) (fun c2 => z_aload_n 0 dX1_go_140 rfl rfl <| z_getr 1 (f + 2) dX1_go_141 fRX1_15 hf rfl <| z_iload dX1_go_144 rfl <| z_dup2 dX1_go_146 rfl rfl <| z_iald dX1_go_147 hf2 (h3 c1) <| z_iload dX1_go_148 rfl <| z_ior dX1_go_150 <| z_iast dX1_go_151 hf2 (h3 c1) <| z_iload dX1_go_152 rfl <| z_istore dX1_go_154 rfl <| z_iinc (v := x7 + 1) dX1_go_156 rfl rfl rfl <| z_goto 39 dX1_go_159 (by decide) <| k1 c1 c2) (fun c3 => z_vret dX1_go_139 rfl (k2 c1 c3))) (fun c4 => z_aload_n 0 dX1_go_78 rfl rfl <| z_iload dX1_go_79 rfl <| z_ineg dX1_go_81 <| z_put 4 dX1_go_82 pRX1_25 hf rfl <| z_vret dX1_go_85 rfl (k3 c4))
set_option maxRecDepth 20000 in
theorem bX1_nextFrom_0 {x1 x2 x3 : Int32} {D : zM} {P : Option Int32 → zM → Prop}  (h1 : vp_in x1 10) (k1 : x3 = (-9) → ¬ ((D 6 x1.toNatClampNeg) &&& (x2 ^^^ (-1))) = 0 → (z_bc ((D 6 x1.toNatClampNeg) &&& (x2 ^^^ (-1)))) ≤ 1 → P (some (z_bc (((D 6 x1.toNatClampNeg) &&& (x2 ^^^ (-1))) - 1))) D) (k2 : x3 = (-9) → ¬ ((D 6 x1.toNatClampNeg) &&& (x2 ^^^ (-1))) = 0 → ¬ (z_bc ((D 6 x1.toNatClampNeg) &&& (x2 ^^^ (-1)))) ≤ 1 → P (some (-1)) D) (k3 : x3 = (-9) → ((D 6 x1.toNatClampNeg) &&& (x2 ^^^ (-1))) = 0 → P (some (-2)) D) (k4 : ¬ x3 = (-9) → zb (D 6 x1.toNatClampNeg) x3 → P (some x3) D) (k5 : ¬ x3 = (-9) → ¬ zb (D 6 x1.toNatClampNeg) x3 → P (some (-3)) D) : z_Ok mX1_nextFrom 0 [some (.ref 1), some (.int x1), some (.int x2), some (.int x3), none] [] D P := z_aload_n 0 dX1_nextFrom_0 rfl rfl <| z_getr 4 6 dX1_nextFrom_1 fRX1_44 rfl rfl <| z_iload_n 1 dX1_nextFrom_4 rfl rfl <| z_iald dX1_nextFrom_5 rfl h1 <| z_istore dX1_nextFrom_6 rfl <| z_iload_n 3 dX1_nextFrom_8 rfl rfl <| z_bipush (v := (-9)) dX1_nextFrom_9 (by decide) <| z_icmp_eq (x := x3) (y := (-9)) 30 dX1_nextFrom_11 (by decide) (fun c1 => z_iload dX1_nextFrom_30 rfl <| z_iload_n 2 dX1_nextFrom_32 rfl rfl <| z_iconst (v := (-1)) dX1_nextFrom_33 (by decide) <| z_ixor dX1_nextFrom_34 <| z_iand dX1_nextFrom_35 <| z_istore dX1_nextFrom_36 rfl <| z_iload dX1_nextFrom_38 rfl <| z_if_ne (x := (D 6 x1.toNatClampNeg) &&& (x2 ^^^ (-1))) 46 dX1_nextFrom_40 (by decide) (fun c2 => z_iload dX1_nextFrom_46 rfl <| z_callS (n := 1) [.int ((D 6 x1.toNatClampNeg) &&& (x2 ^^^ (-1)))] [] dX1_nextFrom_48 tJ6_bitCount_0f7a4 kRX1_51 (by decide) pnJ6_bitCount_0f7a4 rfl rfl (Nat.le_of_ble_eq_true rfl) (by simp [Value.category]) (by simp [Value.category]) (uJ6_bitCount_0f7a4 ((D 6 x1.toNatClampNeg) &&& (x2 ^^^ (-1))) D) (fun r D1 q1 => z_pure q1 (z_iconst (v := 1) dX1_nextFrom_51 (by decide) <| z_icmp_le (x := z_bc ((D 6 x1.toNatClampNeg) &&& (x2 ^^^ (-1)))) (y := 1) 59 dX1_nextFrom_52 (by decide) (fun c3 => z_iload dX1_nextFrom_59 rfl <| z_iconst (v := 1) dX1_nextFrom_61 (by decide) <| z_isub dX1_nextFrom_62 <| z_callS (n := 1) [.int (((D 6 x1.toNatClampNeg) &&& (x2 ^^^ (-1))) - 1)] [] dX1_nextFrom_63 tJ6_bitCount_0f7a4 kRX1_51 (by decide) pnJ6_bitCount_0f7a4 rfl rfl (Nat.le_of_ble_eq_true rfl) (by simp [Value.category]) (by simp [Value.category]) (uJ6_bitCount_0f7a4 (((D 6 x1.toNatClampNeg) &&& (x2 ^^^ (-1))) - 1) D) (fun r D1 q1 => z_pure q1 (z_ret (ty := .int) dX1_nextFrom_66 rfl rfl (k1 c1 c2 c3)))) (fun c4 => z_iconst (v := (-1)) dX1_nextFrom_55 (by decide) <| z_goto 66 dX1_nextFrom_56 (by decide) <| z_ret (ty := .int) dX1_nextFrom_66 rfl rfl (k2 c1 c2 c4))))) (fun c5 => z_bipush (v := (-2)) dX1_nextFrom_43 (by decide) <| z_ret (ty := .int) dX1_nextFrom_45 rfl rfl (k3 c1 c5))) (fun c6 => z_iload dX1_nextFrom_14 rfl <| z_iload_n 3 dX1_nextFrom_16 rfl rfl <| z_callN (n := 2) [.int (D 6 x1.toNatClampNeg), .int x3] [] rfl dX1_nextFrom_17 tX3_holds kRX1_47 (by decide) pnX3_holds rfl rfl (Nat.le_of_ble_eq_true rfl) (by simp [Value.category]) (by simp [Value.category]) (uX3_holds (D 6 x1.toNatClampNeg) x3 D) (fun r D1 q1 => z_bool q1 (fun c7 => z_if_eq (x := 1) 27 dX1_nextFrom_20 (by decide) (fun h => absurd h (by decide)) (fun _ => z_iload_n 3 dX1_nextFrom_23 rfl rfl <| z_goto 29 dX1_nextFrom_24 (by decide) <| z_ret (ty := .int) dX1_nextFrom_29 rfl rfl (k4 c6 c7))) (fun c8 => z_if_eq (x := 0) 27 dX1_nextFrom_20 (by decide) (fun _ => z_bipush (v := (-3)) dX1_nextFrom_27 (by decide) <| z_ret (ty := .int) dX1_nextFrom_29 rfl rfl (k5 c6 c8)) (fun h => absurd h (by decide)))))
set_option maxRecDepth 20000 in
theorem bX1_placeAt_0 {x1 : Int32} {D : zM} {P : Option Int32 → zM → Prop} {f : Nat} (hf : z_sh[f]? = some (.inl (1, [some (f + 1), some (f + 2), none, none, none]))) (hf1 : z_sh[f + 1]? = some (.inr (.inl (0, 30)))) (hf2 : z_sh[f + 2]? = some (.inr (.inl (0, 10)))) (h1 : ¬ x1 < 0 → ¬ (D f 2) < x1 → vp_in x1 30) (k1 : x1 < 0 → P (some (-9)) D) (k2 : ¬ x1 < 0 → (D f 2) < x1 → P (some (-9)) D) (k3 : ¬ x1 < 0 → ¬ (D f 2) < x1 → P (some (D (f + 1) x1.toNatClampNeg)) D) : z_Ok mX1_placeAt 0 [some (.ref f), some (.int x1)] [] D P := z_iload_n 1 dX1_placeAt_0 rfl rfl <| z_if_lt (x := x1) 21 dX1_placeAt_1 (by decide) (fun c1 => z_bipush (v := (-9)) dX1_placeAt_21 (by decide) <| z_ret (ty := .int) dX1_placeAt_23 rfl rfl (k1 c1)) (fun c2 => z_iload_n 1 dX1_placeAt_4 rfl rfl <| z_aload_n 0 dX1_placeAt_5 rfl rfl <| z_geti 2 dX1_placeAt_6 fRX1_18 hf rfl <| z_icmp_gt (x := x1) (y := D f 2) 21 dX1_placeAt_9 (by decide) (fun c3 => z_bipush (v := (-9)) dX1_placeAt_21 (by decide) <| z_ret (ty := .int) dX1_placeAt_23 rfl rfl (k2 c2 c3)) (fun c4 => z_aload_n 0 dX1_placeAt_12 rfl rfl <| z_getr 0 (f + 1) dX1_placeAt_13 fRX1_9 hf rfl <| z_iload_n 1 dX1_placeAt_16 rfl rfl <| z_iald dX1_placeAt_17 hf1 (h1 c2 c4) <| z_goto 23 dX1_placeAt_18 (by decide) <| z_ret (ty := .int) dX1_placeAt_23 rfl rfl (k3 c2 c4)))
set_option maxRecDepth 20000 in
theorem bX1_wentLike_0 {D : zM} {P : Option Int32 → zM → Prop}  (k1 : ¬ (D 32 4) = (D 35 4) → P (some 0) D) (k2 : (D 32 4) = (D 35 4) → (D 32 2) = (D 35 2) → z_Ok mX1_wentLike 26 [some (.ref 32), some (.ref 35), some (.int 0)] [] D P) (k3 : (D 32 4) = (D 35 4) → ¬ (D 32 2) = (D 35 2) → P (some 0) D) : z_Ok mX1_wentLike 0 [some (.ref 32), some (.ref 35), none] [] D P := z_aload_n 0 dX1_wentLike_0 rfl rfl <| z_geti 4 dX1_wentLike_1 fRX1_25 rfl rfl <| z_aload_n 1 dX1_wentLike_4 rfl rfl <| z_geti 4 dX1_wentLike_5 fRX1_25 rfl rfl <| z_icmp_ne (x := D 32 4) (y := D 35 4) 22 dX1_wentLike_8 (by decide) (fun c1 => z_iconst (v := 0) dX1_wentLike_22 (by decide) <| z_ret (ty := .boolean) dX1_wentLike_23 rfl rfl (k1 c1)) (fun c2 => z_aload_n 0 dX1_wentLike_11 rfl rfl <| z_geti 2 dX1_wentLike_12 fRX1_18 rfl rfl <| z_aload_n 1 dX1_wentLike_15 rfl rfl <| z_geti 2 dX1_wentLike_16 fRX1_18 rfl rfl <| z_icmp_eq (x := D 32 2) (y := D 35 2) 24 dX1_wentLike_19 (by decide) (fun c3 => z_iconst (v := 0) dX1_wentLike_24 (by decide) <| z_istore_n 2 dX1_wentLike_25 rfl rfl <| k2 c2 c3) (fun c4 => z_iconst (v := 0) dX1_wentLike_22 (by decide) <| z_ret (ty := .boolean) dX1_wentLike_23 rfl rfl (k3 c2 c4)))
set_option maxRecDepth 20000 in
theorem bX1_wentLike_26 {x2 : Int32} {D : zM} {P : Option Int32 → zM → Prop}  (h1 : ¬ (D 32 2) < x2 → vp_in x2 30) (k1 : (D 32 2) < x2 → P (some 1) D) (k2 : ¬ (D 32 2) < x2 → (D 33 x2.toNatClampNeg) = (D 36 x2.toNatClampNeg) → z_Ok mX1_wentLike 26 [some (.ref 32), some (.ref 35), some (.int (x2 + 1))] [] D P) (k3 : ¬ (D 32 2) < x2 → ¬ (D 33 x2.toNatClampNeg) = (D 36 x2.toNatClampNeg) → P (some 0) D) : z_Ok mX1_wentLike 26 [some (.ref 32), some (.ref 35), some (.int x2)] [] D P := z_iload_n 2 dX1_wentLike_26 rfl rfl <| z_aload_n 0 dX1_wentLike_27 rfl rfl <| z_geti 2 dX1_wentLike_28 fRX1_18 rfl rfl <| z_icmp_gt (x := x2) (y := D 32 2) 57 dX1_wentLike_31 (by decide) (fun c1 => z_iconst (v := 1) dX1_wentLike_57 (by decide) <| z_ret (ty := .boolean) dX1_wentLike_58 rfl rfl (k1 c1)) (fun c2 => z_aload_n 0 dX1_wentLike_34 rfl rfl <| z_getr 0 33 dX1_wentLike_35 fRX1_9 rfl rfl <| z_iload_n 2 dX1_wentLike_38 rfl rfl <| z_iald dX1_wentLike_39 rfl (h1 c2) <| z_aload_n 1 dX1_wentLike_40 rfl rfl <| z_getr 0 36 dX1_wentLike_41 fRX1_9 rfl rfl <| z_iload_n 2 dX1_wentLike_44 rfl rfl <| z_iald dX1_wentLike_45 rfl (h1 c2) <| z_icmp_eq (x := D 33 x2.toNatClampNeg) (y := D 36 x2.toNatClampNeg) 51 dX1_wentLike_46 (by decide) (fun c3 => z_iinc (v := x2 + 1) dX1_wentLike_51 rfl rfl rfl <| z_goto 26 dX1_wentLike_54 (by decide) <| k2 c2 c3) (fun c4 => z_iconst (v := 0) dX1_wentLike_49 (by decide) <| z_ret (ty := .boolean) dX1_wentLike_50 rfl rfl (k3 c2 c4)))
set_option maxRecDepth 20000 in
theorem bX2_draw_0 {x2 x3 : Int32} {D : zM} {P : Option Int32 → zM → Prop}  (h1 : vp_in x2 5) (k1 : z_Ok mX2_draw 8 [some (.ref 18), some (.ref 1), some (.int x2), some (.int x3), none] [.int x3, .ref (20 + x2.toNatClampNeg), .ref 1] D P) : z_Ok mX2_draw 0 [some (.ref 18), some (.ref 1), some (.int x2), some (.int x3), none] [] D P := z_aload_n 1 dX2_draw_0 rfl rfl <| z_aload_n 0 dX2_draw_1 rfl rfl <| z_getr 0 19 dX2_draw_2 fRX2_11 rfl rfl <| z_iload_n 2 dX2_draw_5 rfl rfl <| z_aald dX2_draw_6 rfl h1 <| z_iload_n 3 dX2_draw_7 rfl rfl <| k1
set_option maxRecDepth 20000 in
theorem sX2_draw_8 {lv : List (Option Value)} {v2 : Int32} {v0 v1 : Nat} {D : zM} {P : Option Int32 → zM → Prop} {Q : zM → Prop} (hC : z_Cv mX2_measure [.ref v0, .ref v1, .int v2] D Q) (kk : ∀ D1, Q D1 → z_Ok mX2_draw 11 lv [] D1 P) : z_Ok mX2_draw 8 lv [.int v2, .ref v1, .ref v0] D P := z_callS (n := 3) [.ref v0, .ref v1, .int v2] [] dX2_draw_8 tX2_measure kRX2_23 (by decide) pnX2_measure rfl rfl (Nat.le_of_ble_eq_true rfl) (by simp [Value.category]) (by simp [Value.category]) hC (fun r D1 q1 => z_void q1 (fun q => kk D1 q))
set_option maxRecDepth 20000 in
theorem bX2_draw_11 {x2 x3 : Int32} {D : zM} {P : Option Int32 → zM → Prop}  (h1 : vp_in x2 5) (k1 : z_Ok mX2_draw 21 [some (.ref 18), some (.ref 1), some (.int x2), some (.int x3), some (.int 0)] [] (z_up D 31 x2.toNatClampNeg 0) P) : z_Ok mX2_draw 11 [some (.ref 18), some (.ref 1), some (.int x2), some (.int x3), none] [] D P := z_aload_n 0 dX2_draw_11 rfl rfl <| z_getr 2 31 dX2_draw_12 fRX2_19 rfl rfl <| z_iload_n 2 dX2_draw_15 rfl rfl <| z_iconst (v := 0) dX2_draw_16 (by decide) <| z_iast dX2_draw_17 rfl h1 <| z_iconst (v := 0) dX2_draw_18 (by decide) <| z_istore dX2_draw_19 rfl <| k1
set_option maxRecDepth 20000 in
theorem bX2_draw_21 {x2 x3 x4 : Int32} {D : zM} {P : Option Int32 → zM → Prop}  (h1 : ¬ 10 ≤ x4 → vp_in x2 5) (k1 : 10 ≤ x4 → P none D) (k2 : ¬ 10 ≤ x4 → z_Ok mX2_draw 45 [some (.ref 18), some (.ref 1), some (.int x2), some (.int x3), some (.int x4)] [.int x4, .ref (20 + x2.toNatClampNeg), .ref 1, .int x4, .ref (26 + x2.toNatClampNeg)] D P) : z_Ok mX2_draw 21 [some (.ref 18), some (.ref 1), some (.int x2), some (.int x3), some (.int x4)] [] D P := z_iload dX2_draw_21 rfl <| z_bipush (v := 10) dX2_draw_23 (by decide) <| z_icmp_ge (x := x4) (y := 10) 82 dX2_draw_25 (by decide) (fun c1 => z_vret dX2_draw_82 rfl (k1 c1)) (fun c2 => z_aload_n 0 dX2_draw_28 rfl rfl <| z_getr 1 25 dX2_draw_29 fRX2_16 rfl rfl <| z_iload_n 2 dX2_draw_32 rfl rfl <| z_aald dX2_draw_33 rfl (h1 c2) <| z_iload dX2_draw_34 rfl <| z_aload_n 1 dX2_draw_36 rfl rfl <| z_aload_n 0 dX2_draw_37 rfl rfl <| z_getr 0 19 dX2_draw_38 fRX2_11 rfl rfl <| z_iload_n 2 dX2_draw_41 rfl rfl <| z_aald dX2_draw_42 rfl (h1 c2) <| z_iload dX2_draw_43 rfl <| k2 c2)
set_option maxRecDepth 20000 in
theorem sX2_draw_45 {lv : List (Option Value)} {v2 w0 : Int32} {v0 v1 : Nat} {D : zM} {P : Option Int32 → zM → Prop} {e1 : Nat} {Q : Int32 → zM → Prop} (hC : z_Ci mX2_bestAt [.ref v0, .ref v1, .int v2] D Q) (kk : ∀ r D1, Q r D1 → z_Ok mX2_draw 48 lv [.int r, .int w0, .ref e1] D1 P) : z_Ok mX2_draw 45 lv [.int v2, .ref v1, .ref v0, .int w0, .ref e1] D P := z_callS (n := 3) [.ref v0, .ref v1, .int v2] [.int w0, .ref e1] dX2_draw_45 tX2_bestAt kRX2_27 (by decide) pnX2_bestAt rfl rfl (Nat.le_of_ble_eq_true rfl) (by simp [Value.category]) (by simp [Value.category]) hC (fun r D1 q1 => z_intr q1 (fun r q => kk r D1 q))
set_option maxRecDepth 20000 in
theorem bX2_draw_48 {x2 x3 x4 y0 y1 : Int32} {D : zM} {P : Option Int32 → zM → Prop} {p2 : Nat} (hp2 : z_sh[p2]? = some (.inr (.inl (0, 10)))) (h1 : vp_in y1 10) (h2 : vp_in x2 5) (h3 : vp_in x4 10) (k1 : ((z_up D p2 y1.toNatClampNeg y0) (26 + x2.toNatClampNeg) x4.toNatClampNeg) = (-9) → z_Ok mX2_draw 21 [some (.ref 18), some (.ref 1), some (.int x2), some (.int x3), some (.int (x4 + 1))] [] (z_up D p2 y1.toNatClampNeg y0) P) (k2 : ¬ ((z_up D p2 y1.toNatClampNeg y0) (26 + x2.toNatClampNeg) x4.toNatClampNeg) = (-9) → z_Ok mX2_draw 21 [some (.ref 18), some (.ref 1), some (.int x2), some (.int x3), some (.int (x4 + 1))] [] (z_up (z_up D p2 y1.toNatClampNeg y0) 31 x2.toNatClampNeg (((z_up D p2 y1.toNatClampNeg y0) 31 x2.toNatClampNeg) ||| ((1 : Int32) <<< (x4 &&& 31)))) P) : z_Ok mX2_draw 48 [some (.ref 18), some (.ref 1), some (.int x2), some (.int x3), some (.int x4)] [.int y0, .int y1, .ref p2] D P := z_iast dX2_draw_48 hp2 h1 <| z_aload_n 0 dX2_draw_49 rfl rfl <| z_getr 1 25 dX2_draw_50 fRX2_16 rfl rfl <| z_iload_n 2 dX2_draw_53 rfl rfl <| z_aald dX2_draw_54 rfl h2 <| z_iload dX2_draw_55 rfl <| z_iald dX2_draw_57 (z_r26 h2) h3 <| z_bipush (v := (-9)) dX2_draw_58 (by decide) <| z_icmp_eq (x := (z_up D p2 y1.toNatClampNeg y0) (26 + x2.toNatClampNeg) x4.toNatClampNeg) (y := (-9)) 76 dX2_draw_60 (by decide) (fun c1 => z_iinc (v := x4 + 1) dX2_draw_76 rfl rfl rfl <| z_goto 21 dX2_draw_79 (by decide) <| k1 c1) (fun c2 => z_aload_n 0 dX2_draw_63 rfl rfl <| z_getr 2 31 dX2_draw_64 fRX2_19 rfl rfl <| z_iload_n 2 dX2_draw_67 rfl rfl <| z_dup2 dX2_draw_68 rfl rfl <| z_iald dX2_draw_69 rfl h2 <| z_iconst (v := 1) dX2_draw_70 (by decide) <| z_iload dX2_draw_71 rfl <| z_ishl dX2_draw_73 <| z_ior dX2_draw_74 <| z_iast dX2_draw_75 rfl h2 <| z_iinc (v := x4 + 1) dX2_draw_76 rfl rfl rfl <| z_goto 21 dX2_draw_79 (by decide) <| k2 c2)
set_option maxRecDepth 20000 in
theorem bX2_measure_0 {x2 : Int32} {D : zM} {P : Option Int32 → zM → Prop} {r : Nat} (hr : z_sh[r]? = some (.inr (.inl (0, 10)))) (k1 : z_Ok mX2_measure 3 [some (.ref 1), some (.ref r), some (.int x2), none, none, none, none, none] [.int (-9), .ref r] D P) : z_Ok mX2_measure 0 [some (.ref 1), some (.ref r), some (.int x2), none, none, none, none, none] [] D P := z_aload_n 1 dX2_measure_0 rfl rfl <| z_bipush (v := (-9)) dX2_measure_1 (by decide) <| k1
set_option maxRecDepth 20000 in
theorem sX2_measure_3 {lv : List (Option Value)} {v1 : Int32} {v0 : Nat} {D : zM} {P : Option Int32 → zM → Prop} {Q : zM → Prop} (hC : z_Cv mJ7_fill_53178 [.ref v0, .int v1] D Q) (kk : ∀ D1, Q D1 → z_Ok mX2_measure 6 lv [] D1 P) : z_Ok mX2_measure 3 lv [.int v1, .ref v0] D P := z_callS (n := 2) [.ref v0, .int v1] [] dX2_measure_3 tJ7_fill_53178 kRX2_31 (by decide) pnJ7_fill_53178 rfl rfl (Nat.le_of_ble_eq_true rfl) (by simp [Value.category]) (by simp [Value.category]) hC (fun r D1 q1 => z_void q1 (fun q => kk D1 q))
set_option maxRecDepth 20000 in
theorem bX2_measure_6 {x2 : Int32} {D : zM} {P : Option Int32 → zM → Prop} {r : Nat} (hr : z_sh[r]? = some (.inr (.inl (0, 10)))) (h1 : vp_in x2 10) (k1 : z_Ok mX2_measure 15 [some (.ref 1), some (.ref r), some (.int x2), some (.int 1), some (.int 1), none, none, none] [] (z_up D r x2.toNatClampNeg 0) P) : z_Ok mX2_measure 6 [some (.ref 1), some (.ref r), some (.int x2), none, none, none, none, none] [] D P := z_aload_n 1 dX2_measure_6 rfl rfl <| z_iload_n 2 dX2_measure_7 rfl rfl <| z_iconst (v := 0) dX2_measure_8 (by decide) <| z_iast dX2_measure_9 hr h1 <| z_iconst (v := 1) dX2_measure_10 (by decide) <| z_istore_n 3 dX2_measure_11 rfl rfl <| z_iconst (v := 1) dX2_measure_12 (by decide) <| z_istore dX2_measure_13 rfl <| k1
set_option maxRecDepth 20000 in
theorem bX2_measure_15 {x2 x3 x4 : Int32} {o5 o6 o7 : Option Value} {D : zM} {P : Option Int32 → zM → Prop} {r : Nat} (hr : z_sh[r]? = some (.inr (.inl (0, 10)))) (k1 : 10 ≤ x4 → P none D) (k2 : ¬ 10 ≤ x4 → x3 = 0 → P none D) (k3 : ¬ 10 ≤ x4 → ¬ x3 = 0 → z_Ok mX2_measure 31 [some (.ref 1), some (.ref r), some (.int x2), some (.int 0), some (.int x4), some (.int 0), o6, o7] [] D P) : z_Ok mX2_measure 15 [some (.ref 1), some (.ref r), some (.int x2), some (.int x3), some (.int x4), o5, o6, o7] [] D P := z_iload dX2_measure_15 rfl <| z_bipush (v := 10) dX2_measure_17 (by decide) <| z_icmp_ge (x := x4) (y := 10) 116 dX2_measure_19 (by decide) (fun c1 => z_vret dX2_measure_116 rfl (k1 c1)) (fun c2 => z_iload_n 3 dX2_measure_22 rfl rfl <| z_if_eq (x := x3) 116 dX2_measure_23 (by decide) (fun c3 => z_vret dX2_measure_116 rfl (k2 c2 c3)) (fun c4 => z_iconst (v := 0) dX2_measure_26 (by decide) <| z_istore_n 3 dX2_measure_27 rfl rfl <| z_iconst (v := 0) dX2_measure_28 (by decide) <| z_istore dX2_measure_29 rfl <| k3 c2 c4))
set_option maxRecDepth 20000 in
theorem bX2_measure_31 {x2 x3 x4 x5 : Int32} {o6 o7 : Option Value} {D : zM} {P : Option Int32 → zM → Prop} {r : Nat} (hr : z_sh[r]? = some (.inr (.inl (0, 10)))) (h1 : ¬ (D 1 6) ≤ x5 → vp_in x5 14) (k1 : (D 1 6) ≤ x5 → z_Ok mX2_measure 15 [some (.ref 1), some (.ref r), some (.int x2), some (.int x3), some (.int (x4 + 1)), some (.int x5), o6, o7] [] D P) (k2 : ¬ (D 1 6) ≤ x5 → (D 5 x5.toNatClampNeg) = 0 → z_Ok mX2_measure 31 [some (.ref 1), some (.ref r), some (.int x2), some (.int x3), some (.int x4), some (.int (x5 + 1)), o6, o7] [] D P) (k3 : ¬ (D 1 6) ≤ x5 → ¬ (D 5 x5.toNatClampNeg) = 0 → z_Ok mX2_measure 81 [some (.ref 1), some (.ref r), some (.int x2), some (.int x3), some (.int x4), some (.int x5), some (.int (D 2 x5.toNatClampNeg)), some (.int (D 3 x5.toNatClampNeg))] [.int (D 4 x5.toNatClampNeg), .int (D 3 x5.toNatClampNeg), .int (D 2 x5.toNatClampNeg), .ref r, .int x3] D P) : z_Ok mX2_measure 31 [some (.ref 1), some (.ref r), some (.int x2), some (.int x3), some (.int x4), some (.int x5), o6, o7] [] D P := z_iload dX2_measure_31 rfl <| z_aload_n 0 dX2_measure_33 rfl rfl <| z_geti 6 dX2_measure_34 fRX2_37 rfl rfl <| z_icmp_ge (x := x5) (y := D 1 6) 110 dX2_measure_37 (by decide) (fun c1 => z_iinc (v := x4 + 1) dX2_measure_110 rfl rfl rfl <| z_goto 15 dX2_measure_113 (by decide) <| k1 c1) (fun c2 => z_aload_n 0 dX2_measure_40 rfl rfl <| z_getr 3 5 dX2_measure_41 fRX2_43 rfl rfl <| z_iload dX2_measure_44 rfl <| z_bald dX2_measure_46 rfl (h1 c2) <| z_if_eq (x := D 5 x5.toNatClampNeg) 104 dX2_measure_47 (by decide) (fun c3 => z_iinc (v := x5 + 1) dX2_measure_104 rfl rfl rfl <| z_goto 31 dX2_measure_107 (by decide) <| k2 c2 c3) (fun c4 => z_aload_n 0 dX2_measure_50 rfl rfl <| z_getr 0 2 dX2_measure_51 fRX2_47 rfl rfl <| z_iload dX2_measure_54 rfl <| z_iald dX2_measure_56 rfl (h1 c2) <| z_istore dX2_measure_57 rfl <| z_aload_n 0 dX2_measure_59 rfl rfl <| z_getr 1 3 dX2_measure_60 fRX2_50 rfl rfl <| z_iload dX2_measure_63 rfl <| z_iald dX2_measure_65 rfl (h1 c2) <| z_istore dX2_measure_66 rfl <| z_iload_n 3 dX2_measure_68 rfl rfl <| z_aload_n 1 dX2_measure_69 rfl rfl <| z_iload dX2_measure_70 rfl <| z_iload dX2_measure_72 rfl <| z_aload_n 0 dX2_measure_74 rfl rfl <| z_getr 2 4 dX2_measure_75 fRX2_53 rfl rfl <| z_iload dX2_measure_78 rfl <| z_iald dX2_measure_80 rfl (h1 c2) <| k3 c2 c4))
set_option maxRecDepth 20000 in
theorem sX2_measure_81 {lv : List (Option Value)} {v1 v2 v3 w0 : Int32} {v0 : Nat} {D : zM} {P : Option Int32 → zM → Prop} {Q : Int32 → zM → Prop} (hC : z_Ci mX2_shorten [.ref v0, .int v1, .int v2, .int v3] D Q) (kk : ∀ r D1, Q r D1 → z_Ok mX2_measure 84 lv [.int r, .int w0] D1 P) : z_Ok mX2_measure 81 lv [.int v3, .int v2, .int v1, .ref v0, .int w0] D P := z_callS (n := 4) [.ref v0, .int v1, .int v2, .int v3] [.int w0] dX2_measure_81 tX2_shorten kRX2_56 (by decide) pnX2_shorten rfl rfl (Nat.le_of_ble_eq_true rfl) (by simp [Value.category]) (by simp [Value.category]) hC (fun r D1 q1 => z_intr q1 (fun r q => kk r D1 q))
set_option maxRecDepth 20000 in
theorem bX2_measure_84 {x2 x3 x4 x5 x6 x7 y0 y1 : Int32} {D : zM} {P : Option Int32 → zM → Prop} {r : Nat} (hr : z_sh[r]? = some (.inr (.inl (0, 10)))) (h1 : vp_in x5 14) (k1 : z_Ok mX2_measure 99 [some (.ref 1), some (.ref r), some (.int x2), some (.int (y1 ||| y0)), some (.int x4), some (.int x5), some (.int x6), some (.int x7)] [.int (D 4 x5.toNatClampNeg), .int x6, .int x7, .ref r, .int (y1 ||| y0)] D P) : z_Ok mX2_measure 84 [some (.ref 1), some (.ref r), some (.int x2), some (.int x3), some (.int x4), some (.int x5), some (.int x6), some (.int x7)] [.int y0, .int y1] D P := z_ior dX2_measure_84 <| z_istore_n 3 dX2_measure_85 rfl rfl <| z_iload_n 3 dX2_measure_86 rfl rfl <| z_aload_n 1 dX2_measure_87 rfl rfl <| z_iload dX2_measure_88 rfl <| z_iload dX2_measure_90 rfl <| z_aload_n 0 dX2_measure_92 rfl rfl <| z_getr 2 4 dX2_measure_93 fRX2_53 rfl rfl <| z_iload dX2_measure_96 rfl <| z_iald dX2_measure_98 rfl h1 <| k1
set_option maxRecDepth 20000 in
theorem sX2_measure_99 {lv : List (Option Value)} {v1 v2 v3 w0 : Int32} {v0 : Nat} {D : zM} {P : Option Int32 → zM → Prop} {Q : Int32 → zM → Prop} (hC : z_Ci mX2_shorten [.ref v0, .int v1, .int v2, .int v3] D Q) (kk : ∀ r D1, Q r D1 → z_Ok mX2_measure 102 lv [.int r, .int w0] D1 P) : z_Ok mX2_measure 99 lv [.int v3, .int v2, .int v1, .ref v0, .int w0] D P := z_callS (n := 4) [.ref v0, .int v1, .int v2, .int v3] [.int w0] dX2_measure_99 tX2_shorten kRX2_56 (by decide) pnX2_shorten rfl rfl (Nat.le_of_ble_eq_true rfl) (by simp [Value.category]) (by simp [Value.category]) hC (fun r D1 q1 => z_intr q1 (fun r q => kk r D1 q))
set_option maxRecDepth 20000 in
theorem bX2_measure_102 {x2 x3 x4 x5 x6 x7 y0 y1 : Int32} {D : zM} {P : Option Int32 → zM → Prop} {r : Nat} (hr : z_sh[r]? = some (.inr (.inl (0, 10)))) (k1 : z_Ok mX2_measure 31 [some (.ref 1), some (.ref r), some (.int x2), some (.int (y1 ||| y0)), some (.int x4), some (.int (x5 + 1)), some (.int x6), some (.int x7)] [] D P) : z_Ok mX2_measure 102 [some (.ref 1), some (.ref r), some (.int x2), some (.int x3), some (.int x4), some (.int x5), some (.int x6), some (.int x7)] [.int y0, .int y1] D P := z_ior dX2_measure_102 <| z_istore_n 3 dX2_measure_103 rfl rfl <| z_iinc (v := x5 + 1) dX2_measure_104 rfl rfl rfl <| z_goto 31 dX2_measure_107 (by decide) <| k1
set_option maxRecDepth 20000 in
theorem bX2_shorten_0 {x1 x2 x3 : Int32} {D : zM} {P : Option Int32 → zM → Prop} {r : Nat} (hr : z_sh[r]? = some (.inr (.inl (0, 10)))) (h1 : vp_in x2 10) (h2 : ¬ (D r x2.toNatClampNeg) = (-9) → vp_in x1 10) (k1 : (D r x2.toNatClampNeg) = (-9) → P (some 0) D) (k2 : ¬ (D r x2.toNatClampNeg) = (-9) → (D r x1.toNatClampNeg) = (-9) → P (some 1) (z_up D r x1.toNatClampNeg ((D r x2.toNatClampNeg) + x3))) (k3 : ¬ (D r x2.toNatClampNeg) = (-9) → ¬ (D r x1.toNatClampNeg) = (-9) → ((D r x2.toNatClampNeg) + x3) < (D r x1.toNatClampNeg) → P (some 1) (z_up D r x1.toNatClampNeg ((D r x2.toNatClampNeg) + x3))) (k4 : ¬ (D r x2.toNatClampNeg) = (-9) → ¬ (D r x1.toNatClampNeg) = (-9) → ¬ ((D r x2.toNatClampNeg) + x3) < (D r x1.toNatClampNeg) → P (some 0) D) : z_Ok mX2_shorten 0 [some (.ref r), some (.int x1), some (.int x2), some (.int x3)] [] D P := z_aload_n 0 dX2_shorten_0 rfl rfl <| z_iload_n 2 dX2_shorten_1 rfl rfl <| z_iald dX2_shorten_2 hr h1 <| z_bipush (v := (-9)) dX2_shorten_3 (by decide) <| z_icmp_eq (x := D r x2.toNatClampNeg) (y := (-9)) 27 dX2_shorten_5 (by decide) (fun c1 => z_iconst (v := 0) dX2_shorten_27 (by decide) <| z_ret (ty := .boolean) dX2_shorten_28 rfl rfl (k1 c1)) (fun c2 => z_aload_n 0 dX2_shorten_8 rfl rfl <| z_iload_n 1 dX2_shorten_9 rfl rfl <| z_iald dX2_shorten_10 hr (h2 c2) <| z_bipush (v := (-9)) dX2_shorten_11 (by decide) <| z_icmp_eq (x := D r x1.toNatClampNeg) (y := (-9)) 29 dX2_shorten_13 (by decide) (fun c3 => z_aload_n 0 dX2_shorten_29 rfl rfl <| z_iload_n 1 dX2_shorten_30 rfl rfl <| z_aload_n 0 dX2_shorten_31 rfl rfl <| z_iload_n 2 dX2_shorten_32 rfl rfl <| z_iald dX2_shorten_33 hr h1 <| z_iload_n 3 dX2_shorten_34 rfl rfl <| z_iadd dX2_shorten_35 <| z_iast dX2_shorten_36 hr (h2 c2) <| z_iconst (v := 1) dX2_shorten_37 (by decide) <| z_ret (ty := .boolean) dX2_shorten_38 rfl rfl (k2 c2 c3)) (fun c4 => z_aload_n 0 dX2_shorten_16 rfl rfl <| z_iload_n 1 dX2_shorten_17 rfl rfl <| z_iald dX2_shorten_18 hr (h2 c2) <| z_aload_n 0 dX2_shorten_19 rfl rfl <| z_iload_n 2 dX2_shorten_20 rfl rfl <| z_iald dX2_shorten_21 hr h1 <| z_iload_n 3 dX2_shorten_22 rfl rfl <| z_iadd dX2_shorten_23 <| z_icmp_gt (x := D r x1.toNatClampNeg) (y := (D r x2.toNatClampNeg) + x3) 29 dX2_shorten_24 (by decide) (fun c5 => z_aload_n 0 dX2_shorten_29 rfl rfl <| z_iload_n 1 dX2_shorten_30 rfl rfl <| z_aload_n 0 dX2_shorten_31 rfl rfl <| z_iload_n 2 dX2_shorten_32 rfl rfl <| z_iald dX2_shorten_33 hr h1 <| z_iload_n 3 dX2_shorten_34 rfl rfl <| z_iadd dX2_shorten_35 <| z_iast dX2_shorten_36 hr (h2 c2) <| z_iconst (v := 1) dX2_shorten_37 (by decide) <| z_ret (ty := .boolean) dX2_shorten_38 rfl rfl (k3 c2 c4 c5)) (fun c6 => z_iconst (v := 0) dX2_shorten_27 (by decide) <| z_ret (ty := .boolean) dX2_shorten_28 rfl rfl (k4 c2 c4 c6))))
set_option maxRecDepth 20000 in
theorem bX2_bestAt_0 {x2 : Int32} {D : zM} {P : Option Int32 → zM → Prop} {r : Nat} (hr : z_sh[r]? = some (.inr (.inl (0, 10)))) (k1 : z_Ok mX2_bestAt 2 [some (.ref 1), some (.ref r), some (.int x2), some (.int 0), none] [] D P) : z_Ok mX2_bestAt 0 [some (.ref 1), some (.ref r), some (.int x2), none, none] [] D P := z_iconst (v := 0) dX2_bestAt_0 (by decide) <| z_istore_n 3 dX2_bestAt_1 rfl rfl <| k1
set_option maxRecDepth 20000 in
theorem bX2_bestAt_2 {x2 x3 : Int32} {o4 : Option Value} {D : zM} {P : Option Int32 → zM → Prop} {r : Nat} (hr : z_sh[r]? = some (.inr (.inl (0, 10)))) (h1 : ¬ 10 ≤ x3 → vp_in x2 10) (h2 : ¬ 10 ≤ x3 → vp_in x3 10) (k1 : 10 ≤ x3 → P (some (-9)) D) (k2 : ¬ 10 ≤ x3 → (D (8 + x2.toNatClampNeg) x3.toNatClampNeg) ≤ 0 → z_Ok mX2_bestAt 2 [some (.ref 1), some (.ref r), some (.int x2), some (.int (x3 + 1)), some (.int (D (8 + x2.toNatClampNeg) x3.toNatClampNeg))] [] D P) (k3 : ¬ 10 ≤ x3 → ¬ (D (8 + x2.toNatClampNeg) x3.toNatClampNeg) ≤ 0 → (D r x3.toNatClampNeg) = (-9) → z_Ok mX2_bestAt 2 [some (.ref 1), some (.ref r), some (.int x2), some (.int (x3 + 1)), some (.int (D (8 + x2.toNatClampNeg) x3.toNatClampNeg))] [] D P) (k4 : ¬ 10 ≤ x3 → ¬ (D (8 + x2.toNatClampNeg) x3.toNatClampNeg) ≤ 0 → ¬ (D r x3.toNatClampNeg) = (-9) → ¬ ((D r x3.toNatClampNeg) + (D (8 + x2.toNatClampNeg) x3.toNatClampNeg)) = (D r x2.toNatClampNeg) → z_Ok mX2_bestAt 2 [some (.ref 1), some (.ref r), some (.int x2), some (.int (x3 + 1)), some (.int (D (8 + x2.toNatClampNeg) x3.toNatClampNeg))] [] D P) (k5 : ¬ 10 ≤ x3 → ¬ (D (8 + x2.toNatClampNeg) x3.toNatClampNeg) ≤ 0 → ¬ (D r x3.toNatClampNeg) = (-9) → ((D r x3.toNatClampNeg) + (D (8 + x2.toNatClampNeg) x3.toNatClampNeg)) = (D r x2.toNatClampNeg) → P (some x3) D) : z_Ok mX2_bestAt 2 [some (.ref 1), some (.ref r), some (.int x2), some (.int x3), o4] [] D P := z_iload_n 3 dX2_bestAt_2 rfl rfl <| z_bipush (v := 10) dX2_bestAt_3 (by decide) <| z_icmp_ge (x := x3) (y := 10) 51 dX2_bestAt_5 (by decide) (fun c1 => z_bipush (v := (-9)) dX2_bestAt_51 (by decide) <| z_ret (ty := .int) dX2_bestAt_53 rfl rfl (k1 c1)) (fun c2 => z_aload_n 0 dX2_bestAt_8 rfl rfl <| z_getr 5 7 dX2_bestAt_9 fRX2_60 rfl rfl <| z_iload_n 2 dX2_bestAt_12 rfl rfl <| z_aald dX2_bestAt_13 rfl (h1 c2) <| z_iload_n 3 dX2_bestAt_14 rfl rfl <| z_iald dX2_bestAt_15 (z_r8 (h1 c2)) (h2 c2) <| z_istore dX2_bestAt_16 rfl <| z_iload dX2_bestAt_18 rfl <| z_if_le (x := D (8 + x2.toNatClampNeg) x3.toNatClampNeg) 45 dX2_bestAt_20 (by decide) (fun c3 => z_iinc (v := x3 + 1) dX2_bestAt_45 rfl rfl rfl <| z_goto 2 dX2_bestAt_48 (by decide) <| k2 c2 c3) (fun c4 => z_aload_n 1 dX2_bestAt_23 rfl rfl <| z_iload_n 3 dX2_bestAt_24 rfl rfl <| z_iald dX2_bestAt_25 hr (h2 c2) <| z_bipush (v := (-9)) dX2_bestAt_26 (by decide) <| z_icmp_eq (x := D r x3.toNatClampNeg) (y := (-9)) 45 dX2_bestAt_28 (by decide) (fun c5 => z_iinc (v := x3 + 1) dX2_bestAt_45 rfl rfl rfl <| z_goto 2 dX2_bestAt_48 (by decide) <| k3 c2 c4 c5) (fun c6 => z_aload_n 1 dX2_bestAt_31 rfl rfl <| z_iload_n 3 dX2_bestAt_32 rfl rfl <| z_iald dX2_bestAt_33 hr (h2 c2) <| z_iload dX2_bestAt_34 rfl <| z_iadd dX2_bestAt_36 <| z_aload_n 1 dX2_bestAt_37 rfl rfl <| z_iload_n 2 dX2_bestAt_38 rfl rfl <| z_iald dX2_bestAt_39 hr (h1 c2) <| z_icmp_ne (x := (D r x3.toNatClampNeg) + (D (8 + x2.toNatClampNeg) x3.toNatClampNeg)) (y := D r x2.toNatClampNeg) 45 dX2_bestAt_40 (by decide) (fun c7 => z_iinc (v := x3 + 1) dX2_bestAt_45 rfl rfl rfl <| z_goto 2 dX2_bestAt_48 (by decide) <| k4 c2 c4 c6 c7) (fun c8 => z_iload_n 3 dX2_bestAt_43 rfl rfl <| z_ret (ty := .int) dX2_bestAt_44 rfl rfl (k5 c2 c4 c6 c8)))))
set_option maxRecDepth 20000 in
theorem bJ7_fill_53178_0 {x1 : Int32} {D : zM} {P : Option Int32 → zM → Prop} {r L : Nat} (hr : z_sh[r]? = some (.inr (.inl (0, L)))) (k1 : z_Ok mJ7_fill_53178 5 [some (.ref r), some (.int x1), some (.int 0), some (.int (Int32.ofNat L))] [] D P) : z_Ok mJ7_fill_53178 0 [some (.ref r), some (.int x1), none, none] [] D P := z_iconst (v := 0) dJ7_fill_53178_0 (by decide) <| z_istore_n 2 dJ7_fill_53178_1 rfl rfl <| z_aload_n 0 dJ7_fill_53178_2 rfl rfl <| z_alen dJ7_fill_53178_3 hr rfl rfl <| z_istore_n 3 dJ7_fill_53178_4 rfl rfl <| k1
set_option maxRecDepth 20000 in
theorem bJ7_fill_53178_5 {x1 x2 x3 : Int32} {D : zM} {P : Option Int32 → zM → Prop} {r L : Nat} (hr : z_sh[r]? = some (.inr (.inl (0, L)))) (h1 : ¬ x3 ≤ x2 → vp_in x2 L) (k1 : x3 ≤ x2 → P none D) (k2 : ¬ x3 ≤ x2 → z_Ok mJ7_fill_53178 5 [some (.ref r), some (.int x1), some (.int (x2 + 1)), some (.int x3)] [] (z_up D r x2.toNatClampNeg x1) P) : z_Ok mJ7_fill_53178 5 [some (.ref r), some (.int x1), some (.int x2), some (.int x3)] [] D P := z_iload_n 2 dJ7_fill_53178_5 rfl rfl <| z_iload_n 3 dJ7_fill_53178_6 rfl rfl <| z_icmp_ge (x := x2) (y := x3) 20 dJ7_fill_53178_7 (by decide) (fun c1 => z_vret dJ7_fill_53178_20 rfl (k1 c1)) (fun c2 => z_aload_n 0 dJ7_fill_53178_10 rfl rfl <| z_iload_n 2 dJ7_fill_53178_11 rfl rfl <| z_iload_n 1 dJ7_fill_53178_12 rfl rfl <| z_iast dJ7_fill_53178_13 hr (h1 c2) <| z_iinc (v := x2 + 1) dJ7_fill_53178_14 rfl rfl rfl <| z_goto 5 dJ7_fill_53178_17 (by decide) <| k2 c2)
end
section
set_option maxRecDepth 20000 in
theorem bX3_walk_0 {x1 x2 x3 : Int32} {D : zM} {P : Option Int32 → zM → Prop}  (k1 : vp_in x1 10 → vp_in x2 10 → ¬ x1 = x2 → x3 < 1 → P (some (-2)) D) (k2 : vp_in x1 10 → vp_in x2 10 → ¬ x1 = x2 → ¬ x3 < 1 → x3 ≤ 99 → z_Ok mX3_walk 41 [some (.ref 0), some (.int x1), some (.int x2), some (.int x3)] [.int x2, .int x1, .ref 1] D P) (k3 : vp_in x1 10 → vp_in x2 10 → ¬ x1 = x2 → ¬ x3 < 1 → ¬ x3 ≤ 99 → P (some (-2)) D) (k4 : vp_in x1 10 → vp_in x2 10 → x1 = x2 → P (some (-1)) D) (k5 : vp_in x1 10 → ¬ vp_in x2 10 → P (some (-1)) D) (k6 : ¬ vp_in x1 10 → P (some (-1)) D) : z_Ok mX3_walk 0 [some (.ref 0), some (.int x1), some (.int x2), some (.int x3)] [] D P := z_iload_n 1 dX3_walk_0 rfl rfl <| z_callS (n := 1) [.int x1] [] dX3_walk_1 tX3_isPlace kRX3_70 (by decide) pnX3_isPlace rfl rfl (Nat.le_of_ble_eq_true rfl) (by simp [Value.category]) (by simp [Value.category]) (uX3_isPlace x1 D) (fun r D1 q1 => z_bool q1 (fun c1 => z_if_eq (x := 1) 19 dX3_walk_4 (by decide) (fun h => absurd h (by decide)) (fun _ => z_iload_n 2 dX3_walk_7 rfl rfl <| z_callS (n := 1) [.int x2] [] dX3_walk_8 tX3_isPlace kRX3_70 (by decide) pnX3_isPlace rfl rfl (Nat.le_of_ble_eq_true rfl) (by simp [Value.category]) (by simp [Value.category]) (uX3_isPlace x2 D) (fun r D1 q1 => z_bool q1 (fun c2 => z_if_eq (x := 1) 19 dX3_walk_11 (by decide) (fun h => absurd h (by decide)) (fun _ => z_iload_n 1 dX3_walk_14 rfl rfl <| z_iload_n 2 dX3_walk_15 rfl rfl <| z_icmp_ne (x := x1) (y := x2) 21 dX3_walk_16 (by decide) (fun c3 => z_iload_n 3 dX3_walk_21 rfl rfl <| z_iconst (v := 1) dX3_walk_22 (by decide) <| z_icmp_lt (x := x3) (y := 1) 32 dX3_walk_23 (by decide) (fun c4 => z_bipush (v := (-2)) dX3_walk_32 (by decide) <| z_ret (ty := .int) dX3_walk_34 rfl rfl (k1 c1 c2 c3 c4)) (fun c5 => z_iload_n 3 dX3_walk_26 rfl rfl <| z_bipush (v := 99) dX3_walk_27 (by decide) <| z_icmp_le (x := x3) (y := 99) 35 dX3_walk_29 (by decide) (fun c6 => z_aload_n 0 dX3_walk_35 rfl rfl <| z_getr 0 1 dX3_walk_36 fRX3_12 rfl rfl <| z_iload_n 1 dX3_walk_39 rfl rfl <| z_iload_n 2 dX3_walk_40 rfl rfl <| k2 c1 c2 c3 c5 c6) (fun c7 => z_bipush (v := (-2)) dX3_walk_32 (by decide) <| z_ret (ty := .int) dX3_walk_34 rfl rfl (k3 c1 c2 c3 c5 c7)))) (fun c8 => z_iconst (v := (-1)) dX3_walk_19 (by decide) <| z_ret (ty := .int) dX3_walk_20 rfl rfl (k4 c1 c2 c8)))) (fun c9 => z_if_eq (x := 0) 19 dX3_walk_11 (by decide) (fun _ => z_iconst (v := (-1)) dX3_walk_19 (by decide) <| z_ret (ty := .int) dX3_walk_20 rfl rfl (k5 c1 c9)) (fun h => absurd h (by decide)))))) (fun c10 => z_if_eq (x := 0) 19 dX3_walk_4 (by decide) (fun _ => z_iconst (v := (-1)) dX3_walk_19 (by decide) <| z_ret (ty := .int) dX3_walk_20 rfl rfl (k6 c10)) (fun h => absurd h (by decide))))
set_option maxRecDepth 20000 in
theorem sX3_walk_41 {lv : List (Option Value)} {v0 v1 : Int32} {D : zM} {P : Option Int32 → zM → Prop} {Q : Int32 → zM → Prop} (hC : z_Ci mX0_joins [.ref 1, .int v0, .int v1] D Q) (kk : ∀ r D1, Q r D1 → z_Ok mX3_walk 44 lv [.int r] D1 P) : z_Ok mX3_walk 41 lv [.int v1, .int v0, .ref 1] D P := z_callV (n := 2) [.int v0, .int v1] [] dX3_walk_41 tX0_joins kRX3_74 (by decide) pnX0_joins rfl rfl rfl rfl (Nat.le_of_ble_eq_true rfl) (by simp [Value.category]) (by simp [Value.category]) hC (fun r D1 q1 => z_intr q1 (fun r q => kk r D1 q))
set_option maxRecDepth 20000 in
theorem bX3_walk_44 {x1 x2 x3 y0 : Int32} {D : zM} {P : Option Int32 → zM → Prop}  (k1 : y0 = 0 → (D 1 6) < 14 → z_Ok mX3_walk 72 [some (.ref 0), some (.int x1), some (.int x2), some (.int x3)] [.int x3, .int x2, .int x1, .ref 1] D P) (k2 : y0 = 0 → ¬ (D 1 6) < 14 → P (some (-4)) D) (k3 : ¬ y0 = 0 → P (some (-3)) D) : z_Ok mX3_walk 44 [some (.ref 0), some (.int x1), some (.int x2), some (.int x3)] [.int y0] D P := z_if_eq (x := y0) 50 dX3_walk_44 (by decide) (fun c1 => z_aload_n 0 dX3_walk_50 rfl rfl <| z_getr 0 1 dX3_walk_51 fRX3_12 rfl rfl <| z_geti 6 dX3_walk_54 fRX3_78 rfl rfl <| z_bipush (v := 14) dX3_walk_57 (by decide) <| z_icmp_lt (x := D 1 6) (y := 14) 65 dX3_walk_59 (by decide) (fun c2 => z_aload_n 0 dX3_walk_65 rfl rfl <| z_getr 0 1 dX3_walk_66 fRX3_12 rfl rfl <| z_iload_n 1 dX3_walk_69 rfl rfl <| z_iload_n 2 dX3_walk_70 rfl rfl <| z_iload_n 3 dX3_walk_71 rfl rfl <| k1 c1 c2) (fun c3 => z_bipush (v := (-4)) dX3_walk_62 (by decide) <| z_ret (ty := .int) dX3_walk_64 rfl rfl (k2 c1 c3))) (fun c4 => z_bipush (v := (-3)) dX3_walk_47 (by decide) <| z_ret (ty := .int) dX3_walk_49 rfl rfl (k3 c4))
set_option maxRecDepth 20000 in
theorem sX3_walk_72 {lv : List (Option Value)} {v0 v1 v2 : Int32} {D : zM} {P : Option Int32 → zM → Prop} {Q : Int32 → zM → Prop} (hC : z_Ci mX0_add [.ref 1, .int v0, .int v1, .int v2] D Q) (kk : ∀ r D1, Q r D1 → z_Ok mX3_walk 75 lv [.int r] D1 P) : z_Ok mX3_walk 72 lv [.int v2, .int v1, .int v0, .ref 1] D P := z_callV (n := 3) [.int v0, .int v1, .int v2] [] dX3_walk_72 tX0_add kRX3_81 (by decide) pnX0_add rfl rfl rfl rfl (Nat.le_of_ble_eq_true rfl) (by simp [Value.category]) (by simp [Value.category]) hC (fun r D1 q1 => z_intr q1 (fun r q => kk r D1 q))
set_option maxRecDepth 20000 in
theorem bX3_walk_75 {x1 x2 x3 y0 : Int32} {D : zM} {P : Option Int32 → zM → Prop}  (k1 : P (some y0) D) : z_Ok mX3_walk 75 [some (.ref 0), some (.int x1), some (.int x2), some (.int x3)] [.int y0] D P := z_ret (ty := .int) dX3_walk_75 rfl rfl (k1)
set_option maxRecDepth 20000 in
theorem bX3_unwalk_0 {D : zM} {P : Option Int32 → zM → Prop}  (k1 : 1 ≤ (D 1 6) → z_Ok mX3_unwalk 18 [some (.ref 0)] [.ref 1] D P) (k2 : ¬ 1 ≤ (D 1 6) → P (some (-3)) D) : z_Ok mX3_unwalk 0 [some (.ref 0)] [] D P := z_aload_n 0 dX3_unwalk_0 rfl rfl <| z_getr 0 1 dX3_unwalk_1 fRX3_12 rfl rfl <| z_geti 6 dX3_unwalk_4 fRX3_78 rfl rfl <| z_iconst (v := 1) dX3_unwalk_7 (by decide) <| z_icmp_ge (x := D 1 6) (y := 1) 14 dX3_unwalk_8 (by decide) (fun c1 => z_aload_n 0 dX3_unwalk_14 rfl rfl <| z_getr 0 1 dX3_unwalk_15 fRX3_12 rfl rfl <| k1 c1) (fun c2 => z_bipush (v := (-3)) dX3_unwalk_11 (by decide) <| z_ret (ty := .int) dX3_unwalk_13 rfl rfl (k2 c2))
set_option maxRecDepth 20000 in
theorem sX3_unwalk_18 {lv : List (Option Value)} {D : zM} {P : Option Int32 → zM → Prop} {Q : Int32 → zM → Prop} (hC : z_Ci mX0_removeLast [.ref 1] D Q) (kk : ∀ r D1, Q r D1 → z_Ok mX3_unwalk 21 lv [.int r] D1 P) : z_Ok mX3_unwalk 18 lv [.ref 1] D P := z_callV (n := 0) [] [] dX3_unwalk_18 tX0_removeLast kRX3_85 (by decide) pnX0_removeLast rfl rfl rfl rfl (Nat.le_of_ble_eq_true rfl) (by simp [Value.category]) (by simp [Value.category]) hC (fun r D1 q1 => z_intr q1 (fun r q => kk r D1 q))
set_option maxRecDepth 20000 in
theorem bX3_unwalk_21 {y0 : Int32} {D : zM} {P : Option Int32 → zM → Prop}  (k1 : P (some y0) D) : z_Ok mX3_unwalk 21 [some (.ref 0)] [.int y0] D P := z_ret (ty := .int) dX3_unwalk_21 rfl rfl (k1)
set_option maxRecDepth 20000 in
theorem bX3_open_0 {x1 x2 : Int32} {D : zM} {P : Option Int32 → zM → Prop}  (k1 : z_nm x1 (D 1 6) → z_Ok mX3_open 19 [some (.ref 0), some (.int x1), some (.int x2)] [.int x2, .int x1, .ref 1] D P) (k2 : ¬ z_nm x1 (D 1 6) → P (some (-1)) D) : z_Ok mX3_open 0 [some (.ref 0), some (.int x1), some (.int x2)] [] D P := z_aload_n 0 dX3_open_0 rfl rfl <| z_getr 0 1 dX3_open_1 fRX3_12 rfl rfl <| z_iload_n 1 dX3_open_4 rfl rfl <| z_callV (n := 1) [.int x1] [] dX3_open_5 tX0_has kRX3_89 (by decide) pnX0_has rfl rfl rfl rfl (Nat.le_of_ble_eq_true rfl) (by simp [Value.category]) (by simp [Value.category]) (uX0_has x1 D) (fun r D1 q1 => z_bool q1 (fun c1 => z_if_ne (x := 1) 13 dX3_open_8 (by decide) (fun _ => z_aload_n 0 dX3_open_13 rfl rfl <| z_getr 0 1 dX3_open_14 fRX3_12 rfl rfl <| z_iload_n 1 dX3_open_17 rfl rfl <| z_iload_n 2 dX3_open_18 rfl rfl <| k1 c1) (fun h => absurd h (by decide))) (fun c2 => z_if_ne (x := 0) 13 dX3_open_8 (by decide) (fun h => absurd h (by decide)) (fun _ => z_iconst (v := (-1)) dX3_open_11 (by decide) <| z_ret (ty := .int) dX3_open_12 rfl rfl (k2 c2))))
set_option maxRecDepth 20000 in
theorem sX3_open_19 {lv : List (Option Value)} {v0 v1 : Int32} {D : zM} {P : Option Int32 → zM → Prop} {Q : Int32 → zM → Prop} (hC : z_Ci mX0_turn [.ref 1, .int v0, .int v1] D Q) (kk : ∀ r D1, Q r D1 → z_Ok mX3_open 22 lv [.int r] D1 P) : z_Ok mX3_open 19 lv [.int v1, .int v0, .ref 1] D P := z_callV (n := 2) [.int v0, .int v1] [] dX3_open_19 tX0_turn kRX3_92 (by decide) pnX0_turn rfl rfl rfl rfl (Nat.le_of_ble_eq_true rfl) (by simp [Value.category]) (by simp [Value.category]) hC (fun r D1 q1 => z_intr q1 (fun r q => kk r D1 q))
set_option maxRecDepth 20000 in
theorem bX3_open_22 {x1 x2 y0 : Int32} {D : zM} {P : Option Int32 → zM → Prop}  (k1 : y0 = 0 → P (some 0) D) (k2 : ¬ y0 = 0 → P (some 1) D) : z_Ok mX3_open 22 [some (.ref 0), some (.int x1), some (.int x2)] [.int y0] D P := z_if_eq (x := y0) 29 dX3_open_22 (by decide) (fun c1 => z_iconst (v := 0) dX3_open_29 (by decide) <| z_ret (ty := .int) dX3_open_30 rfl rfl (k1 c1)) (fun c2 => z_iconst (v := 1) dX3_open_25 (by decide) <| z_goto 30 dX3_open_26 (by decide) <| z_ret (ty := .int) dX3_open_30 rfl rfl (k2 c2))
set_option maxRecDepth 20000 in
theorem bX3_ofWalk_0 {x1 x2 : Int32} {D : zM} {P : Option Int32 → zM → Prop}  (h1 : z_nm x1 (D 1 6) → x2 = 0 → vp_in x1 14) (h2 : z_nm x1 (D 1 6) → ¬ x2 = 0 → x2 = 1 → vp_in x1 14) (h3 : z_nm x1 (D 1 6) → ¬ x2 = 0 → ¬ x2 = 1 → x2 = 2 → vp_in x1 14) (h4 : z_nm x1 (D 1 6) → ¬ x2 = 0 → ¬ x2 = 1 → ¬ x2 = 2 → x2 = 3 → vp_in x1 14) (k1 : z_nm x1 (D 1 6) → x2 = 0 → P (some (D 2 x1.toNatClampNeg)) D) (k2 : z_nm x1 (D 1 6) → ¬ x2 = 0 → x2 = 1 → P (some (D 3 x1.toNatClampNeg)) D) (k3 : z_nm x1 (D 1 6) → ¬ x2 = 0 → ¬ x2 = 1 → x2 = 2 → P (some (D 4 x1.toNatClampNeg)) D) (k4 : z_nm x1 (D 1 6) → ¬ x2 = 0 → ¬ x2 = 1 → ¬ x2 = 2 → x2 = 3 → (D 5 x1.toNatClampNeg) = 0 → P (some 0) D) (k5 : z_nm x1 (D 1 6) → ¬ x2 = 0 → ¬ x2 = 1 → ¬ x2 = 2 → x2 = 3 → ¬ (D 5 x1.toNatClampNeg) = 0 → P (some 1) D) (k6 : z_nm x1 (D 1 6) → ¬ x2 = 0 → ¬ x2 = 1 → ¬ x2 = 2 → ¬ x2 = 3 → P (some (-2)) D) (k7 : ¬ z_nm x1 (D 1 6) → P (some (-1)) D) : z_Ok mX3_ofWalk 0 [some (.ref 0), some (.int x1), some (.int x2)] [] D P := z_aload_n 0 dX3_ofWalk_0 rfl rfl <| z_getr 0 1 dX3_ofWalk_1 fRX3_12 rfl rfl <| z_iload_n 1 dX3_ofWalk_4 rfl rfl <| z_callV (n := 1) [.int x1] [] dX3_ofWalk_5 tX0_has kRX3_89 (by decide) pnX0_has rfl rfl rfl rfl (Nat.le_of_ble_eq_true rfl) (by simp [Value.category]) (by simp [Value.category]) (uX0_has x1 D) (fun r D1 q1 => z_bool q1 (fun c1 => z_if_ne (x := 1) 13 dX3_ofWalk_8 (by decide) (fun _ => z_iload_n 2 dX3_ofWalk_13 rfl rfl <| z_case (x2 = 0) (fun c2 => z_tabIn 44 dX3_ofWalk_14 (by rw [c2]; decide) (by rw [c2]; decide) (by rw [c2]; rfl) (by decide) <| z_aload_n 0 dX3_ofWalk_44 rfl rfl <| z_getr 0 1 dX3_ofWalk_45 fRX3_12 rfl rfl <| z_getr 0 2 dX3_ofWalk_48 fRX3_96 rfl rfl <| z_iload_n 1 dX3_ofWalk_51 rfl rfl <| z_iald dX3_ofWalk_52 rfl (h1 c1 c2) <| z_ret (ty := .int) dX3_ofWalk_53 rfl rfl (k1 c1 c2)) (fun c3 => z_case (x2 = 1) (fun c4 => z_tabIn 54 dX3_ofWalk_14 (by rw [c4]; decide) (by rw [c4]; decide) (by rw [c4]; rfl) (by decide) <| z_aload_n 0 dX3_ofWalk_54 rfl rfl <| z_getr 0 1 dX3_ofWalk_55 fRX3_12 rfl rfl <| z_getr 1 3 dX3_ofWalk_58 fRX3_99 rfl rfl <| z_iload_n 1 dX3_ofWalk_61 rfl rfl <| z_iald dX3_ofWalk_62 rfl (h2 c1 c3 c4) <| z_ret (ty := .int) dX3_ofWalk_63 rfl rfl (k2 c1 c3 c4)) (fun c5 => z_case (x2 = 2) (fun c6 => z_tabIn 64 dX3_ofWalk_14 (by rw [c6]; decide) (by rw [c6]; decide) (by rw [c6]; rfl) (by decide) <| z_aload_n 0 dX3_ofWalk_64 rfl rfl <| z_getr 0 1 dX3_ofWalk_65 fRX3_12 rfl rfl <| z_getr 2 4 dX3_ofWalk_68 fRX3_102 rfl rfl <| z_iload_n 1 dX3_ofWalk_71 rfl rfl <| z_iald dX3_ofWalk_72 rfl (h3 c1 c3 c5 c6) <| z_ret (ty := .int) dX3_ofWalk_73 rfl rfl (k3 c1 c3 c5 c6)) (fun c7 => z_case (x2 = 3) (fun c8 => z_tabIn 74 dX3_ofWalk_14 (by rw [c8]; decide) (by rw [c8]; decide) (by rw [c8]; rfl) (by decide) <| z_aload_n 0 dX3_ofWalk_74 rfl rfl <| z_getr 0 1 dX3_ofWalk_75 fRX3_12 rfl rfl <| z_getr 3 5 dX3_ofWalk_78 fRX3_105 rfl rfl <| z_iload_n 1 dX3_ofWalk_81 rfl rfl <| z_bald dX3_ofWalk_82 rfl (h4 c1 c3 c5 c7 c8) <| z_if_eq (x := D 5 x1.toNatClampNeg) 90 dX3_ofWalk_83 (by decide) (fun c9 => z_iconst (v := 0) dX3_ofWalk_90 (by decide) <| z_ret (ty := .int) dX3_ofWalk_91 rfl rfl (k4 c1 c3 c5 c7 c8 c9)) (fun c10 => z_iconst (v := 1) dX3_ofWalk_86 (by decide) <| z_goto 91 dX3_ofWalk_87 (by decide) <| z_ret (ty := .int) dX3_ofWalk_91 rfl rfl (k5 c1 c3 c5 c7 c8 c10))) (fun c11 => z_tabOut 92 dX3_ofWalk_14 (z_sw0_3 c3 c5 c7 c11) (by decide) <| z_bipush (v := (-2)) dX3_ofWalk_92 (by decide) <| z_ret (ty := .int) dX3_ofWalk_94 rfl rfl (k6 c1 c3 c5 c7 c11)))))) (fun h => absurd h (by decide))) (fun c12 => z_if_ne (x := 0) 13 dX3_ofWalk_8 (by decide) (fun h => absurd h (by decide)) (fun _ => z_iconst (v := (-1)) dX3_ofWalk_11 (by decide) <| z_ret (ty := .int) dX3_ofWalk_12 rfl rfl (k7 c12))))
set_option maxRecDepth 20000 in
theorem bX3_name_0 {x1 : Int32} {D : zM} {P : Option Int32 → zM → Prop}  (h1 : vp_in x1 10 → (D 0 7) < 5 → vp_in (D 0 7) 5) (k1 : vp_in x1 10 → (D 0 7) < 5 → P (some (((D 0 7) + 1) - 1)) (z_up (z_up D 38 (D 0 7).toNatClampNeg x1) 0 7 ((D 0 7) + 1))) (k2 : vp_in x1 10 → ¬ (D 0 7) < 5 → P (some (-4)) D) (k3 : ¬ vp_in x1 10 → P (some (-1)) D) : z_Ok mX3_name 0 [some (.ref 0), some (.int x1)] [] D P := z_iload_n 1 dX3_name_0 rfl rfl <| z_callS (n := 1) [.int x1] [] dX3_name_1 tX3_isPlace kRX3_70 (by decide) pnX3_isPlace rfl rfl (Nat.le_of_ble_eq_true rfl) (by simp [Value.category]) (by simp [Value.category]) (uX3_isPlace x1 D) (fun r D1 q1 => z_bool q1 (fun c1 => z_if_ne (x := 1) 9 dX3_name_4 (by decide) (fun _ => z_aload_n 0 dX3_name_9 rfl rfl <| z_geti 7 dX3_name_10 fRX3_51 rfl rfl <| z_iconst (v := 5) dX3_name_13 (by decide) <| z_icmp_lt (x := D 0 7) (y := 5) 20 dX3_name_14 (by decide) (fun c2 => z_aload_n 0 dX3_name_20 rfl rfl <| z_getr 4 38 dX3_name_21 fRX3_33 rfl rfl <| z_aload_n 0 dX3_name_24 rfl rfl <| z_geti 7 dX3_name_25 fRX3_51 rfl rfl <| z_iload_n 1 dX3_name_28 rfl rfl <| z_iast dX3_name_29 rfl (h1 c1 c2) <| z_aload_n 0 dX3_name_30 rfl rfl <| z_dup dX3_name_31 rfl <| z_geti 7 dX3_name_32 fRX3_51 rfl rfl <| z_iconst (v := 1) dX3_name_35 (by decide) <| z_iadd dX3_name_36 <| z_put 7 dX3_name_37 pRX3_51 rfl rfl <| z_aload_n 0 dX3_name_40 rfl rfl <| z_geti 7 dX3_name_41 fRX3_51 rfl rfl <| z_iconst (v := 1) dX3_name_44 (by decide) <| z_isub dX3_name_45 <| z_ret (ty := .int) dX3_name_46 rfl rfl (k1 c1 c2)) (fun c3 => z_bipush (v := (-4)) dX3_name_17 (by decide) <| z_ret (ty := .int) dX3_name_19 rfl rfl (k2 c1 c3))) (fun h => absurd h (by decide))) (fun c4 => z_if_ne (x := 0) 9 dX3_name_4 (by decide) (fun h => absurd h (by decide)) (fun _ => z_iconst (v := (-1)) dX3_name_7 (by decide) <| z_ret (ty := .int) dX3_name_8 rfl rfl (k3 c4))))
set_option maxRecDepth 20000 in
theorem bX3_moves_0 {x1 x2 : Int32} {D : zM} {P : Option Int32 → zM → Prop}  (h1 : z_nm x1 (D 0 7) → vp_in x2 10 → vp_in x1 5) (k1 : z_nm x1 (D 0 7) → vp_in x2 10 → P (some (D 38 x1.toNatClampNeg)) (z_up D 38 x1.toNatClampNeg x2)) (k2 : z_nm x1 (D 0 7) → ¬ vp_in x2 10 → P (some (-1)) D) (k3 : ¬ z_nm x1 (D 0 7) → P (some (-1)) D) : z_Ok mX3_moves 0 [some (.ref 0), some (.int x1), some (.int x2), none] [] D P := z_aload_n 0 dX3_moves_0 rfl rfl <| z_iload_n 1 dX3_moves_1 rfl rfl <| z_callV (n := 1) [.int x1] [] dX3_moves_2 tX3_isName kRX3_109 (by decide) pnX3_isName rfl rfl rfl rfl (Nat.le_of_ble_eq_true rfl) (by simp [Value.category]) (by simp [Value.category]) (uX3_isName x1 D) (fun r D1 q1 => z_bool q1 (fun c1 => z_if_eq (x := 1) 15 dX3_moves_5 (by decide) (fun h => absurd h (by decide)) (fun _ => z_iload_n 2 dX3_moves_8 rfl rfl <| z_callS (n := 1) [.int x2] [] dX3_moves_9 tX3_isPlace kRX3_70 (by decide) pnX3_isPlace rfl rfl (Nat.le_of_ble_eq_true rfl) (by simp [Value.category]) (by simp [Value.category]) (uX3_isPlace x2 D) (fun r D1 q1 => z_bool q1 (fun c2 => z_if_ne (x := 1) 17 dX3_moves_12 (by decide) (fun _ => z_aload_n 0 dX3_moves_17 rfl rfl <| z_getr 4 38 dX3_moves_18 fRX3_33 rfl rfl <| z_iload_n 1 dX3_moves_21 rfl rfl <| z_iald dX3_moves_22 rfl (h1 c1 c2) <| z_istore_n 3 dX3_moves_23 rfl rfl <| z_aload_n 0 dX3_moves_24 rfl rfl <| z_getr 4 38 dX3_moves_25 fRX3_33 rfl rfl <| z_iload_n 1 dX3_moves_28 rfl rfl <| z_iload_n 2 dX3_moves_29 rfl rfl <| z_iast dX3_moves_30 rfl (h1 c1 c2) <| z_iload_n 3 dX3_moves_31 rfl rfl <| z_ret (ty := .int) dX3_moves_32 rfl rfl (k1 c1 c2)) (fun h => absurd h (by decide))) (fun c3 => z_if_ne (x := 0) 17 dX3_moves_12 (by decide) (fun h => absurd h (by decide)) (fun _ => z_iconst (v := (-1)) dX3_moves_15 (by decide) <| z_ret (ty := .int) dX3_moves_16 rfl rfl (k2 c1 c3)))))) (fun c4 => z_if_eq (x := 0) 15 dX3_moves_5 (by decide) (fun _ => z_iconst (v := (-1)) dX3_moves_15 (by decide) <| z_ret (ty := .int) dX3_moves_16 rfl rfl (k3 c4)) (fun h => absurd h (by decide))))
set_option maxRecDepth 20000 in
theorem bX3_entrance_0 {x1 x2 : Int32} {D : zM} {P : Option Int32 → zM → Prop}  (k1 : vp_in x1 10 → zb (D 0 8) x1 → ¬ 1 = x2 → P (some 1) (z_up D 0 8 ((D 0 8) ^^^ ((1 : Int32) <<< (x1 &&& 31))))) (k2 : vp_in x1 10 → zb (D 0 8) x1 → 1 = x2 → P (some 0) D) (k3 : vp_in x1 10 → ¬ zb (D 0 8) x1 → ¬ 0 = x2 → P (some 1) (z_up D 0 8 ((D 0 8) ^^^ ((1 : Int32) <<< (x1 &&& 31))))) (k4 : vp_in x1 10 → ¬ zb (D 0 8) x1 → 0 = x2 → P (some 0) D) (k5 : ¬ vp_in x1 10 → P (some (-1)) D) : z_Ok mX3_entrance 0 [some (.ref 0), some (.int x1), some (.int x2)] [] D P := z_iload_n 1 dX3_entrance_0 rfl rfl <| z_callS (n := 1) [.int x1] [] dX3_entrance_1 tX3_isPlace kRX3_70 (by decide) pnX3_isPlace rfl rfl (Nat.le_of_ble_eq_true rfl) (by simp [Value.category]) (by simp [Value.category]) (uX3_isPlace x1 D) (fun r D1 q1 => z_bool q1 (fun c1 => z_if_ne (x := 1) 9 dX3_entrance_4 (by decide) (fun _ => z_aload_n 0 dX3_entrance_9 rfl rfl <| z_geti 8 dX3_entrance_10 fRX3_55 rfl rfl <| z_iload_n 1 dX3_entrance_13 rfl rfl <| z_callS (n := 2) [.int (D 0 8), .int x1] [] dX3_entrance_14 tX3_holds kRX3_112 (by decide) pnX3_holds rfl rfl (Nat.le_of_ble_eq_true rfl) (by simp [Value.category]) (by simp [Value.category]) (uX3_holds (D 0 8) x1 D) (fun r D1 q1 => z_bool q1 (fun c2 => z_iload_n 2 dX3_entrance_17 rfl rfl <| z_icmp_ne (x := 1) (y := x2) 23 dX3_entrance_18 (by decide) (fun c3 => z_aload_n 0 dX3_entrance_23 rfl rfl <| z_dup dX3_entrance_24 rfl <| z_geti 8 dX3_entrance_25 fRX3_55 rfl rfl <| z_iconst (v := 1) dX3_entrance_28 (by decide) <| z_iload_n 1 dX3_entrance_29 rfl rfl <| z_ishl dX3_entrance_30 <| z_ixor dX3_entrance_31 <| z_put 8 dX3_entrance_32 pRX3_55 rfl rfl <| z_iconst (v := 1) dX3_entrance_35 (by decide) <| z_ret (ty := .int) dX3_entrance_36 rfl rfl (k1 c1 c2 c3)) (fun c4 => z_iconst (v := 0) dX3_entrance_21 (by decide) <| z_ret (ty := .int) dX3_entrance_22 rfl rfl (k2 c1 c2 c4))) (fun c5 => z_iload_n 2 dX3_entrance_17 rfl rfl <| z_icmp_ne (x := 0) (y := x2) 23 dX3_entrance_18 (by decide) (fun c6 => z_aload_n 0 dX3_entrance_23 rfl rfl <| z_dup dX3_entrance_24 rfl <| z_geti 8 dX3_entrance_25 fRX3_55 rfl rfl <| z_iconst (v := 1) dX3_entrance_28 (by decide) <| z_iload_n 1 dX3_entrance_29 rfl rfl <| z_ishl dX3_entrance_30 <| z_ixor dX3_entrance_31 <| z_put 8 dX3_entrance_32 pRX3_55 rfl rfl <| z_iconst (v := 1) dX3_entrance_35 (by decide) <| z_ret (ty := .int) dX3_entrance_36 rfl rfl (k3 c1 c5 c6)) (fun c7 => z_iconst (v := 0) dX3_entrance_21 (by decide) <| z_ret (ty := .int) dX3_entrance_22 rfl rfl (k4 c1 c5 c7))))) (fun h => absurd h (by decide))) (fun c8 => z_if_ne (x := 0) 9 dX3_entrance_4 (by decide) (fun h => absurd h (by decide)) (fun _ => z_iconst (v := (-1)) dX3_entrance_7 (by decide) <| z_ret (ty := .int) dX3_entrance_8 rfl rfl (k5 c8))))
set_option maxRecDepth 20000 in
theorem bX3_detour_0 {x1 : Int32} {D : zM} {P : Option Int32 → zM → Prop}  (k1 : x1 < 0 → P (some (-2)) D) (k2 : ¬ x1 < 0 → x1 ≤ 999 → P (some (D 0 9)) (z_up D 0 9 x1)) (k3 : ¬ x1 < 0 → ¬ x1 ≤ 999 → P (some (-2)) D) : z_Ok mX3_detour 0 [some (.ref 0), some (.int x1), none] [] D P := z_iload_n 1 dX3_detour_0 rfl rfl <| z_if_lt (x := x1) 11 dX3_detour_1 (by decide) (fun c1 => z_bipush (v := (-2)) dX3_detour_11 (by decide) <| z_ret (ty := .int) dX3_detour_13 rfl rfl (k1 c1)) (fun c2 => z_iload_n 1 dX3_detour_4 rfl rfl <| z_sipush (v := 999) dX3_detour_5 (by decide) <| z_icmp_le (x := x1) (y := 999) 14 dX3_detour_8 (by decide) (fun c3 => z_aload_n 0 dX3_detour_14 rfl rfl <| z_geti 9 dX3_detour_15 fRX3_58 rfl rfl <| z_istore_n 2 dX3_detour_18 rfl rfl <| z_aload_n 0 dX3_detour_19 rfl rfl <| z_iload_n 1 dX3_detour_20 rfl rfl <| z_put 9 dX3_detour_21 pRX3_58 rfl rfl <| z_iload_n 2 dX3_detour_24 rfl rfl <| z_ret (ty := .int) dX3_detour_25 rfl rfl (k2 c2 c3)) (fun c4 => z_bipush (v := (-2)) dX3_detour_11 (by decide) <| z_ret (ty := .int) dX3_detour_13 rfl rfl (k3 c2 c4)))
set_option maxRecDepth 20000 in
theorem bX3_board_0 {x1 x2 x3 : Int32} {D : zM} {P : Option Int32 → zM → Prop}  (k1 : vp_in x1 10 → z_nm x2 (D 0 7) → vp_in x3 10 → z_Ok mX3_board 30 [some (.ref 0), some (.int x1), some (.int x2), some (.int x3), none] [.int x3, .int x1, .ref 1] D P) (k2 : vp_in x1 10 → z_nm x2 (D 0 7) → ¬ vp_in x3 10 → P (some (-1)) D) (k3 : vp_in x1 10 → ¬ z_nm x2 (D 0 7) → P (some (-1)) D) (k4 : ¬ vp_in x1 10 → P (some (-1)) D) : z_Ok mX3_board 0 [some (.ref 0), some (.int x1), some (.int x2), some (.int x3), none] [] D P := z_iload_n 1 dX3_board_0 rfl rfl <| z_callS (n := 1) [.int x1] [] dX3_board_1 tX3_isPlace kRX3_70 (by decide) pnX3_isPlace rfl rfl (Nat.le_of_ble_eq_true rfl) (by simp [Value.category]) (by simp [Value.category]) (uX3_isPlace x1 D) (fun r D1 q1 => z_bool q1 (fun c1 => z_if_eq (x := 1) 22 dX3_board_4 (by decide) (fun h => absurd h (by decide)) (fun _ => z_aload_n 0 dX3_board_7 rfl rfl <| z_iload_n 2 dX3_board_8 rfl rfl <| z_callV (n := 1) [.int x2] [] dX3_board_9 tX3_isName kRX3_109 (by decide) pnX3_isName rfl rfl rfl rfl (Nat.le_of_ble_eq_true rfl) (by simp [Value.category]) (by simp [Value.category]) (uX3_isName x2 D) (fun r D1 q1 => z_bool q1 (fun c2 => z_if_eq (x := 1) 22 dX3_board_12 (by decide) (fun h => absurd h (by decide)) (fun _ => z_iload_n 3 dX3_board_15 rfl rfl <| z_callS (n := 1) [.int x3] [] dX3_board_16 tX3_isPlace kRX3_70 (by decide) pnX3_isPlace rfl rfl (Nat.le_of_ble_eq_true rfl) (by simp [Value.category]) (by simp [Value.category]) (uX3_isPlace x3 D) (fun r D1 q1 => z_bool q1 (fun c3 => z_if_ne (x := 1) 24 dX3_board_19 (by decide) (fun _ => z_aload_n 0 dX3_board_24 rfl rfl <| z_getr 0 1 dX3_board_25 fRX3_12 rfl rfl <| z_iload_n 1 dX3_board_28 rfl rfl <| z_iload_n 3 dX3_board_29 rfl rfl <| k1 c1 c2 c3) (fun h => absurd h (by decide))) (fun c4 => z_if_ne (x := 0) 24 dX3_board_19 (by decide) (fun h => absurd h (by decide)) (fun _ => z_iconst (v := (-1)) dX3_board_22 (by decide) <| z_ret (ty := .int) dX3_board_23 rfl rfl (k2 c1 c2 c4)))))) (fun c5 => z_if_eq (x := 0) 22 dX3_board_12 (by decide) (fun _ => z_iconst (v := (-1)) dX3_board_22 (by decide) <| z_ret (ty := .int) dX3_board_23 rfl rfl (k3 c1 c5)) (fun h => absurd h (by decide)))))) (fun c6 => z_if_eq (x := 0) 22 dX3_board_4 (by decide) (fun _ => z_iconst (v := (-1)) dX3_board_22 (by decide) <| z_ret (ty := .int) dX3_board_23 rfl rfl (k4 c6)) (fun h => absurd h (by decide))))
set_option maxRecDepth 20000 in
theorem sX3_board_30 {lv : List (Option Value)} {v0 v1 : Int32} {D : zM} {P : Option Int32 → zM → Prop} {Q : Int32 → zM → Prop} (hC : z_Ci mX0_joins [.ref 1, .int v0, .int v1] D Q) (kk : ∀ r D1, Q r D1 → z_Ok mX3_board 33 lv [.int r] D1 P) : z_Ok mX3_board 30 lv [.int v1, .int v0, .ref 1] D P := z_callV (n := 2) [.int v0, .int v1] [] dX3_board_30 tX0_joins kRX3_74 (by decide) pnX0_joins rfl rfl rfl rfl (Nat.le_of_ble_eq_true rfl) (by simp [Value.category]) (by simp [Value.category]) hC (fun r D1 q1 => z_intr q1 (fun r q => kk r D1 q))
set_option maxRecDepth 20000 in
theorem bX3_board_33 {x1 x2 x3 y0 : Int32} {D : zM} {P : Option Int32 → zM → Prop}  (h1 : ¬ y0 = 0 → vp_in x2 5) (h2 : ¬ y0 = 0 → vp_in x1 10) (k1 : ¬ y0 = 0 → P (some (D (40 + x2.toNatClampNeg) x1.toNatClampNeg)) (z_up D (40 + x2.toNatClampNeg) x1.toNatClampNeg x3)) (k2 : y0 = 0 → P (some (-3)) D) : z_Ok mX3_board 33 [some (.ref 0), some (.int x1), some (.int x2), some (.int x3), none] [.int y0] D P := z_if_ne (x := y0) 39 dX3_board_33 (by decide) (fun c1 => z_aload_n 0 dX3_board_39 rfl rfl <| z_getr 5 39 dX3_board_40 fRX3_39 rfl rfl <| z_iload_n 2 dX3_board_43 rfl rfl <| z_aald dX3_board_44 rfl (h1 c1) <| z_iload_n 1 dX3_board_45 rfl rfl <| z_iald dX3_board_46 (z_r40 (h1 c1)) (h2 c1) <| z_istore dX3_board_47 rfl <| z_aload_n 0 dX3_board_49 rfl rfl <| z_getr 5 39 dX3_board_50 fRX3_39 rfl rfl <| z_iload_n 2 dX3_board_53 rfl rfl <| z_aald dX3_board_54 rfl (h1 c1) <| z_iload_n 1 dX3_board_55 rfl rfl <| z_iload_n 3 dX3_board_56 rfl rfl <| z_iast dX3_board_57 (z_r40 (h1 c1)) (h2 c1) <| z_iload dX3_board_58 rfl <| z_ret (ty := .int) dX3_board_60 rfl rfl (k1 c1)) (fun c2 => z_bipush (v := (-3)) dX3_board_36 (by decide) <| z_ret (ty := .int) dX3_board_38 rfl rfl (k2 c2))
set_option maxRecDepth 20000 in
theorem bX3_unboard_0 {x1 x2 : Int32} {D : zM} {P : Option Int32 → zM → Prop}  (h1 : vp_in x1 10 → z_nm x2 (D 0 7) → vp_in x2 5) (k1 : vp_in x1 10 → z_nm x2 (D 0 7) → ¬ (D (40 + x2.toNatClampNeg) x1.toNatClampNeg) = (-9) → P (some (D (40 + x2.toNatClampNeg) x1.toNatClampNeg)) (z_up D (40 + x2.toNatClampNeg) x1.toNatClampNeg (-9))) (k2 : vp_in x1 10 → z_nm x2 (D 0 7) → (D (40 + x2.toNatClampNeg) x1.toNatClampNeg) = (-9) → P (some (-3)) D) (k3 : vp_in x1 10 → ¬ z_nm x2 (D 0 7) → P (some (-1)) D) (k4 : ¬ vp_in x1 10 → P (some (-1)) D) : z_Ok mX3_unboard 0 [some (.ref 0), some (.int x1), some (.int x2), none] [] D P := z_iload_n 1 dX3_unboard_0 rfl rfl <| z_callS (n := 1) [.int x1] [] dX3_unboard_1 tX3_isPlace kRX3_70 (by decide) pnX3_isPlace rfl rfl (Nat.le_of_ble_eq_true rfl) (by simp [Value.category]) (by simp [Value.category]) (uX3_isPlace x1 D) (fun r D1 q1 => z_bool q1 (fun c1 => z_if_eq (x := 1) 15 dX3_unboard_4 (by decide) (fun h => absurd h (by decide)) (fun _ => z_aload_n 0 dX3_unboard_7 rfl rfl <| z_iload_n 2 dX3_unboard_8 rfl rfl <| z_callV (n := 1) [.int x2] [] dX3_unboard_9 tX3_isName kRX3_109 (by decide) pnX3_isName rfl rfl rfl rfl (Nat.le_of_ble_eq_true rfl) (by simp [Value.category]) (by simp [Value.category]) (uX3_isName x2 D) (fun r D1 q1 => z_bool q1 (fun c2 => z_if_ne (x := 1) 17 dX3_unboard_12 (by decide) (fun _ => z_aload_n 0 dX3_unboard_17 rfl rfl <| z_getr 5 39 dX3_unboard_18 fRX3_39 rfl rfl <| z_iload_n 2 dX3_unboard_21 rfl rfl <| z_aald dX3_unboard_22 rfl (h1 c1 c2) <| z_iload_n 1 dX3_unboard_23 rfl rfl <| z_iald dX3_unboard_24 (z_r40 (h1 c1 c2)) c1 <| z_istore_n 3 dX3_unboard_25 rfl rfl <| z_iload_n 3 dX3_unboard_26 rfl rfl <| z_bipush (v := (-9)) dX3_unboard_27 (by decide) <| z_icmp_ne (x := D (40 + x2.toNatClampNeg) x1.toNatClampNeg) (y := (-9)) 35 dX3_unboard_29 (by decide) (fun c3 => z_aload_n 0 dX3_unboard_35 rfl rfl <| z_getr 5 39 dX3_unboard_36 fRX3_39 rfl rfl <| z_iload_n 2 dX3_unboard_39 rfl rfl <| z_aald dX3_unboard_40 rfl (h1 c1 c2) <| z_iload_n 1 dX3_unboard_41 rfl rfl <| z_bipush (v := (-9)) dX3_unboard_42 (by decide) <| z_iast dX3_unboard_44 (z_r40 (h1 c1 c2)) c1 <| z_iload_n 3 dX3_unboard_45 rfl rfl <| z_ret (ty := .int) dX3_unboard_46 rfl rfl (k1 c1 c2 c3)) (fun c4 => z_bipush (v := (-3)) dX3_unboard_32 (by decide) <| z_ret (ty := .int) dX3_unboard_34 rfl rfl (k2 c1 c2 c4))) (fun h => absurd h (by decide))) (fun c5 => z_if_ne (x := 0) 17 dX3_unboard_12 (by decide) (fun h => absurd h (by decide)) (fun _ => z_iconst (v := (-1)) dX3_unboard_15 (by decide) <| z_ret (ty := .int) dX3_unboard_16 rfl rfl (k3 c1 c5)))))) (fun c6 => z_if_eq (x := 0) 15 dX3_unboard_4 (by decide) (fun _ => z_iconst (v := (-1)) dX3_unboard_15 (by decide) <| z_ret (ty := .int) dX3_unboard_16 rfl rfl (k4 c6)) (fun h => absurd h (by decide))))
set_option maxRecDepth 20000 in
theorem bX3_arrow_0 {x1 x2 : Int32} {D : zM} {P : Option Int32 → zM → Prop}  (h1 : vp_in x1 10 → z_nm x2 (D 0 7) → vp_in x2 5) (k1 : vp_in x1 10 → z_nm x2 (D 0 7) → P (some (D (40 + x2.toNatClampNeg) x1.toNatClampNeg)) D) (k2 : vp_in x1 10 → ¬ z_nm x2 (D 0 7) → P (some (-1)) D) (k3 : ¬ vp_in x1 10 → P (some (-1)) D) : z_Ok mX3_arrow 0 [some (.ref 0), some (.int x1), some (.int x2)] [] D P := z_iload_n 1 dX3_arrow_0 rfl rfl <| z_callS (n := 1) [.int x1] [] dX3_arrow_1 tX3_isPlace kRX3_70 (by decide) pnX3_isPlace rfl rfl (Nat.le_of_ble_eq_true rfl) (by simp [Value.category]) (by simp [Value.category]) (uX3_isPlace x1 D) (fun r D1 q1 => z_bool q1 (fun c1 => z_if_eq (x := 1) 15 dX3_arrow_4 (by decide) (fun h => absurd h (by decide)) (fun _ => z_aload_n 0 dX3_arrow_7 rfl rfl <| z_iload_n 2 dX3_arrow_8 rfl rfl <| z_callV (n := 1) [.int x2] [] dX3_arrow_9 tX3_isName kRX3_109 (by decide) pnX3_isName rfl rfl rfl rfl (Nat.le_of_ble_eq_true rfl) (by simp [Value.category]) (by simp [Value.category]) (uX3_isName x2 D) (fun r D1 q1 => z_bool q1 (fun c2 => z_if_ne (x := 1) 17 dX3_arrow_12 (by decide) (fun _ => z_aload_n 0 dX3_arrow_17 rfl rfl <| z_getr 5 39 dX3_arrow_18 fRX3_39 rfl rfl <| z_iload_n 2 dX3_arrow_21 rfl rfl <| z_aald dX3_arrow_22 rfl (h1 c1 c2) <| z_iload_n 1 dX3_arrow_23 rfl rfl <| z_iald dX3_arrow_24 (z_r40 (h1 c1 c2)) c1 <| z_ret (ty := .int) dX3_arrow_25 rfl rfl (k1 c1 c2)) (fun h => absurd h (by decide))) (fun c3 => z_if_ne (x := 0) 17 dX3_arrow_12 (by decide) (fun h => absurd h (by decide)) (fun _ => z_iconst (v := (-1)) dX3_arrow_15 (by decide) <| z_ret (ty := .int) dX3_arrow_16 rfl rfl (k2 c1 c3)))))) (fun c4 => z_if_eq (x := 0) 15 dX3_arrow_4 (by decide) (fun _ => z_iconst (v := (-1)) dX3_arrow_15 (by decide) <| z_ret (ty := .int) dX3_arrow_16 rfl rfl (k3 c4)) (fun h => absurd h (by decide))))
set_option maxRecDepth 20000 in
theorem bX3_far_0 {x1 x2 x3 : Int32} {D : zM} {P : Option Int32 → zM → Prop}  (h1 : vp_in x1 10 → z_nm x2 (D 0 7) → ¬ x3 < 0 → x3 ≤ 1 → vp_in x2 5) (k1 : vp_in x1 10 → z_nm x2 (D 0 7) → x3 < 0 → P (some (-2)) D) (k2 : vp_in x1 10 → z_nm x2 (D 0 7) → ¬ x3 < 0 → x3 ≤ 1 → z_Ok mX3_far 44 [some (.ref 0), some (.int x1), some (.int x2), some (.int x3)] [.int (D 38 x2.toNatClampNeg), .int x2, .ref 1, .ref 18] D P) (k3 : vp_in x1 10 → z_nm x2 (D 0 7) → ¬ x3 < 0 → ¬ x3 ≤ 1 → P (some (-2)) D) (k4 : vp_in x1 10 → ¬ z_nm x2 (D 0 7) → P (some (-1)) D) (k5 : ¬ vp_in x1 10 → P (some (-1)) D) : z_Ok mX3_far 0 [some (.ref 0), some (.int x1), some (.int x2), some (.int x3)] [] D P := z_iload_n 1 dX3_far_0 rfl rfl <| z_callS (n := 1) [.int x1] [] dX3_far_1 tX3_isPlace kRX3_70 (by decide) pnX3_isPlace rfl rfl (Nat.le_of_ble_eq_true rfl) (by simp [Value.category]) (by simp [Value.category]) (uX3_isPlace x1 D) (fun r D1 q1 => z_bool q1 (fun c1 => z_if_eq (x := 1) 15 dX3_far_4 (by decide) (fun h => absurd h (by decide)) (fun _ => z_aload_n 0 dX3_far_7 rfl rfl <| z_iload_n 2 dX3_far_8 rfl rfl <| z_callV (n := 1) [.int x2] [] dX3_far_9 tX3_isName kRX3_109 (by decide) pnX3_isName rfl rfl rfl rfl (Nat.le_of_ble_eq_true rfl) (by simp [Value.category]) (by simp [Value.category]) (uX3_isName x2 D) (fun r D1 q1 => z_bool q1 (fun c2 => z_if_ne (x := 1) 17 dX3_far_12 (by decide) (fun _ => z_iload_n 3 dX3_far_17 rfl rfl <| z_if_lt (x := x3) 26 dX3_far_18 (by decide) (fun c3 => z_bipush (v := (-2)) dX3_far_26 (by decide) <| z_ret (ty := .int) dX3_far_28 rfl rfl (k1 c1 c2 c3)) (fun c4 => z_iload_n 3 dX3_far_21 rfl rfl <| z_iconst (v := 1) dX3_far_22 (by decide) <| z_icmp_le (x := x3) (y := 1) 29 dX3_far_23 (by decide) (fun c5 => z_aload_n 0 dX3_far_29 rfl rfl <| z_getr 1 18 dX3_far_30 fRX3_19 rfl rfl <| z_aload_n 0 dX3_far_33 rfl rfl <| z_getr 0 1 dX3_far_34 fRX3_12 rfl rfl <| z_iload_n 2 dX3_far_37 rfl rfl <| z_aload_n 0 dX3_far_38 rfl rfl <| z_getr 4 38 dX3_far_39 fRX3_33 rfl rfl <| z_iload_n 2 dX3_far_42 rfl rfl <| z_iald dX3_far_43 rfl (h1 c1 c2 c4 c5) <| k2 c1 c2 c4 c5) (fun c6 => z_bipush (v := (-2)) dX3_far_26 (by decide) <| z_ret (ty := .int) dX3_far_28 rfl rfl (k3 c1 c2 c4 c6)))) (fun h => absurd h (by decide))) (fun c7 => z_if_ne (x := 0) 17 dX3_far_12 (by decide) (fun h => absurd h (by decide)) (fun _ => z_iconst (v := (-1)) dX3_far_15 (by decide) <| z_ret (ty := .int) dX3_far_16 rfl rfl (k4 c1 c7)))))) (fun c8 => z_if_eq (x := 0) 15 dX3_far_4 (by decide) (fun _ => z_iconst (v := (-1)) dX3_far_15 (by decide) <| z_ret (ty := .int) dX3_far_16 rfl rfl (k5 c8)) (fun h => absurd h (by decide))))
set_option maxRecDepth 20000 in
theorem sX3_far_44 {lv : List (Option Value)} {v1 v2 : Int32} {v0 : Nat} {D : zM} {P : Option Int32 → zM → Prop} {Q : zM → Prop} (hC : z_Cv mX2_draw [.ref 18, .ref v0, .int v1, .int v2] D Q) (kk : ∀ D1, Q D1 → z_Ok mX3_far 47 lv [] D1 P) : z_Ok mX3_far 44 lv [.int v2, .int v1, .ref v0, .ref 18] D P := z_callV (n := 3) [.ref v0, .int v1, .int v2] [] dX3_far_44 tX2_draw kRX3_115 (by decide) pnX2_draw rfl rfl rfl rfl (Nat.le_of_ble_eq_true rfl) (by simp [Value.category]) (by simp [Value.category]) hC (fun r D1 q1 => z_void q1 (fun q => kk D1 q))
set_option maxRecDepth 20000 in
theorem bX3_far_47 {x1 x2 x3 : Int32} {D : zM} {P : Option Int32 → zM → Prop}  (h1 : ¬ x3 = 0 → vp_in x2 5) (h2 : ¬ x3 = 0 → vp_in x1 10) (h3 : x3 = 0 → vp_in x2 5) (h4 : x3 = 0 → vp_in x1 10) (k1 : ¬ x3 = 0 → P (some (D (26 + x2.toNatClampNeg) x1.toNatClampNeg)) D) (k2 : x3 = 0 → P (some (D (20 + x2.toNatClampNeg) x1.toNatClampNeg)) D) : z_Ok mX3_far 47 [some (.ref 0), some (.int x1), some (.int x2), some (.int x3)] [] D P := z_iload_n 3 dX3_far_47 rfl rfl <| z_if_ne (x := x3) 65 dX3_far_48 (by decide) (fun c1 => z_aload_n 0 dX3_far_65 rfl rfl <| z_getr 1 18 dX3_far_66 fRX3_19 rfl rfl <| z_getr 1 25 dX3_far_69 fRX3_122 rfl rfl <| z_iload_n 2 dX3_far_72 rfl rfl <| z_aald dX3_far_73 rfl (h1 c1) <| z_iload_n 1 dX3_far_74 rfl rfl <| z_iald dX3_far_75 (z_r26 (h1 c1)) (h2 c1) <| z_ret (ty := .int) dX3_far_76 rfl rfl (k1 c1)) (fun c2 => z_aload_n 0 dX3_far_51 rfl rfl <| z_getr 1 18 dX3_far_52 fRX3_19 rfl rfl <| z_getr 0 19 dX3_far_55 fRX3_119 rfl rfl <| z_iload_n 2 dX3_far_58 rfl rfl <| z_aald dX3_far_59 rfl (h3 c2) <| z_iload_n 1 dX3_far_60 rfl rfl <| z_iald dX3_far_61 (z_r20 (h3 c2)) (h4 c2) <| z_goto 76 dX3_far_62 (by decide) <| z_ret (ty := .int) dX3_far_76 rfl rfl (k2 c2))
set_option maxRecDepth 20000 in
theorem bX3_from_0 {x1 : Int32} {D : zM} {P : Option Int32 → zM → Prop}  (k1 : vp_in x1 10 → P (some (D 6 x1.toNatClampNeg)) D) (k2 : ¬ vp_in x1 10 → P (some (-1)) D) : z_Ok mX3_from 0 [some (.ref 0), some (.int x1)] [] D P := z_iload_n 1 dX3_from_0 rfl rfl <| z_callS (n := 1) [.int x1] [] dX3_from_1 tX3_isPlace kRX3_70 (by decide) pnX3_isPlace rfl rfl (Nat.le_of_ble_eq_true rfl) (by simp [Value.category]) (by simp [Value.category]) (uX3_isPlace x1 D) (fun r D1 q1 => z_bool q1 (fun c1 => z_if_ne (x := 1) 9 dX3_from_4 (by decide) (fun _ => z_aload_n 0 dX3_from_9 rfl rfl <| z_getr 0 1 dX3_from_10 fRX3_12 rfl rfl <| z_getr 4 6 dX3_from_13 fRX3_125 rfl rfl <| z_iload_n 1 dX3_from_16 rfl rfl <| z_iald dX3_from_17 rfl c1 <| z_ret (ty := .int) dX3_from_18 rfl rfl (k1 c1)) (fun h => absurd h (by decide))) (fun c2 => z_if_ne (x := 0) 9 dX3_from_4 (by decide) (fun h => absurd h (by decide)) (fun _ => z_iconst (v := (-1)) dX3_from_7 (by decide) <| z_ret (ty := .int) dX3_from_8 rfl rfl (k2 c2))))
set_option maxRecDepth 20000 in
theorem bX3_follow_0 {x1 x2 x3 : Int32} {D : zM} {P : Option Int32 → zM → Prop}  (h1 : vp_in x1 10 → z_nm x2 (D 0 7) → x3 < 10 → ¬ x3 < 0 → x3 ≤ 3 → vp_in x2 5) (h2 : vp_in x1 10 → z_nm x2 (D 0 7) → ¬ x3 < 10 → 50 < x3 → ¬ x3 < 0 → x3 ≤ 3 → vp_in x2 5) (h3 : vp_in x1 10 → z_nm x2 (D 0 7) → ¬ x3 < 10 → ¬ 50 < x3 → vp_in x2 5) (k1 : vp_in x1 10 → z_nm x2 (D 0 7) → x3 < 10 → x3 < 0 → P (some (-2)) D) (k2 : vp_in x1 10 → z_nm x2 (D 0 7) → x3 < 10 → ¬ x3 < 0 → x3 ≤ 3 → z_Ok mX3_follow 74 [some (.ref 0), some (.int x1), some (.int x2), some (.int x3), some (.int 0)] [.ref (40 + x2.toNatClampNeg), .int (D 38 x2.toNatClampNeg), .int x1, .ref 1, .ref 32] D P) (k3 : vp_in x1 10 → z_nm x2 (D 0 7) → x3 < 10 → ¬ x3 < 0 → ¬ x3 ≤ 3 → P (some (-2)) D) (k4 : vp_in x1 10 → z_nm x2 (D 0 7) → ¬ x3 < 10 → 50 < x3 → x3 < 0 → P (some (-2)) D) (k5 : vp_in x1 10 → z_nm x2 (D 0 7) → ¬ x3 < 10 → 50 < x3 → ¬ x3 < 0 → x3 ≤ 3 → z_Ok mX3_follow 74 [some (.ref 0), some (.int x1), some (.int x2), some (.int x3), some (.int 0)] [.ref (40 + x2.toNatClampNeg), .int (D 38 x2.toNatClampNeg), .int x1, .ref 1, .ref 32] D P) (k6 : vp_in x1 10 → z_nm x2 (D 0 7) → ¬ x3 < 10 → 50 < x3 → ¬ x3 < 0 → ¬ x3 ≤ 3 → P (some (-2)) D) (k7 : vp_in x1 10 → z_nm x2 (D 0 7) → ¬ x3 < 10 → ¬ 50 < x3 → z_Ok mX3_follow 74 [some (.ref 0), some (.int x1), some (.int x2), some (.int x3), some (.int 1)] [.ref (40 + x2.toNatClampNeg), .int (D 38 x2.toNatClampNeg), .int x1, .ref 1, .ref 32] D P) (k8 : vp_in x1 10 → ¬ z_nm x2 (D 0 7) → P (some (-1)) D) (k9 : ¬ vp_in x1 10 → P (some (-1)) D) : z_Ok mX3_follow 0 [some (.ref 0), some (.int x1), some (.int x2), some (.int x3), none] [] D P := z_iload_n 1 dX3_follow_0 rfl rfl <| z_callS (n := 1) [.int x1] [] dX3_follow_1 tX3_isPlace kRX3_70 (by decide) pnX3_isPlace rfl rfl (Nat.le_of_ble_eq_true rfl) (by simp [Value.category]) (by simp [Value.category]) (uX3_isPlace x1 D) (fun r D1 q1 => z_bool q1 (fun c1 => z_if_eq (x := 1) 15 dX3_follow_4 (by decide) (fun h => absurd h (by decide)) (fun _ => z_aload_n 0 dX3_follow_7 rfl rfl <| z_iload_n 2 dX3_follow_8 rfl rfl <| z_callV (n := 1) [.int x2] [] dX3_follow_9 tX3_isName kRX3_109 (by decide) pnX3_isName rfl rfl rfl rfl (Nat.le_of_ble_eq_true rfl) (by simp [Value.category]) (by simp [Value.category]) (uX3_isName x2 D) (fun r D1 q1 => z_bool q1 (fun c2 => z_if_ne (x := 1) 17 dX3_follow_12 (by decide) (fun _ => z_iload_n 3 dX3_follow_17 rfl rfl <| z_bipush (v := 10) dX3_follow_18 (by decide) <| z_icmp_lt (x := x3) (y := 10) 33 dX3_follow_20 (by decide) (fun c3 => z_iconst (v := 0) dX3_follow_33 (by decide) <| z_istore dX3_follow_34 rfl <| z_iload dX3_follow_36 rfl <| z_if_ne (x := 0) 53 dX3_follow_38 (by decide) (fun h => absurd h (by decide)) (fun _ => z_iload_n 3 dX3_follow_41 rfl rfl <| z_if_lt (x := x3) 50 dX3_follow_42 (by decide) (fun c4 => z_bipush (v := (-2)) dX3_follow_50 (by decide) <| z_ret (ty := .int) dX3_follow_52 rfl rfl (k1 c1 c2 c3 c4)) (fun c5 => z_iload_n 3 dX3_follow_45 rfl rfl <| z_iconst (v := 3) dX3_follow_46 (by decide) <| z_icmp_le (x := x3) (y := 3) 53 dX3_follow_47 (by decide) (fun c6 => z_aload_n 0 dX3_follow_53 rfl rfl <| z_getr 2 32 dX3_follow_54 fRX3_26 rfl rfl <| z_aload_n 0 dX3_follow_57 rfl rfl <| z_getr 0 1 dX3_follow_58 fRX3_12 rfl rfl <| z_iload_n 1 dX3_follow_61 rfl rfl <| z_aload_n 0 dX3_follow_62 rfl rfl <| z_getr 4 38 dX3_follow_63 fRX3_33 rfl rfl <| z_iload_n 2 dX3_follow_66 rfl rfl <| z_iald dX3_follow_67 rfl (h1 c1 c2 c3 c5 c6) <| z_aload_n 0 dX3_follow_68 rfl rfl <| z_getr 5 39 dX3_follow_69 fRX3_39 rfl rfl <| z_iload_n 2 dX3_follow_72 rfl rfl <| z_aald dX3_follow_73 rfl (h1 c1 c2 c3 c5 c6) <| k2 c1 c2 c3 c5 c6) (fun c7 => z_bipush (v := (-2)) dX3_follow_50 (by decide) <| z_ret (ty := .int) dX3_follow_52 rfl rfl (k3 c1 c2 c3 c5 c7))))) (fun c8 => z_iload_n 3 dX3_follow_23 rfl rfl <| z_bipush (v := 50) dX3_follow_24 (by decide) <| z_icmp_gt (x := x3) (y := 50) 33 dX3_follow_26 (by decide) (fun c9 => z_iconst (v := 0) dX3_follow_33 (by decide) <| z_istore dX3_follow_34 rfl <| z_iload dX3_follow_36 rfl <| z_if_ne (x := 0) 53 dX3_follow_38 (by decide) (fun h => absurd h (by decide)) (fun _ => z_iload_n 3 dX3_follow_41 rfl rfl <| z_if_lt (x := x3) 50 dX3_follow_42 (by decide) (fun c10 => z_bipush (v := (-2)) dX3_follow_50 (by decide) <| z_ret (ty := .int) dX3_follow_52 rfl rfl (k4 c1 c2 c8 c9 c10)) (fun c11 => z_iload_n 3 dX3_follow_45 rfl rfl <| z_iconst (v := 3) dX3_follow_46 (by decide) <| z_icmp_le (x := x3) (y := 3) 53 dX3_follow_47 (by decide) (fun c12 => z_aload_n 0 dX3_follow_53 rfl rfl <| z_getr 2 32 dX3_follow_54 fRX3_26 rfl rfl <| z_aload_n 0 dX3_follow_57 rfl rfl <| z_getr 0 1 dX3_follow_58 fRX3_12 rfl rfl <| z_iload_n 1 dX3_follow_61 rfl rfl <| z_aload_n 0 dX3_follow_62 rfl rfl <| z_getr 4 38 dX3_follow_63 fRX3_33 rfl rfl <| z_iload_n 2 dX3_follow_66 rfl rfl <| z_iald dX3_follow_67 rfl (h2 c1 c2 c8 c9 c11 c12) <| z_aload_n 0 dX3_follow_68 rfl rfl <| z_getr 5 39 dX3_follow_69 fRX3_39 rfl rfl <| z_iload_n 2 dX3_follow_72 rfl rfl <| z_aald dX3_follow_73 rfl (h2 c1 c2 c8 c9 c11 c12) <| k5 c1 c2 c8 c9 c11 c12) (fun c13 => z_bipush (v := (-2)) dX3_follow_50 (by decide) <| z_ret (ty := .int) dX3_follow_52 rfl rfl (k6 c1 c2 c8 c9 c11 c13))))) (fun c14 => z_iconst (v := 1) dX3_follow_29 (by decide) <| z_goto 34 dX3_follow_30 (by decide) <| z_istore dX3_follow_34 rfl <| z_iload dX3_follow_36 rfl <| z_if_ne (x := 1) 53 dX3_follow_38 (by decide) (fun _ => z_aload_n 0 dX3_follow_53 rfl rfl <| z_getr 2 32 dX3_follow_54 fRX3_26 rfl rfl <| z_aload_n 0 dX3_follow_57 rfl rfl <| z_getr 0 1 dX3_follow_58 fRX3_12 rfl rfl <| z_iload_n 1 dX3_follow_61 rfl rfl <| z_aload_n 0 dX3_follow_62 rfl rfl <| z_getr 4 38 dX3_follow_63 fRX3_33 rfl rfl <| z_iload_n 2 dX3_follow_66 rfl rfl <| z_iald dX3_follow_67 rfl (h3 c1 c2 c8 c14) <| z_aload_n 0 dX3_follow_68 rfl rfl <| z_getr 5 39 dX3_follow_69 fRX3_39 rfl rfl <| z_iload_n 2 dX3_follow_72 rfl rfl <| z_aald dX3_follow_73 rfl (h3 c1 c2 c8 c14) <| k7 c1 c2 c8 c14) (fun h => absurd h (by decide))))) (fun h => absurd h (by decide))) (fun c15 => z_if_ne (x := 0) 17 dX3_follow_12 (by decide) (fun h => absurd h (by decide)) (fun _ => z_iconst (v := (-1)) dX3_follow_15 (by decide) <| z_ret (ty := .int) dX3_follow_16 rfl rfl (k8 c1 c15)))))) (fun c16 => z_if_eq (x := 0) 15 dX3_follow_4 (by decide) (fun _ => z_iconst (v := (-1)) dX3_follow_15 (by decide) <| z_ret (ty := .int) dX3_follow_16 rfl rfl (k9 c16)) (fun h => absurd h (by decide))))
set_option maxRecDepth 20000 in
theorem sX3_follow_74 {lv : List (Option Value)} {v1 v2 : Int32} {v0 v3 : Nat} {D : zM} {P : Option Int32 → zM → Prop} {Q : zM → Prop} (hC : z_Cv mX1_go [.ref 32, .ref v0, .int v1, .int v2, .ref v3] D Q) (kk : ∀ D1, Q D1 → z_Ok mX3_follow 77 lv [] D1 P) : z_Ok mX3_follow 74 lv [.ref v3, .int v2, .int v1, .ref v0, .ref 32] D P := z_callV (n := 4) [.ref v0, .int v1, .int v2, .ref v3] [] dX3_follow_74 tX1_go kRX3_128 (by decide) pnX1_go rfl rfl rfl rfl (Nat.le_of_ble_eq_true rfl) (by simp [Value.category]) (by simp [Value.category]) hC (fun r D1 q1 => z_void q1 (fun q => kk D1 q))
set_option maxRecDepth 20000 in
theorem bX3_follow_77 {x1 x2 x3 x4 : Int32} {D : zM} {P : Option Int32 → zM → Prop}  (k1 : x3 = 0 → P (some (D 32 4)) D) (k2 : ¬ x3 = 0 → x3 = 1 → P (some (D 32 2)) D) (k3 : ¬ x3 = 0 → ¬ x3 = 1 → x3 = 2 → P (some (D 32 3)) D) (k4 : ¬ x3 = 0 → ¬ x3 = 1 → ¬ x3 = 2 → x3 = 3 → z_Ok mX3_follow 143 [some (.ref 0), some (.int x1), some (.int x2), some (.int x3), some (.int x4)] [.int (D 32 2), .ref 32] D P) (k5 : ¬ x3 = 0 → ¬ x3 = 1 → ¬ x3 = 2 → ¬ x3 = 3 → z_Ok mX3_follow 155 [some (.ref 0), some (.int x1), some (.int x2), some (.int x3), some (.int x4)] [.int (x3 - 10), .ref 32] D P) : z_Ok mX3_follow 77 [some (.ref 0), some (.int x1), some (.int x2), some (.int x3), some (.int x4)] [] D P := z_iload_n 3 dX3_follow_77 rfl rfl <| z_case (x3 = 0) (fun c1 => z_tabIn 108 dX3_follow_78 (by rw [c1]; decide) (by rw [c1]; decide) (by rw [c1]; rfl) (by decide) <| z_aload_n 0 dX3_follow_108 rfl rfl <| z_getr 2 32 dX3_follow_109 fRX3_26 rfl rfl <| z_geti 4 dX3_follow_112 fRX3_132 rfl rfl <| z_ret (ty := .int) dX3_follow_115 rfl rfl (k1 c1)) (fun c2 => z_case (x3 = 1) (fun c3 => z_tabIn 116 dX3_follow_78 (by rw [c3]; decide) (by rw [c3]; decide) (by rw [c3]; rfl) (by decide) <| z_aload_n 0 dX3_follow_116 rfl rfl <| z_getr 2 32 dX3_follow_117 fRX3_26 rfl rfl <| z_geti 2 dX3_follow_120 fRX3_135 rfl rfl <| z_ret (ty := .int) dX3_follow_123 rfl rfl (k2 c2 c3)) (fun c4 => z_case (x3 = 2) (fun c5 => z_tabIn 124 dX3_follow_78 (by rw [c5]; decide) (by rw [c5]; decide) (by rw [c5]; rfl) (by decide) <| z_aload_n 0 dX3_follow_124 rfl rfl <| z_getr 2 32 dX3_follow_125 fRX3_26 rfl rfl <| z_geti 3 dX3_follow_128 fRX3_138 rfl rfl <| z_ret (ty := .int) dX3_follow_131 rfl rfl (k3 c2 c4 c5)) (fun c6 => z_case (x3 = 3) (fun c7 => z_tabIn 132 dX3_follow_78 (by rw [c7]; decide) (by rw [c7]; decide) (by rw [c7]; rfl) (by decide) <| z_aload_n 0 dX3_follow_132 rfl rfl <| z_getr 2 32 dX3_follow_133 fRX3_26 rfl rfl <| z_aload_n 0 dX3_follow_136 rfl rfl <| z_getr 2 32 dX3_follow_137 fRX3_26 rfl rfl <| z_geti 2 dX3_follow_140 fRX3_135 rfl rfl <| k4 c2 c4 c6 c7) (fun c8 => z_tabOut 147 dX3_follow_78 (z_sw0_3 c2 c4 c6 c8) (by decide) <| z_aload_n 0 dX3_follow_147 rfl rfl <| z_getr 2 32 dX3_follow_148 fRX3_26 rfl rfl <| z_iload_n 3 dX3_follow_151 rfl rfl <| z_bipush (v := 10) dX3_follow_152 (by decide) <| z_isub dX3_follow_154 <| k5 c2 c4 c6 c8))))
set_option maxRecDepth 20000 in
theorem sX3_follow_143 {lv : List (Option Value)} {v0 : Int32} {D : zM} {P : Option Int32 → zM → Prop} {Q : Int32 → zM → Prop} (hC : z_Ci mX1_placeAt [.ref 32, .int v0] D Q) (kk : ∀ r D1, Q r D1 → z_Ok mX3_follow 146 lv [.int r] D1 P) : z_Ok mX3_follow 143 lv [.int v0, .ref 32] D P := z_callV (n := 1) [.int v0] [] dX3_follow_143 tX1_placeAt kRX3_141 (by decide) pnX1_placeAt rfl rfl rfl rfl (Nat.le_of_ble_eq_true rfl) (by simp [Value.category]) (by simp [Value.category]) hC (fun r D1 q1 => z_intr q1 (fun r q => kk r D1 q))
set_option maxRecDepth 20000 in
theorem bX3_follow_146 {x1 x2 x3 x4 y0 : Int32} {D : zM} {P : Option Int32 → zM → Prop}  (k1 : P (some y0) D) : z_Ok mX3_follow 146 [some (.ref 0), some (.int x1), some (.int x2), some (.int x3), some (.int x4)] [.int y0] D P := z_ret (ty := .int) dX3_follow_146 rfl rfl (k1)
set_option maxRecDepth 20000 in
theorem sX3_follow_155 {lv : List (Option Value)} {v0 : Int32} {D : zM} {P : Option Int32 → zM → Prop} {Q : Int32 → zM → Prop} (hC : z_Ci mX1_placeAt [.ref 32, .int v0] D Q) (kk : ∀ r D1, Q r D1 → z_Ok mX3_follow 158 lv [.int r] D1 P) : z_Ok mX3_follow 155 lv [.int v0, .ref 32] D P := z_callV (n := 1) [.int v0] [] dX3_follow_155 tX1_placeAt kRX3_141 (by decide) pnX1_placeAt rfl rfl rfl rfl (Nat.le_of_ble_eq_true rfl) (by simp [Value.category]) (by simp [Value.category]) hC (fun r D1 q1 => z_intr q1 (fun r q => kk r D1 q))
set_option maxRecDepth 20000 in
theorem bX3_follow_158 {x1 x2 x3 x4 y0 : Int32} {D : zM} {P : Option Int32 → zM → Prop}  (k1 : P (some y0) D) : z_Ok mX3_follow 158 [some (.ref 0), some (.int x1), some (.int x2), some (.int x3), some (.int x4)] [.int y0] D P := z_ret (ty := .int) dX3_follow_158 rfl rfl (k1)
set_option maxRecDepth 20000 in
theorem bX3_ends_0 {x1 : Int32} {D : zM} {P : Option Int32 → zM → Prop}  (k1 : vp_in x1 5 → z_Ok mX3_ends 14 [some (.ref 0), some (.int x1), some (.int 0), some (.int 0)] [] D P) (k2 : ¬ vp_in x1 5 → P (some (-2)) D) : z_Ok mX3_ends 0 [some (.ref 0), some (.int x1), none, none] [] D P := z_iload_n 1 dX3_ends_0 rfl rfl <| z_callS (n := 1) [.int x1] [] dX3_ends_1 tX3_isEnding kRX3_145 (by decide) pnX3_isEnding rfl rfl (Nat.le_of_ble_eq_true rfl) (by simp [Value.category]) (by simp [Value.category]) (uX3_isEnding x1 D) (fun r D1 q1 => z_bool q1 (fun c1 => z_if_ne (x := 1) 10 dX3_ends_4 (by decide) (fun _ => z_iconst (v := 0) dX3_ends_10 (by decide) <| z_istore_n 2 dX3_ends_11 rfl rfl <| z_iconst (v := 0) dX3_ends_12 (by decide) <| z_istore_n 3 dX3_ends_13 rfl rfl <| k1 c1) (fun h => absurd h (by decide))) (fun c2 => z_if_ne (x := 0) 10 dX3_ends_4 (by decide) (fun h => absurd h (by decide)) (fun _ => z_bipush (v := (-2)) dX3_ends_7 (by decide) <| z_ret (ty := .int) dX3_ends_9 rfl rfl (k2 c2))))
set_option maxRecDepth 20000 in
theorem bX3_ends_14 {x1 x2 x3 : Int32} {D : zM} {P : Option Int32 → zM → Prop}  (h1 : ¬ (D 0 7) ≤ x3 → vp_in x3 5) (k1 : (D 0 7) ≤ x3 → P (some x2) D) (k2 : ¬ (D 0 7) ≤ x3 → z_Ok mX3_ends 32 [some (.ref 0), some (.int x1), some (.int x2), some (.int x3)] [.int x1, .ref (40 + x3.toNatClampNeg), .int x3, .ref 0, .int x2] D P) : z_Ok mX3_ends 14 [some (.ref 0), some (.int x1), some (.int x2), some (.int x3)] [] D P := z_iload_n 3 dX3_ends_14 rfl rfl <| z_aload_n 0 dX3_ends_15 rfl rfl <| z_geti 7 dX3_ends_16 fRX3_51 rfl rfl <| z_icmp_ge (x := x3) (y := D 0 7) 43 dX3_ends_19 (by decide) (fun c1 => z_iload_n 2 dX3_ends_43 rfl rfl <| z_ret (ty := .int) dX3_ends_44 rfl rfl (k1 c1)) (fun c2 => z_iload_n 2 dX3_ends_22 rfl rfl <| z_aload_n 0 dX3_ends_23 rfl rfl <| z_iload_n 3 dX3_ends_24 rfl rfl <| z_aload_n 0 dX3_ends_25 rfl rfl <| z_getr 5 39 dX3_ends_26 fRX3_39 rfl rfl <| z_iload_n 3 dX3_ends_29 rfl rfl <| z_aald dX3_ends_30 rfl (h1 c2) <| z_iload_n 1 dX3_ends_31 rfl rfl <| k2 c2)
set_option maxRecDepth 20000 in
theorem sX3_ends_32 {lv : List (Option Value)} {v0 v2 w0 : Int32} {v1 : Nat} {D : zM} {P : Option Int32 → zM → Prop} {Q : Int32 → zM → Prop} (hC : z_Ci mX3_countEndings [.ref 0, .int v0, .ref v1, .int v2] D Q) (kk : ∀ r D1, Q r D1 → z_Ok mX3_ends 35 lv [.int r, .int w0] D1 P) : z_Ok mX3_ends 32 lv [.int v2, .ref v1, .int v0, .ref 0, .int w0] D P := z_callV (n := 3) [.int v0, .ref v1, .int v2] [.int w0] dX3_ends_32 tX3_countEndings kRX3_148 (by decide) pnX3_countEndings rfl rfl rfl rfl (Nat.le_of_ble_eq_true rfl) (by simp [Value.category]) (by simp [Value.category]) hC (fun r D1 q1 => z_intr q1 (fun r q => kk r D1 q))
set_option maxRecDepth 20000 in
theorem bX3_ends_35 {x1 x2 x3 y0 y1 : Int32} {D : zM} {P : Option Int32 → zM → Prop}  (k1 : z_Ok mX3_ends 14 [some (.ref 0), some (.int x1), some (.int (y1 + y0)), some (.int (x3 + 1))] [] D P) : z_Ok mX3_ends 35 [some (.ref 0), some (.int x1), some (.int x2), some (.int x3)] [.int y0, .int y1] D P := z_iadd dX3_ends_35 <| z_istore_n 2 dX3_ends_36 rfl rfl <| z_iinc (v := x3 + 1) dX3_ends_37 rfl rfl rfl <| z_goto 14 dX3_ends_40 (by decide) <| k1
set_option maxRecDepth 20000 in
theorem bX3_those_0 {x1 x2 : Int32} {D : zM} {P : Option Int32 → zM → Prop}  (k1 : z_nm x1 (D 0 7) → vp_in x2 5 → z_Ok mX3_those 25 [some (.ref 0), some (.int x1), some (.int x2), some (.int 0), some (.int 0)] [] D P) (k2 : z_nm x1 (D 0 7) → ¬ vp_in x2 5 → P (some (-2)) D) (k3 : ¬ z_nm x1 (D 0 7) → P (some (-1)) D) : z_Ok mX3_those 0 [some (.ref 0), some (.int x1), some (.int x2), none, none] [] D P := z_aload_n 0 dX3_those_0 rfl rfl <| z_iload_n 1 dX3_those_1 rfl rfl <| z_callV (n := 1) [.int x1] [] dX3_those_2 tX3_isName kRX3_109 (by decide) pnX3_isName rfl rfl rfl rfl (Nat.le_of_ble_eq_true rfl) (by simp [Value.category]) (by simp [Value.category]) (uX3_isName x1 D) (fun r D1 q1 => z_bool q1 (fun c1 => z_if_ne (x := 1) 10 dX3_those_5 (by decide) (fun _ => z_iload_n 2 dX3_those_10 rfl rfl <| z_callS (n := 1) [.int x2] [] dX3_those_11 tX3_isEnding kRX3_145 (by decide) pnX3_isEnding rfl rfl (Nat.le_of_ble_eq_true rfl) (by simp [Value.category]) (by simp [Value.category]) (uX3_isEnding x2 D) (fun r D1 q1 => z_bool q1 (fun c2 => z_if_ne (x := 1) 20 dX3_those_14 (by decide) (fun _ => z_iconst (v := 0) dX3_those_20 (by decide) <| z_istore_n 3 dX3_those_21 rfl rfl <| z_iconst (v := 0) dX3_those_22 (by decide) <| z_istore dX3_those_23 rfl <| k1 c1 c2) (fun h => absurd h (by decide))) (fun c3 => z_if_ne (x := 0) 20 dX3_those_14 (by decide) (fun h => absurd h (by decide)) (fun _ => z_bipush (v := (-2)) dX3_those_17 (by decide) <| z_ret (ty := .int) dX3_those_19 rfl rfl (k2 c1 c3))))) (fun h => absurd h (by decide))) (fun c4 => z_if_ne (x := 0) 10 dX3_those_5 (by decide) (fun h => absurd h (by decide)) (fun _ => z_iconst (v := (-1)) dX3_those_8 (by decide) <| z_ret (ty := .int) dX3_those_9 rfl rfl (k3 c4))))
set_option maxRecDepth 20000 in
theorem bX3_those_25 {x1 x2 x3 x4 : Int32} {D : zM} {P : Option Int32 → zM → Prop}  (h1 : ¬ 10 ≤ x4 → vp_in x1 5) (k1 : 10 ≤ x4 → P (some x3) D) (k2 : ¬ 10 ≤ x4 → z_Ok mX3_those 54 [some (.ref 0), some (.int x1), some (.int x2), some (.int x3), some (.int x4)] [.ref (40 + x1.toNatClampNeg), .int (D 38 x1.toNatClampNeg), .int x4, .ref 1, .ref 32] D P) : z_Ok mX3_those 25 [some (.ref 0), some (.int x1), some (.int x2), some (.int x3), some (.int x4)] [] D P := z_iload dX3_those_25 rfl <| z_bipush (v := 10) dX3_those_27 (by decide) <| z_icmp_ge (x := x4) (y := 10) 81 dX3_those_29 (by decide) (fun c1 => z_iload_n 3 dX3_those_81 rfl rfl <| z_ret (ty := .int) dX3_those_82 rfl rfl (k1 c1)) (fun c2 => z_aload_n 0 dX3_those_32 rfl rfl <| z_getr 2 32 dX3_those_33 fRX3_26 rfl rfl <| z_aload_n 0 dX3_those_36 rfl rfl <| z_getr 0 1 dX3_those_37 fRX3_12 rfl rfl <| z_iload dX3_those_40 rfl <| z_aload_n 0 dX3_those_42 rfl rfl <| z_getr 4 38 dX3_those_43 fRX3_33 rfl rfl <| z_iload_n 1 dX3_those_46 rfl rfl <| z_iald dX3_those_47 rfl (h1 c2) <| z_aload_n 0 dX3_those_48 rfl rfl <| z_getr 5 39 dX3_those_49 fRX3_39 rfl rfl <| z_iload_n 1 dX3_those_52 rfl rfl <| z_aald dX3_those_53 rfl (h1 c2) <| k2 c2)
set_option maxRecDepth 20000 in
theorem sX3_those_54 {lv : List (Option Value)} {v1 v2 : Int32} {v0 v3 : Nat} {D : zM} {P : Option Int32 → zM → Prop} {Q : zM → Prop} (hC : z_Cv mX1_go [.ref 32, .ref v0, .int v1, .int v2, .ref v3] D Q) (kk : ∀ D1, Q D1 → z_Ok mX3_those 57 lv [] D1 P) : z_Ok mX3_those 54 lv [.ref v3, .int v2, .int v1, .ref v0, .ref 32] D P := z_callV (n := 4) [.ref v0, .int v1, .int v2, .ref v3] [] dX3_those_54 tX1_go kRX3_128 (by decide) pnX1_go rfl rfl rfl rfl (Nat.le_of_ble_eq_true rfl) (by simp [Value.category]) (by simp [Value.category]) hC (fun r D1 q1 => z_void q1 (fun q => kk D1 q))
set_option maxRecDepth 20000 in
theorem bX3_those_57 {x1 x2 x3 x4 : Int32} {D : zM} {P : Option Int32 → zM → Prop}  (k1 : ¬ (D 32 4) = x2 → z_Ok mX3_those 25 [some (.ref 0), some (.int x1), some (.int x2), some (.int x3), some (.int (x4 + 1))] [] D P) (k2 : (D 32 4) = x2 → z_Ok mX3_those 25 [some (.ref 0), some (.int x1), some (.int x2), some (.int (x3 ||| ((1 : Int32) <<< (x4 &&& 31)))), some (.int (x4 + 1))] [] D P) : z_Ok mX3_those 57 [some (.ref 0), some (.int x1), some (.int x2), some (.int x3), some (.int x4)] [] D P := z_aload_n 0 dX3_those_57 rfl rfl <| z_getr 2 32 dX3_those_58 fRX3_26 rfl rfl <| z_geti 4 dX3_those_61 fRX3_132 rfl rfl <| z_iload_n 2 dX3_those_64 rfl rfl <| z_icmp_ne (x := D 32 4) (y := x2) 75 dX3_those_65 (by decide) (fun c1 => z_iinc (v := x4 + 1) dX3_those_75 rfl rfl rfl <| z_goto 25 dX3_those_78 (by decide) <| k1 c1) (fun c2 => z_iload_n 3 dX3_those_68 rfl rfl <| z_iconst (v := 1) dX3_those_69 (by decide) <| z_iload dX3_those_70 rfl <| z_ishl dX3_those_72 <| z_ior dX3_those_73 <| z_istore_n 3 dX3_those_74 rfl rfl <| z_iinc (v := x4 + 1) dX3_those_75 rfl rfl rfl <| z_goto 25 dX3_those_78 (by decide) <| k2 c2)
set_option maxRecDepth 20000 in
theorem bX3_idle_0 {x1 : Int32} {D : zM} {P : Option Int32 → zM → Prop}  (k1 : vp_in x1 10 → z_Ok mX3_idle 13 [some (.ref 0), some (.int x1), some (.int 0), some (.int 0)] [] D P) (k2 : ¬ vp_in x1 10 → P (some (-1)) D) : z_Ok mX3_idle 0 [some (.ref 0), some (.int x1), none, none] [] D P := z_iload_n 1 dX3_idle_0 rfl rfl <| z_callS (n := 1) [.int x1] [] dX3_idle_1 tX3_isPlace kRX3_70 (by decide) pnX3_isPlace rfl rfl (Nat.le_of_ble_eq_true rfl) (by simp [Value.category]) (by simp [Value.category]) (uX3_isPlace x1 D) (fun r D1 q1 => z_bool q1 (fun c1 => z_if_ne (x := 1) 9 dX3_idle_4 (by decide) (fun _ => z_iconst (v := 0) dX3_idle_9 (by decide) <| z_istore_n 2 dX3_idle_10 rfl rfl <| z_iconst (v := 0) dX3_idle_11 (by decide) <| z_istore_n 3 dX3_idle_12 rfl rfl <| k1 c1) (fun h => absurd h (by decide))) (fun c2 => z_if_ne (x := 0) 9 dX3_idle_4 (by decide) (fun h => absurd h (by decide)) (fun _ => z_iconst (v := (-1)) dX3_idle_7 (by decide) <| z_ret (ty := .int) dX3_idle_8 rfl rfl (k2 c2))))
set_option maxRecDepth 20000 in
theorem bX3_idle_13 {x1 x2 x3 : Int32} {D : zM} {P : Option Int32 → zM → Prop}  (h1 : ¬ (D 0 7) ≤ x3 → vp_in x3 5) (h2 : ¬ (D 0 7) ≤ x3 → vp_in x1 10) (k1 : (D 0 7) ≤ x3 → P (some x2) D) (k2 : ¬ (D 0 7) ≤ x3 → (D (40 + x3.toNatClampNeg) x1.toNatClampNeg) = (-9) → z_Ok mX3_idle 13 [some (.ref 0), some (.int x1), some (.int x2), some (.int (x3 + 1))] [] D P) (k3 : ¬ (D 0 7) ≤ x3 → ¬ (D (40 + x3.toNatClampNeg) x1.toNatClampNeg) = (-9) → z_Ok mX3_idle 37 [some (.ref 0), some (.int x1), some (.int x2), some (.int x3)] [.int x3, .int x1, .ref 0] D P) : z_Ok mX3_idle 13 [some (.ref 0), some (.int x1), some (.int x2), some (.int x3)] [] D P := z_iload_n 3 dX3_idle_13 rfl rfl <| z_aload_n 0 dX3_idle_14 rfl rfl <| z_geti 7 dX3_idle_15 fRX3_51 rfl rfl <| z_icmp_ge (x := x3) (y := D 0 7) 55 dX3_idle_18 (by decide) (fun c1 => z_iload_n 2 dX3_idle_55 rfl rfl <| z_ret (ty := .int) dX3_idle_56 rfl rfl (k1 c1)) (fun c2 => z_aload_n 0 dX3_idle_21 rfl rfl <| z_getr 5 39 dX3_idle_22 fRX3_39 rfl rfl <| z_iload_n 3 dX3_idle_25 rfl rfl <| z_aald dX3_idle_26 rfl (h1 c2) <| z_iload_n 1 dX3_idle_27 rfl rfl <| z_iald dX3_idle_28 (z_r40 (h1 c2)) (h2 c2) <| z_bipush (v := (-9)) dX3_idle_29 (by decide) <| z_icmp_eq (x := D (40 + x3.toNatClampNeg) x1.toNatClampNeg) (y := (-9)) 49 dX3_idle_31 (by decide) (fun c3 => z_iinc (v := x3 + 1) dX3_idle_49 rfl rfl rfl <| z_goto 13 dX3_idle_52 (by decide) <| k2 c2 c3) (fun c4 => z_aload_n 0 dX3_idle_34 rfl rfl <| z_iload_n 1 dX3_idle_35 rfl rfl <| z_iload_n 3 dX3_idle_36 rfl rfl <| k3 c2 c4))
set_option maxRecDepth 20000 in
theorem sX3_idle_37 {lv : List (Option Value)} {v0 v1 : Int32} {D : zM} {P : Option Int32 → zM → Prop} {Q : Int32 → zM → Prop} (hC : z_Ci mX3_isIdle [.ref 0, .int v0, .int v1] D Q) (kk : ∀ r D1, Q r D1 → z_Ok mX3_idle 40 lv [.int r] D1 P) : z_Ok mX3_idle 37 lv [.int v1, .int v0, .ref 0] D P := z_callV (n := 2) [.int v0, .int v1] [] dX3_idle_37 tX3_isIdle kRX3_152 (by decide) pnX3_isIdle rfl rfl rfl rfl (Nat.le_of_ble_eq_true rfl) (by simp [Value.category]) (by simp [Value.category]) hC (fun r D1 q1 => z_intr q1 (fun r q => kk r D1 q))
set_option maxRecDepth 20000 in
theorem bX3_idle_40 {x1 x2 x3 y0 : Int32} {D : zM} {P : Option Int32 → zM → Prop}  (k1 : y0 = 0 → z_Ok mX3_idle 13 [some (.ref 0), some (.int x1), some (.int x2), some (.int (x3 + 1))] [] D P) (k2 : ¬ y0 = 0 → z_Ok mX3_idle 13 [some (.ref 0), some (.int x1), some (.int (x2 ||| ((1 : Int32) <<< (x3 &&& 31)))), some (.int (x3 + 1))] [] D P) : z_Ok mX3_idle 40 [some (.ref 0), some (.int x1), some (.int x2), some (.int x3)] [.int y0] D P := z_if_eq (x := y0) 49 dX3_idle_40 (by decide) (fun c1 => z_iinc (v := x3 + 1) dX3_idle_49 rfl rfl rfl <| z_goto 13 dX3_idle_52 (by decide) <| k1 c1) (fun c2 => z_iload_n 2 dX3_idle_43 rfl rfl <| z_iconst (v := 1) dX3_idle_44 (by decide) <| z_iload_n 3 dX3_idle_45 rfl rfl <| z_ishl dX3_idle_46 <| z_ior dX3_idle_47 <| z_istore_n 2 dX3_idle_48 rfl rfl <| z_iinc (v := x3 + 1) dX3_idle_49 rfl rfl rfl <| z_goto 13 dX3_idle_52 (by decide) <| k2 c2)
set_option maxRecDepth 20000 in
theorem bX3_mend_0 {x1 : Int32} {D : zM} {P : Option Int32 → zM → Prop}  (k1 : x1 < 0 → P (some (-2)) D) (k2 : ¬ x1 < 0 → x1 ≤ 2 → z_Ok mX3_mend 13 [some (.ref 0), some (.int x1)] [.ref 0] D P) (k3 : ¬ x1 < 0 → ¬ x1 ≤ 2 → P (some (-2)) D) : z_Ok mX3_mend 0 [some (.ref 0), some (.int x1)] [] D P := z_iload_n 1 dX3_mend_0 rfl rfl <| z_if_lt (x := x1) 9 dX3_mend_1 (by decide) (fun c1 => z_bipush (v := (-2)) dX3_mend_9 (by decide) <| z_ret (ty := .int) dX3_mend_11 rfl rfl (k1 c1)) (fun c2 => z_iload_n 1 dX3_mend_4 rfl rfl <| z_iconst (v := 2) dX3_mend_5 (by decide) <| z_icmp_le (x := x1) (y := 2) 12 dX3_mend_6 (by decide) (fun c3 => z_aload_n 0 dX3_mend_12 rfl rfl <| k2 c2 c3) (fun c4 => z_bipush (v := (-2)) dX3_mend_9 (by decide) <| z_ret (ty := .int) dX3_mend_11 rfl rfl (k3 c2 c4)))
set_option maxRecDepth 20000 in
theorem sX3_mend_13 {lv : List (Option Value)} {D : zM} {P : Option Int32 → zM → Prop} {Q : zM → Prop} (hC : z_Cv mX3_findMend [.ref 0] D Q) (kk : ∀ D1, Q D1 → z_Ok mX3_mend 16 lv [] D1 P) : z_Ok mX3_mend 13 lv [.ref 0] D P := z_callV (n := 0) [] [] dX3_mend_13 tX3_findMend kRX3_155 (by decide) pnX3_findMend rfl rfl rfl rfl (Nat.le_of_ble_eq_true rfl) (by simp [Value.category]) (by simp [Value.category]) hC (fun r D1 q1 => z_void q1 (fun q => kk D1 q))
set_option maxRecDepth 20000 in
theorem bX3_mend_16 {x1 : Int32} {D : zM} {P : Option Int32 → zM → Prop}  (k1 : z_Ok mX3_mend 17 [some (.ref 0), some (.int x1)] [.int x1] D P) : z_Ok mX3_mend 16 [some (.ref 0), some (.int x1)] [] D P := z_iload_n 1 dX3_mend_16 rfl rfl <| k1
-- X3_mend 17: lookupswitch
set_option maxRecDepth 20000 in
theorem bX3_mend_44 {x1 : Int32} {D : zM} {P : Option Int32 → zM → Prop}  (k1 : P (some (D 0 10)) D) : z_Ok mX3_mend 44 [some (.ref 0), some (.int x1)] [] D P := z_aload_n 0 dX3_mend_44 rfl rfl <| z_geti 10 dX3_mend_45 fRX3_61 rfl rfl <| z_ret (ty := .int) dX3_mend_48 rfl rfl (k1)
set_option maxRecDepth 20000 in
theorem bX3_mend_49 {x1 : Int32} {D : zM} {P : Option Int32 → zM → Prop}  (k1 : P (some (D 0 11)) D) : z_Ok mX3_mend 49 [some (.ref 0), some (.int x1)] [] D P := z_aload_n 0 dX3_mend_49 rfl rfl <| z_geti 11 dX3_mend_50 fRX3_64 rfl rfl <| z_ret (ty := .int) dX3_mend_53 rfl rfl (k1)
set_option maxRecDepth 20000 in
theorem bX3_mend_54 {x1 : Int32} {D : zM} {P : Option Int32 → zM → Prop}  (k1 : P (some (D 0 12)) D) : z_Ok mX3_mend 54 [some (.ref 0), some (.int x1)] [] D P := z_aload_n 0 dX3_mend_54 rfl rfl <| z_geti 12 dX3_mend_55 fRX3_67 rfl rfl <| z_ret (ty := .int) dX3_mend_58 rfl rfl (k1)
set_option maxRecDepth 20000 in
theorem bX3_leads_0 {x1 x2 : Int32} {D : zM} {P : Option Int32 → zM → Prop}  (h1 : z_nm x2 (D 0 7) → ¬ x1 < 0 → x1 ≤ 1023 → vp_in x2 5) (k1 : z_nm x2 (D 0 7) → x1 < 0 → P (some (-2)) D) (k2 : z_nm x2 (D 0 7) → ¬ x1 < 0 → x1 ≤ 1023 → z_Ok mX3_leads 39 [some (.ref 0), some (.int x1), some (.int x2)] [.int (D 38 x2.toNatClampNeg), .int x2, .ref 1, .ref 18] D P) (k3 : z_nm x2 (D 0 7) → ¬ x1 < 0 → ¬ x1 ≤ 1023 → P (some (-2)) D) (k4 : ¬ z_nm x2 (D 0 7) → P (some (-1)) D) : z_Ok mX3_leads 0 [some (.ref 0), some (.int x1), some (.int x2)] [] D P := z_aload_n 0 dX3_leads_0 rfl rfl <| z_iload_n 2 dX3_leads_1 rfl rfl <| z_callV (n := 1) [.int x2] [] dX3_leads_2 tX3_isName kRX3_109 (by decide) pnX3_isName rfl rfl rfl rfl (Nat.le_of_ble_eq_true rfl) (by simp [Value.category]) (by simp [Value.category]) (uX3_isName x2 D) (fun r D1 q1 => z_bool q1 (fun c1 => z_if_ne (x := 1) 10 dX3_leads_5 (by decide) (fun _ => z_iload_n 1 dX3_leads_10 rfl rfl <| z_if_lt (x := x1) 21 dX3_leads_11 (by decide) (fun c2 => z_bipush (v := (-2)) dX3_leads_21 (by decide) <| z_ret (ty := .int) dX3_leads_23 rfl rfl (k1 c1 c2)) (fun c3 => z_iload_n 1 dX3_leads_14 rfl rfl <| z_sipush (v := 1023) dX3_leads_15 (by decide) <| z_icmp_le (x := x1) (y := 1023) 24 dX3_leads_18 (by decide) (fun c4 => z_aload_n 0 dX3_leads_24 rfl rfl <| z_getr 1 18 dX3_leads_25 fRX3_19 rfl rfl <| z_aload_n 0 dX3_leads_28 rfl rfl <| z_getr 0 1 dX3_leads_29 fRX3_12 rfl rfl <| z_iload_n 2 dX3_leads_32 rfl rfl <| z_aload_n 0 dX3_leads_33 rfl rfl <| z_getr 4 38 dX3_leads_34 fRX3_33 rfl rfl <| z_iload_n 2 dX3_leads_37 rfl rfl <| z_iald dX3_leads_38 rfl (h1 c1 c3 c4) <| k2 c1 c3 c4) (fun c5 => z_bipush (v := (-2)) dX3_leads_21 (by decide) <| z_ret (ty := .int) dX3_leads_23 rfl rfl (k3 c1 c3 c5)))) (fun h => absurd h (by decide))) (fun c6 => z_if_ne (x := 0) 10 dX3_leads_5 (by decide) (fun h => absurd h (by decide)) (fun _ => z_iconst (v := (-1)) dX3_leads_8 (by decide) <| z_ret (ty := .int) dX3_leads_9 rfl rfl (k4 c6))))
set_option maxRecDepth 20000 in
theorem sX3_leads_39 {lv : List (Option Value)} {v1 v2 : Int32} {v0 : Nat} {D : zM} {P : Option Int32 → zM → Prop} {Q : zM → Prop} (hC : z_Cv mX2_draw [.ref 18, .ref v0, .int v1, .int v2] D Q) (kk : ∀ D1, Q D1 → z_Ok mX3_leads 42 lv [] D1 P) : z_Ok mX3_leads 39 lv [.int v2, .int v1, .ref v0, .ref 18] D P := z_callV (n := 3) [.ref v0, .int v1, .int v2] [] dX3_leads_39 tX2_draw kRX3_115 (by decide) pnX2_draw rfl rfl rfl rfl (Nat.le_of_ble_eq_true rfl) (by simp [Value.category]) (by simp [Value.category]) hC (fun r D1 q1 => z_void q1 (fun q => kk D1 q))
set_option maxRecDepth 20000 in
theorem bX3_leads_42 {x1 x2 : Int32} {D : zM} {P : Option Int32 → zM → Prop}  (k1 : z_Ok mX3_leads 45 [some (.ref 0), some (.int x1), some (.int x2)] [.int x2, .int x1, .ref 0] D P) : z_Ok mX3_leads 42 [some (.ref 0), some (.int x1), some (.int x2)] [] D P := z_aload_n 0 dX3_leads_42 rfl rfl <| z_iload_n 1 dX3_leads_43 rfl rfl <| z_iload_n 2 dX3_leads_44 rfl rfl <| k1
set_option maxRecDepth 20000 in
theorem sX3_leads_45 {lv : List (Option Value)} {v0 v1 : Int32} {D : zM} {P : Option Int32 → zM → Prop} {Q : Int32 → zM → Prop} (hC : z_Ci mX3_wouldLead [.ref 0, .int v0, .int v1] D Q) (kk : ∀ r D1, Q r D1 → z_Ok mX3_leads 48 lv [.int r] D1 P) : z_Ok mX3_leads 45 lv [.int v1, .int v0, .ref 0] D P := z_callV (n := 2) [.int v0, .int v1] [] dX3_leads_45 tX3_wouldLead kRX3_158 (by decide) pnX3_wouldLead rfl rfl rfl rfl (Nat.le_of_ble_eq_true rfl) (by simp [Value.category]) (by simp [Value.category]) hC (fun r D1 q1 => z_intr q1 (fun r q => kk r D1 q))
set_option maxRecDepth 20000 in
theorem bX3_leads_48 {x1 x2 y0 : Int32} {D : zM} {P : Option Int32 → zM → Prop}  (k1 : y0 = 0 → P (some 0) D) (k2 : ¬ y0 = 0 → P (some 1) D) : z_Ok mX3_leads 48 [some (.ref 0), some (.int x1), some (.int x2)] [.int y0] D P := z_if_eq (x := y0) 55 dX3_leads_48 (by decide) (fun c1 => z_iconst (v := 0) dX3_leads_55 (by decide) <| z_ret (ty := .int) dX3_leads_56 rfl rfl (k1 c1)) (fun c2 => z_iconst (v := 1) dX3_leads_51 (by decide) <| z_goto 56 dX3_leads_52 (by decide) <| z_ret (ty := .int) dX3_leads_56 rfl rfl (k2 c2))
set_option maxRecDepth 20000 in
theorem bX3_fewest_0 {x1 : Int32} {D : zM} {P : Option Int32 → zM → Prop}  (k1 : z_nm x1 (D 0 7) → z_Ok mX3_fewest 15 [some (.ref 0), some (.int x1)] [.int (x1 + 1), .int x1, .ref 0] D P) (k2 : ¬ z_nm x1 (D 0 7) → P (some (-1)) D) : z_Ok mX3_fewest 0 [some (.ref 0), some (.int x1)] [] D P := z_aload_n 0 dX3_fewest_0 rfl rfl <| z_iload_n 1 dX3_fewest_1 rfl rfl <| z_callV (n := 1) [.int x1] [] dX3_fewest_2 tX3_isName kRX3_109 (by decide) pnX3_isName rfl rfl rfl rfl (Nat.le_of_ble_eq_true rfl) (by simp [Value.category]) (by simp [Value.category]) (uX3_isName x1 D) (fun r D1 q1 => z_bool q1 (fun c1 => z_if_ne (x := 1) 10 dX3_fewest_5 (by decide) (fun _ => z_aload_n 0 dX3_fewest_10 rfl rfl <| z_iload_n 1 dX3_fewest_11 rfl rfl <| z_iload_n 1 dX3_fewest_12 rfl rfl <| z_iconst (v := 1) dX3_fewest_13 (by decide) <| z_iadd dX3_fewest_14 <| k1 c1) (fun h => absurd h (by decide))) (fun c2 => z_if_ne (x := 0) 10 dX3_fewest_5 (by decide) (fun h => absurd h (by decide)) (fun _ => z_iconst (v := (-1)) dX3_fewest_8 (by decide) <| z_ret (ty := .int) dX3_fewest_9 rfl rfl (k2 c2))))
set_option maxRecDepth 20000 in
theorem sX3_fewest_15 {lv : List (Option Value)} {v0 v1 : Int32} {D : zM} {P : Option Int32 → zM → Prop} {Q : Int32 → zM → Prop} (hC : z_Ci mX3_leastSet [.ref 0, .int v0, .int v1] D Q) (kk : ∀ r D1, Q r D1 → z_Ok mX3_fewest 18 lv [.int r] D1 P) : z_Ok mX3_fewest 15 lv [.int v1, .int v0, .ref 0] D P := z_callV (n := 2) [.int v0, .int v1] [] dX3_fewest_15 tX3_leastSet kRX3_161 (by decide) pnX3_leastSet rfl rfl rfl rfl (Nat.le_of_ble_eq_true rfl) (by simp [Value.category]) (by simp [Value.category]) hC (fun r D1 q1 => z_intr q1 (fun r q => kk r D1 q))
set_option maxRecDepth 20000 in
theorem bX3_fewest_18 {x1 y0 : Int32} {D : zM} {P : Option Int32 → zM → Prop}  (k1 : P (some y0) D) : z_Ok mX3_fewest 18 [some (.ref 0), some (.int x1)] [.int y0] D P := z_ret (ty := .int) dX3_fewest_18 rfl rfl (k1)
set_option maxRecDepth 20000 in
theorem bX3_posts_0 {D : zM} {P : Option Int32 → zM → Prop}  (k1 : z_Ok mX3_posts 6 [some (.ref 0)] [.int (D 0 7), .int 0, .ref 0] D P) : z_Ok mX3_posts 0 [some (.ref 0)] [] D P := z_aload_n 0 dX3_posts_0 rfl rfl <| z_iconst (v := 0) dX3_posts_1 (by decide) <| z_aload_n 0 dX3_posts_2 rfl rfl <| z_geti 7 dX3_posts_3 fRX3_51 rfl rfl <| k1
set_option maxRecDepth 20000 in
theorem sX3_posts_6 {lv : List (Option Value)} {v0 v1 : Int32} {D : zM} {P : Option Int32 → zM → Prop} {Q : Int32 → zM → Prop} (hC : z_Ci mX3_leastSet [.ref 0, .int v0, .int v1] D Q) (kk : ∀ r D1, Q r D1 → z_Ok mX3_posts 9 lv [.int r] D1 P) : z_Ok mX3_posts 6 lv [.int v1, .int v0, .ref 0] D P := z_callV (n := 2) [.int v0, .int v1] [] dX3_posts_6 tX3_leastSet kRX3_161 (by decide) pnX3_leastSet rfl rfl rfl rfl (Nat.le_of_ble_eq_true rfl) (by simp [Value.category]) (by simp [Value.category]) hC (fun r D1 q1 => z_intr q1 (fun r q => kk r D1 q))
set_option maxRecDepth 20000 in
theorem bX3_posts_9 {y0 : Int32} {D : zM} {P : Option Int32 → zM → Prop}  (k1 : P (some y0) D) : z_Ok mX3_posts 9 [some (.ref 0)] [.int y0] D P := z_ret (ty := .int) dX3_posts_9 rfl rfl (k1)
set_option maxRecDepth 20000 in
theorem bX3_many_0 {x1 : Int32} {D : zM} {P : Option Int32 → zM → Prop}  (k1 : x1 = 0 → P (some (D 1 6)) D) (k2 : ¬ x1 = 0 → x1 = 1 → z_Ok mX3_many 56 [some (.ref 0), some (.int x1)] [.ref 1] D P) (k3 : ¬ x1 = 0 → ¬ x1 = 1 → x1 = 2 → P (some (D 0 7)) D) (k4 : ¬ x1 = 0 → ¬ x1 = 1 → ¬ x1 = 2 → x1 = 3 → P (some (z_bc (D 0 8))) D) (k5 : ¬ x1 = 0 → ¬ x1 = 1 → ¬ x1 = 2 → ¬ x1 = 3 → x1 = 4 → z_Ok mX3_many 74 [some (.ref 0), some (.int x1)] [.ref 0] D P) (k6 : ¬ x1 = 0 → ¬ x1 = 1 → ¬ x1 = 2 → ¬ x1 = 3 → ¬ x1 = 4 → x1 = 5 → z_Ok mX3_many 79 [some (.ref 0), some (.int x1)] [.ref 0] D P) (k7 : ¬ x1 = 0 → ¬ x1 = 1 → ¬ x1 = 2 → ¬ x1 = 3 → ¬ x1 = 4 → ¬ x1 = 5 → x1 = 6 → P (some (D 0 9)) D) (k8 : ¬ x1 = 0 → ¬ x1 = 1 → ¬ x1 = 2 → ¬ x1 = 3 → ¬ x1 = 4 → ¬ x1 = 5 → ¬ x1 = 6 → P (some (-2)) D) : z_Ok mX3_many 0 [some (.ref 0), some (.int x1)] [] D P := z_iload_n 1 dX3_many_0 rfl rfl <| z_case (x1 = 0) (fun c1 => z_tabIn 44 dX3_many_1 (by rw [c1]; decide) (by rw [c1]; decide) (by rw [c1]; rfl) (by decide) <| z_aload_n 0 dX3_many_44 rfl rfl <| z_getr 0 1 dX3_many_45 fRX3_12 rfl rfl <| z_geti 6 dX3_many_48 fRX3_78 rfl rfl <| z_ret (ty := .int) dX3_many_51 rfl rfl (k1 c1)) (fun c2 => z_case (x1 = 1) (fun c3 => z_tabIn 52 dX3_many_1 (by rw [c3]; decide) (by rw [c3]; decide) (by rw [c3]; rfl) (by decide) <| z_aload_n 0 dX3_many_52 rfl rfl <| z_getr 0 1 dX3_many_53 fRX3_12 rfl rfl <| k2 c2 c3) (fun c4 => z_case (x1 = 2) (fun c5 => z_tabIn 60 dX3_many_1 (by rw [c5]; decide) (by rw [c5]; decide) (by rw [c5]; rfl) (by decide) <| z_aload_n 0 dX3_many_60 rfl rfl <| z_geti 7 dX3_many_61 fRX3_51 rfl rfl <| z_ret (ty := .int) dX3_many_64 rfl rfl (k3 c2 c4 c5)) (fun c6 => z_case (x1 = 3) (fun c7 => z_tabIn 65 dX3_many_1 (by rw [c7]; decide) (by rw [c7]; decide) (by rw [c7]; rfl) (by decide) <| z_aload_n 0 dX3_many_65 rfl rfl <| z_geti 8 dX3_many_66 fRX3_55 rfl rfl <| z_callS (n := 1) [.int (D 0 8)] [] dX3_many_69 tJ6_bitCount_0f7a4 kRX3_168 (by decide) pnJ6_bitCount_0f7a4 rfl rfl (Nat.le_of_ble_eq_true rfl) (by simp [Value.category]) (by simp [Value.category]) (uJ6_bitCount_0f7a4 (D 0 8) D) (fun r D1 q1 => z_pure q1 (z_ret (ty := .int) dX3_many_72 rfl rfl (k4 c2 c4 c6 c7)))) (fun c8 => z_case (x1 = 4) (fun c9 => z_tabIn 73 dX3_many_1 (by rw [c9]; decide) (by rw [c9]; decide) (by rw [c9]; rfl) (by decide) <| z_aload_n 0 dX3_many_73 rfl rfl <| k5 c2 c4 c6 c8 c9) (fun c10 => z_case (x1 = 5) (fun c11 => z_tabIn 78 dX3_many_1 (by rw [c11]; decide) (by rw [c11]; decide) (by rw [c11]; rfl) (by decide) <| z_aload_n 0 dX3_many_78 rfl rfl <| k6 c2 c4 c6 c8 c10 c11) (fun c12 => z_case (x1 = 6) (fun c13 => z_tabIn 86 dX3_many_1 (by rw [c13]; decide) (by rw [c13]; decide) (by rw [c13]; rfl) (by decide) <| z_aload_n 0 dX3_many_86 rfl rfl <| z_geti 9 dX3_many_87 fRX3_58 rfl rfl <| z_ret (ty := .int) dX3_many_90 rfl rfl (k7 c2 c4 c6 c8 c10 c12 c13)) (fun c14 => z_tabOut 91 dX3_many_1 (z_sw0_6 c2 c4 c6 c8 c10 c12 c14) (by decide) <| z_bipush (v := (-2)) dX3_many_91 (by decide) <| z_ret (ty := .int) dX3_many_93 rfl rfl (k8 c2 c4 c6 c8 c10 c12 c14))))))))
set_option maxRecDepth 20000 in
theorem sX3_many_56 {lv : List (Option Value)} {D : zM} {P : Option Int32 → zM → Prop} {Q : Int32 → zM → Prop} (hC : z_Ci mX0_countOpen [.ref 1] D Q) (kk : ∀ r D1, Q r D1 → z_Ok mX3_many 59 lv [.int r] D1 P) : z_Ok mX3_many 56 lv [.ref 1] D P := z_callV (n := 0) [] [] dX3_many_56 tX0_countOpen kRX3_165 (by decide) pnX0_countOpen rfl rfl rfl rfl (Nat.le_of_ble_eq_true rfl) (by simp [Value.category]) (by simp [Value.category]) hC (fun r D1 q1 => z_intr q1 (fun r q => kk r D1 q))
set_option maxRecDepth 20000 in
theorem bX3_many_59 {x1 y0 : Int32} {D : zM} {P : Option Int32 → zM → Prop}  (k1 : P (some y0) D) : z_Ok mX3_many 59 [some (.ref 0), some (.int x1)] [.int y0] D P := z_ret (ty := .int) dX3_many_59 rfl rfl (k1)
set_option maxRecDepth 20000 in
theorem sX3_many_74 {lv : List (Option Value)} {D : zM} {P : Option Int32 → zM → Prop} {Q : Int32 → zM → Prop} (hC : z_Ci mX3_countBoards [.ref 0] D Q) (kk : ∀ r D1, Q r D1 → z_Ok mX3_many 77 lv [.int r] D1 P) : z_Ok mX3_many 74 lv [.ref 0] D P := z_callV (n := 0) [] [] dX3_many_74 tX3_countBoards kRX3_173 (by decide) pnX3_countBoards rfl rfl rfl rfl (Nat.le_of_ble_eq_true rfl) (by simp [Value.category]) (by simp [Value.category]) hC (fun r D1 q1 => z_intr q1 (fun r q => kk r D1 q))
set_option maxRecDepth 20000 in
theorem bX3_many_77 {x1 y0 : Int32} {D : zM} {P : Option Int32 → zM → Prop}  (k1 : P (some y0) D) : z_Ok mX3_many 77 [some (.ref 0), some (.int x1)] [.int y0] D P := z_ret (ty := .int) dX3_many_77 rfl rfl (k1)
set_option maxRecDepth 20000 in
theorem sX3_many_79 {lv : List (Option Value)} {D : zM} {P : Option Int32 → zM → Prop} {Q : Int32 → zM → Prop} (hC : z_Ci mX3_boardedPlaces [.ref 0] D Q) (kk : ∀ r D1, Q r D1 → z_Ok mX3_many 82 lv [.int r] D1 P) : z_Ok mX3_many 79 lv [.ref 0] D P := z_callV (n := 0) [] [] dX3_many_79 tX3_boardedPlaces kRX3_176 (by decide) pnX3_boardedPlaces rfl rfl rfl rfl (Nat.le_of_ble_eq_true rfl) (by simp [Value.category]) (by simp [Value.category]) hC (fun r D1 q1 => z_intr q1 (fun r q => kk r D1 q))
set_option maxRecDepth 20000 in
theorem bX3_many_82 {x1 y0 : Int32} {D : zM} {P : Option Int32 → zM → Prop}  (k1 : P (some (z_bc y0)) D) : z_Ok mX3_many 82 [some (.ref 0), some (.int x1)] [.int y0] D P := z_callS (n := 1) [.int y0] [] dX3_many_82 tJ6_bitCount_0f7a4 kRX3_168 (by decide) pnJ6_bitCount_0f7a4 rfl rfl (Nat.le_of_ble_eq_true rfl) (by simp [Value.category]) (by simp [Value.category]) (uJ6_bitCount_0f7a4 y0 D) (fun r D1 q1 => z_pure q1 (z_ret (ty := .int) dX3_many_85 rfl rfl (k1)))
set_option maxRecDepth 20000 in
theorem bX3_countBoards_0 {D : zM} {P : Option Int32 → zM → Prop}  (k1 : z_Ok mX3_countBoards 4 [some (.ref 0), some (.int 0), some (.int 0)] [] D P) : z_Ok mX3_countBoards 0 [some (.ref 0), none, none] [] D P := z_iconst (v := 0) dX3_countBoards_0 (by decide) <| z_istore_n 1 dX3_countBoards_1 rfl rfl <| z_iconst (v := 0) dX3_countBoards_2 (by decide) <| z_istore_n 2 dX3_countBoards_3 rfl rfl <| k1
set_option maxRecDepth 20000 in
theorem bX3_countBoards_4 {x1 x2 : Int32} {D : zM} {P : Option Int32 → zM → Prop}  (k1 : (D 0 7) ≤ x2 → P (some x1) D) (k2 : ¬ (D 0 7) ≤ x2 → z_Ok mX3_countBoards 15 [some (.ref 0), some (.int x1), some (.int x2)] [.int x2, .ref 0, .int x1] D P) : z_Ok mX3_countBoards 4 [some (.ref 0), some (.int x1), some (.int x2)] [] D P := z_iload_n 2 dX3_countBoards_4 rfl rfl <| z_aload_n 0 dX3_countBoards_5 rfl rfl <| z_geti 7 dX3_countBoards_6 fRX3_51 rfl rfl <| z_icmp_ge (x := x2) (y := D 0 7) 29 dX3_countBoards_9 (by decide) (fun c1 => z_iload_n 1 dX3_countBoards_29 rfl rfl <| z_ret (ty := .int) dX3_countBoards_30 rfl rfl (k1 c1)) (fun c2 => z_iload_n 1 dX3_countBoards_12 rfl rfl <| z_aload_n 0 dX3_countBoards_13 rfl rfl <| z_iload_n 2 dX3_countBoards_14 rfl rfl <| k2 c2)
set_option maxRecDepth 20000 in
theorem sX3_countBoards_15 {lv : List (Option Value)} {v0 w0 : Int32} {D : zM} {P : Option Int32 → zM → Prop} {Q : Int32 → zM → Prop} (hC : z_Ci mX3_boardedFor [.ref 0, .int v0] D Q) (kk : ∀ r D1, Q r D1 → z_Ok mX3_countBoards 18 lv [.int r, .int w0] D1 P) : z_Ok mX3_countBoards 15 lv [.int v0, .ref 0, .int w0] D P := z_callV (n := 1) [.int v0] [.int w0] dX3_countBoards_15 tX3_boardedFor kRX3_179 (by decide) pnX3_boardedFor rfl rfl rfl rfl (Nat.le_of_ble_eq_true rfl) (by simp [Value.category]) (by simp [Value.category]) hC (fun r D1 q1 => z_intr q1 (fun r q => kk r D1 q))
set_option maxRecDepth 20000 in
theorem bX3_countBoards_18 {x1 x2 y0 y1 : Int32} {D : zM} {P : Option Int32 → zM → Prop}  (k1 : z_Ok mX3_countBoards 4 [some (.ref 0), some (.int (y1 + (z_bc y0))), some (.int (x2 + 1))] [] D P) : z_Ok mX3_countBoards 18 [some (.ref 0), some (.int x1), some (.int x2)] [.int y0, .int y1] D P := z_callS (n := 1) [.int y0] [.int y1] dX3_countBoards_18 tJ6_bitCount_0f7a4 kRX3_168 (by decide) pnJ6_bitCount_0f7a4 rfl rfl (Nat.le_of_ble_eq_true rfl) (by simp [Value.category]) (by simp [Value.category]) (uJ6_bitCount_0f7a4 y0 D) (fun r D1 q1 => z_pure q1 (z_iadd dX3_countBoards_21 <| z_istore_n 1 dX3_countBoards_22 rfl rfl <| z_iinc (v := x2 + 1) dX3_countBoards_23 rfl rfl rfl <| z_goto 4 dX3_countBoards_26 (by decide) <| k1))
set_option maxRecDepth 20000 in
theorem bX3_boardedPlaces_0 {D : zM} {P : Option Int32 → zM → Prop}  (k1 : z_Ok mX3_boardedPlaces 4 [some (.ref 0), some (.int 0), some (.int 0)] [] D P) : z_Ok mX3_boardedPlaces 0 [some (.ref 0), none, none] [] D P := z_iconst (v := 0) dX3_boardedPlaces_0 (by decide) <| z_istore_n 1 dX3_boardedPlaces_1 rfl rfl <| z_iconst (v := 0) dX3_boardedPlaces_2 (by decide) <| z_istore_n 2 dX3_boardedPlaces_3 rfl rfl <| k1
set_option maxRecDepth 20000 in
theorem bX3_boardedPlaces_4 {x1 x2 : Int32} {D : zM} {P : Option Int32 → zM → Prop}  (k1 : (D 0 7) ≤ x2 → P (some x1) D) (k2 : ¬ (D 0 7) ≤ x2 → z_Ok mX3_boardedPlaces 15 [some (.ref 0), some (.int x1), some (.int x2)] [.int x2, .ref 0, .int x1] D P) : z_Ok mX3_boardedPlaces 4 [some (.ref 0), some (.int x1), some (.int x2)] [] D P := z_iload_n 2 dX3_boardedPlaces_4 rfl rfl <| z_aload_n 0 dX3_boardedPlaces_5 rfl rfl <| z_geti 7 dX3_boardedPlaces_6 fRX3_51 rfl rfl <| z_icmp_ge (x := x2) (y := D 0 7) 26 dX3_boardedPlaces_9 (by decide) (fun c1 => z_iload_n 1 dX3_boardedPlaces_26 rfl rfl <| z_ret (ty := .int) dX3_boardedPlaces_27 rfl rfl (k1 c1)) (fun c2 => z_iload_n 1 dX3_boardedPlaces_12 rfl rfl <| z_aload_n 0 dX3_boardedPlaces_13 rfl rfl <| z_iload_n 2 dX3_boardedPlaces_14 rfl rfl <| k2 c2)
set_option maxRecDepth 20000 in
theorem sX3_boardedPlaces_15 {lv : List (Option Value)} {v0 w0 : Int32} {D : zM} {P : Option Int32 → zM → Prop} {Q : Int32 → zM → Prop} (hC : z_Ci mX3_boardedFor [.ref 0, .int v0] D Q) (kk : ∀ r D1, Q r D1 → z_Ok mX3_boardedPlaces 18 lv [.int r, .int w0] D1 P) : z_Ok mX3_boardedPlaces 15 lv [.int v0, .ref 0, .int w0] D P := z_callV (n := 1) [.int v0] [.int w0] dX3_boardedPlaces_15 tX3_boardedFor kRX3_179 (by decide) pnX3_boardedFor rfl rfl rfl rfl (Nat.le_of_ble_eq_true rfl) (by simp [Value.category]) (by simp [Value.category]) hC (fun r D1 q1 => z_intr q1 (fun r q => kk r D1 q))
set_option maxRecDepth 20000 in
theorem bX3_boardedPlaces_18 {x1 x2 y0 y1 : Int32} {D : zM} {P : Option Int32 → zM → Prop}  (k1 : z_Ok mX3_boardedPlaces 4 [some (.ref 0), some (.int (y1 ||| y0)), some (.int (x2 + 1))] [] D P) : z_Ok mX3_boardedPlaces 18 [some (.ref 0), some (.int x1), some (.int x2)] [.int y0, .int y1] D P := z_ior dX3_boardedPlaces_18 <| z_istore_n 1 dX3_boardedPlaces_19 rfl rfl <| z_iinc (v := x2 + 1) dX3_boardedPlaces_20 rfl rfl rfl <| z_goto 4 dX3_boardedPlaces_23 (by decide) <| k1
set_option maxRecDepth 20000 in
theorem bX3_boardedFor_0 {x1 : Int32} {D : zM} {P : Option Int32 → zM → Prop}  (k1 : z_Ok mX3_boardedFor 4 [some (.ref 0), some (.int x1), some (.int 0), some (.int 0)] [] D P) : z_Ok mX3_boardedFor 0 [some (.ref 0), some (.int x1), none, none] [] D P := z_iconst (v := 0) dX3_boardedFor_0 (by decide) <| z_istore_n 2 dX3_boardedFor_1 rfl rfl <| z_iconst (v := 0) dX3_boardedFor_2 (by decide) <| z_istore_n 3 dX3_boardedFor_3 rfl rfl <| k1
set_option maxRecDepth 20000 in
theorem bX3_boardedFor_4 {x1 x2 x3 : Int32} {D : zM} {P : Option Int32 → zM → Prop}  (h1 : ¬ 10 ≤ x3 → vp_in x1 5) (h2 : ¬ 10 ≤ x3 → vp_in x3 10) (k1 : 10 ≤ x3 → P (some x2) D) (k2 : ¬ 10 ≤ x3 → (D (40 + x1.toNatClampNeg) x3.toNatClampNeg) = (-9) → z_Ok mX3_boardedFor 4 [some (.ref 0), some (.int x1), some (.int x2), some (.int (x3 + 1))] [] D P) (k3 : ¬ 10 ≤ x3 → ¬ (D (40 + x1.toNatClampNeg) x3.toNatClampNeg) = (-9) → z_Ok mX3_boardedFor 4 [some (.ref 0), some (.int x1), some (.int (x2 ||| ((1 : Int32) <<< (x3 &&& 31)))), some (.int (x3 + 1))] [] D P) : z_Ok mX3_boardedFor 4 [some (.ref 0), some (.int x1), some (.int x2), some (.int x3)] [] D P := z_iload_n 3 dX3_boardedFor_4 rfl rfl <| z_bipush (v := 10) dX3_boardedFor_5 (by decide) <| z_icmp_ge (x := x3) (y := 10) 35 dX3_boardedFor_7 (by decide) (fun c1 => z_iload_n 2 dX3_boardedFor_35 rfl rfl <| z_ret (ty := .int) dX3_boardedFor_36 rfl rfl (k1 c1)) (fun c2 => z_aload_n 0 dX3_boardedFor_10 rfl rfl <| z_getr 5 39 dX3_boardedFor_11 fRX3_39 rfl rfl <| z_iload_n 1 dX3_boardedFor_14 rfl rfl <| z_aald dX3_boardedFor_15 rfl (h1 c2) <| z_iload_n 3 dX3_boardedFor_16 rfl rfl <| z_iald dX3_boardedFor_17 (z_r40 (h1 c2)) (h2 c2) <| z_bipush (v := (-9)) dX3_boardedFor_18 (by decide) <| z_icmp_eq (x := D (40 + x1.toNatClampNeg) x3.toNatClampNeg) (y := (-9)) 29 dX3_boardedFor_20 (by decide) (fun c3 => z_iinc (v := x3 + 1) dX3_boardedFor_29 rfl rfl rfl <| z_goto 4 dX3_boardedFor_32 (by decide) <| k2 c2 c3) (fun c4 => z_iload_n 2 dX3_boardedFor_23 rfl rfl <| z_iconst (v := 1) dX3_boardedFor_24 (by decide) <| z_iload_n 3 dX3_boardedFor_25 rfl rfl <| z_ishl dX3_boardedFor_26 <| z_ior dX3_boardedFor_27 <| z_istore_n 2 dX3_boardedFor_28 rfl rfl <| z_iinc (v := x3 + 1) dX3_boardedFor_29 rfl rfl rfl <| z_goto 4 dX3_boardedFor_32 (by decide) <| k3 c2 c4))
set_option maxRecDepth 20000 in
theorem bX3_countEndings_0 {x1 x3 : Int32} {D : zM} {P : Option Int32 → zM → Prop} {r : Nat} (hr : z_sh[r]? = some (.inr (.inl (0, 10)))) (k1 : z_Ok mX3_countEndings 6 [some (.ref 0), some (.int x1), some (.ref r), some (.int x3), some (.int 0), some (.int 0)] [] D P) : z_Ok mX3_countEndings 0 [some (.ref 0), some (.int x1), some (.ref r), some (.int x3), none, none] [] D P := z_iconst (v := 0) dX3_countEndings_0 (by decide) <| z_istore dX3_countEndings_1 rfl <| z_iconst (v := 0) dX3_countEndings_3 (by decide) <| z_istore dX3_countEndings_4 rfl <| k1
set_option maxRecDepth 20000 in
theorem bX3_countEndings_6 {x1 x3 x4 x5 : Int32} {D : zM} {P : Option Int32 → zM → Prop} {r : Nat} (hr : z_sh[r]? = some (.inr (.inl (0, 10)))) (h1 : ¬ 10 ≤ x5 → zb (D 0 8) x5 → vp_in x1 5) (k1 : 10 ≤ x5 → P (some x4) D) (k2 : ¬ 10 ≤ x5 → zb (D 0 8) x5 → z_Ok mX3_countEndings 42 [some (.ref 0), some (.int x1), some (.ref r), some (.int x3), some (.int x4), some (.int x5)] [.ref r, .int (D 38 x1.toNatClampNeg), .int x5, .ref 1, .ref 32] D P) (k3 : ¬ 10 ≤ x5 → ¬ zb (D 0 8) x5 → z_Ok mX3_countEndings 6 [some (.ref 0), some (.int x1), some (.ref r), some (.int x3), some (.int x4), some (.int (x5 + 1))] [] D P) : z_Ok mX3_countEndings 6 [some (.ref 0), some (.int x1), some (.ref r), some (.int x3), some (.int x4), some (.int x5)] [] D P := z_iload dX3_countEndings_6 rfl <| z_bipush (v := 10) dX3_countEndings_8 (by decide) <| z_icmp_ge (x := x5) (y := 10) 65 dX3_countEndings_10 (by decide) (fun c1 => z_iload dX3_countEndings_65 rfl <| z_ret (ty := .int) dX3_countEndings_67 rfl rfl (k1 c1)) (fun c2 => z_aload_n 0 dX3_countEndings_13 rfl rfl <| z_geti 8 dX3_countEndings_14 fRX3_55 rfl rfl <| z_iload dX3_countEndings_17 rfl <| z_callS (n := 2) [.int (D 0 8), .int x5] [] dX3_countEndings_19 tX3_holds kRX3_112 (by decide) pnX3_holds rfl rfl (Nat.le_of_ble_eq_true rfl) (by simp [Value.category]) (by simp [Value.category]) (uX3_holds (D 0 8) x5 D) (fun r D1 q1 => z_bool q1 (fun c3 => z_if_eq (x := 1) 59 dX3_countEndings_22 (by decide) (fun h => absurd h (by decide)) (fun _ => z_aload_n 0 dX3_countEndings_25 rfl rfl <| z_getr 2 32 dX3_countEndings_26 fRX3_26 rfl rfl <| z_aload_n 0 dX3_countEndings_29 rfl rfl <| z_getr 0 1 dX3_countEndings_30 fRX3_12 rfl rfl <| z_iload dX3_countEndings_33 rfl <| z_aload_n 0 dX3_countEndings_35 rfl rfl <| z_getr 4 38 dX3_countEndings_36 fRX3_33 rfl rfl <| z_iload_n 1 dX3_countEndings_39 rfl rfl <| z_iald dX3_countEndings_40 rfl (h1 c2 c3) <| z_aload_n 2 dX3_countEndings_41 rfl rfl <| k2 c2 c3)) (fun c4 => z_if_eq (x := 0) 59 dX3_countEndings_22 (by decide) (fun _ => z_iinc (v := x5 + 1) dX3_countEndings_59 rfl rfl rfl <| z_goto 6 dX3_countEndings_62 (by decide) <| k3 c2 c4) (fun h => absurd h (by decide)))))
set_option maxRecDepth 20000 in
theorem sX3_countEndings_42 {lv : List (Option Value)} {v1 v2 : Int32} {v0 v3 : Nat} {D : zM} {P : Option Int32 → zM → Prop} {Q : zM → Prop} (hC : z_Cv mX1_go [.ref 32, .ref v0, .int v1, .int v2, .ref v3] D Q) (kk : ∀ D1, Q D1 → z_Ok mX3_countEndings 45 lv [] D1 P) : z_Ok mX3_countEndings 42 lv [.ref v3, .int v2, .int v1, .ref v0, .ref 32] D P := z_callV (n := 4) [.ref v0, .int v1, .int v2, .ref v3] [] dX3_countEndings_42 tX1_go kRX3_128 (by decide) pnX1_go rfl rfl rfl rfl (Nat.le_of_ble_eq_true rfl) (by simp [Value.category]) (by simp [Value.category]) hC (fun r D1 q1 => z_void q1 (fun q => kk D1 q))
set_option maxRecDepth 20000 in
theorem bX3_countEndings_45 {x1 x3 x4 x5 : Int32} {D : zM} {P : Option Int32 → zM → Prop} {r : Nat} (hr : z_sh[r]? = some (.inr (.inl (0, 10)))) (k1 : ¬ (D 32 4) = x3 → z_Ok mX3_countEndings 6 [some (.ref 0), some (.int x1), some (.ref r), some (.int x3), some (.int x4), some (.int (x5 + 1))] [] D P) (k2 : (D 32 4) = x3 → z_Ok mX3_countEndings 6 [some (.ref 0), some (.int x1), some (.ref r), some (.int x3), some (.int (x4 + 1)), some (.int (x5 + 1))] [] D P) : z_Ok mX3_countEndings 45 [some (.ref 0), some (.int x1), some (.ref r), some (.int x3), some (.int x4), some (.int x5)] [] D P := z_aload_n 0 dX3_countEndings_45 rfl rfl <| z_getr 2 32 dX3_countEndings_46 fRX3_26 rfl rfl <| z_geti 4 dX3_countEndings_49 fRX3_132 rfl rfl <| z_iload_n 3 dX3_countEndings_52 rfl rfl <| z_icmp_ne (x := D 32 4) (y := x3) 59 dX3_countEndings_53 (by decide) (fun c1 => z_iinc (v := x5 + 1) dX3_countEndings_59 rfl rfl rfl <| z_goto 6 dX3_countEndings_62 (by decide) <| k1 c1) (fun c2 => z_iinc (v := x4 + 1) dX3_countEndings_56 rfl rfl rfl <| z_iinc (v := x5 + 1) dX3_countEndings_59 rfl rfl rfl <| z_goto 6 dX3_countEndings_62 (by decide) <| k2 c2)
set_option maxRecDepth 20000 in
theorem bX3_isIdle_0 {x1 x2 : Int32} {D : zM} {P : Option Int32 → zM → Prop}  (h1 : vp_in x2 5) (k1 : z_Ok mX3_isIdle 14 [some (.ref 0), some (.int x1), some (.int x2), none] [.int 10, .int 0, .ref 45, .int 0, .ref (40 + x2.toNatClampNeg)] D P) : z_Ok mX3_isIdle 0 [some (.ref 0), some (.int x1), some (.int x2), none] [] D P := z_aload_n 0 dX3_isIdle_0 rfl rfl <| z_getr 5 39 dX3_isIdle_1 fRX3_39 rfl rfl <| z_iload_n 2 dX3_isIdle_4 rfl rfl <| z_aald dX3_isIdle_5 rfl h1 <| z_iconst (v := 0) dX3_isIdle_6 (by decide) <| z_aload_n 0 dX3_isIdle_7 rfl rfl <| z_getr 6 45 dX3_isIdle_8 fRX3_48 rfl rfl <| z_iconst (v := 0) dX3_isIdle_11 (by decide) <| z_bipush (v := 10) dX3_isIdle_12 (by decide) <| k1
-- X3_isIdle 14: arraycopy
set_option maxRecDepth 20000 in
theorem bX3_isIdle_17 {x1 x2 : Int32} {D : zM} {P : Option Int32 → zM → Prop}  (h1 : vp_in x1 10) (k1 : z_Ok mX3_isIdle 27 [some (.ref 0), some (.int x1), some (.int x2), some (.int 0)] [] (z_up D 45 x1.toNatClampNeg (-9)) P) : z_Ok mX3_isIdle 17 [some (.ref 0), some (.int x1), some (.int x2), none] [] D P := z_aload_n 0 dX3_isIdle_17 rfl rfl <| z_getr 6 45 dX3_isIdle_18 fRX3_48 rfl rfl <| z_iload_n 1 dX3_isIdle_21 rfl rfl <| z_bipush (v := (-9)) dX3_isIdle_22 (by decide) <| z_iast dX3_isIdle_24 rfl h1 <| z_iconst (v := 0) dX3_isIdle_25 (by decide) <| z_istore_n 3 dX3_isIdle_26 rfl rfl <| k1
set_option maxRecDepth 20000 in
theorem bX3_isIdle_27 {x1 x2 x3 : Int32} {D : zM} {P : Option Int32 → zM → Prop}  (h1 : ¬ 10 ≤ x3 → zb (D 0 8) x3 → vp_in x2 5) (k1 : 10 ≤ x3 → P (some 1) D) (k2 : ¬ 10 ≤ x3 → zb (D 0 8) x3 → z_Ok mX3_isIdle 65 [some (.ref 0), some (.int x1), some (.int x2), some (.int x3)] [.ref (40 + x2.toNatClampNeg), .int (D 38 x2.toNatClampNeg), .int x3, .ref 1, .ref 32] D P) (k3 : ¬ 10 ≤ x3 → ¬ zb (D 0 8) x3 → z_Ok mX3_isIdle 27 [some (.ref 0), some (.int x1), some (.int x2), some (.int (x3 + 1))] [] D P) : z_Ok mX3_isIdle 27 [some (.ref 0), some (.int x1), some (.int x2), some (.int x3)] [] D P := z_iload_n 3 dX3_isIdle_27 rfl rfl <| z_bipush (v := 10) dX3_isIdle_28 (by decide) <| z_icmp_ge (x := x3) (y := 10) 112 dX3_isIdle_30 (by decide) (fun c1 => z_iconst (v := 1) dX3_isIdle_112 (by decide) <| z_ret (ty := .boolean) dX3_isIdle_113 rfl rfl (k1 c1)) (fun c2 => z_aload_n 0 dX3_isIdle_33 rfl rfl <| z_geti 8 dX3_isIdle_34 fRX3_55 rfl rfl <| z_iload_n 3 dX3_isIdle_37 rfl rfl <| z_callS (n := 2) [.int (D 0 8), .int x3] [] dX3_isIdle_38 tX3_holds kRX3_112 (by decide) pnX3_holds rfl rfl (Nat.le_of_ble_eq_true rfl) (by simp [Value.category]) (by simp [Value.category]) (uX3_holds (D 0 8) x3 D) (fun r D1 q1 => z_bool q1 (fun c3 => z_if_eq (x := 1) 106 dX3_isIdle_41 (by decide) (fun h => absurd h (by decide)) (fun _ => z_aload_n 0 dX3_isIdle_44 rfl rfl <| z_getr 2 32 dX3_isIdle_45 fRX3_26 rfl rfl <| z_aload_n 0 dX3_isIdle_48 rfl rfl <| z_getr 0 1 dX3_isIdle_49 fRX3_12 rfl rfl <| z_iload_n 3 dX3_isIdle_52 rfl rfl <| z_aload_n 0 dX3_isIdle_53 rfl rfl <| z_getr 4 38 dX3_isIdle_54 fRX3_33 rfl rfl <| z_iload_n 2 dX3_isIdle_57 rfl rfl <| z_iald dX3_isIdle_58 rfl (h1 c2 c3) <| z_aload_n 0 dX3_isIdle_59 rfl rfl <| z_getr 5 39 dX3_isIdle_60 fRX3_39 rfl rfl <| z_iload_n 2 dX3_isIdle_63 rfl rfl <| z_aald dX3_isIdle_64 rfl (h1 c2 c3) <| k2 c2 c3)) (fun c4 => z_if_eq (x := 0) 106 dX3_isIdle_41 (by decide) (fun _ => z_iinc (v := x3 + 1) dX3_isIdle_106 rfl rfl rfl <| z_goto 27 dX3_isIdle_109 (by decide) <| k3 c2 c4) (fun h => absurd h (by decide)))))
set_option maxRecDepth 20000 in
theorem sX3_isIdle_65 {lv : List (Option Value)} {v1 v2 : Int32} {v0 v3 : Nat} {D : zM} {P : Option Int32 → zM → Prop} {Q : zM → Prop} (hC : z_Cv mX1_go [.ref 32, .ref v0, .int v1, .int v2, .ref v3] D Q) (kk : ∀ D1, Q D1 → z_Ok mX3_isIdle 68 lv [] D1 P) : z_Ok mX3_isIdle 65 lv [.ref v3, .int v2, .int v1, .ref v0, .ref 32] D P := z_callV (n := 4) [.ref v0, .int v1, .int v2, .ref v3] [] dX3_isIdle_65 tX1_go kRX3_128 (by decide) pnX1_go rfl rfl rfl rfl (Nat.le_of_ble_eq_true rfl) (by simp [Value.category]) (by simp [Value.category]) hC (fun r D1 q1 => z_void q1 (fun q => kk D1 q))
set_option maxRecDepth 20000 in
theorem bX3_isIdle_68 {x1 x2 x3 : Int32} {D : zM} {P : Option Int32 → zM → Prop}  (h1 : vp_in x2 5) (k1 : z_Ok mX3_isIdle 87 [some (.ref 0), some (.int x1), some (.int x2), some (.int x3)] [.ref 45, .int (D 38 x2.toNatClampNeg), .int x3, .ref 1, .ref 35] D P) : z_Ok mX3_isIdle 68 [some (.ref 0), some (.int x1), some (.int x2), some (.int x3)] [] D P := z_aload_n 0 dX3_isIdle_68 rfl rfl <| z_getr 3 35 dX3_isIdle_69 fRX3_30 rfl rfl <| z_aload_n 0 dX3_isIdle_72 rfl rfl <| z_getr 0 1 dX3_isIdle_73 fRX3_12 rfl rfl <| z_iload_n 3 dX3_isIdle_76 rfl rfl <| z_aload_n 0 dX3_isIdle_77 rfl rfl <| z_getr 4 38 dX3_isIdle_78 fRX3_33 rfl rfl <| z_iload_n 2 dX3_isIdle_81 rfl rfl <| z_iald dX3_isIdle_82 rfl h1 <| z_aload_n 0 dX3_isIdle_83 rfl rfl <| z_getr 6 45 dX3_isIdle_84 fRX3_48 rfl rfl <| k1
set_option maxRecDepth 20000 in
theorem sX3_isIdle_87 {lv : List (Option Value)} {v1 v2 : Int32} {v0 v3 : Nat} {D : zM} {P : Option Int32 → zM → Prop} {Q : zM → Prop} (hC : z_Cv mX1_go [.ref 35, .ref v0, .int v1, .int v2, .ref v3] D Q) (kk : ∀ D1, Q D1 → z_Ok mX3_isIdle 90 lv [] D1 P) : z_Ok mX3_isIdle 87 lv [.ref v3, .int v2, .int v1, .ref v0, .ref 35] D P := z_callV (n := 4) [.ref v0, .int v1, .int v2, .ref v3] [] dX3_isIdle_87 tX1_go kRX3_128 (by decide) pnX1_go rfl rfl rfl rfl (Nat.le_of_ble_eq_true rfl) (by simp [Value.category]) (by simp [Value.category]) hC (fun r D1 q1 => z_void q1 (fun q => kk D1 q))
set_option maxRecDepth 20000 in
theorem bX3_isIdle_90 {x1 x2 x3 : Int32} {D : zM} {P : Option Int32 → zM → Prop}  (k1 : z_Ok mX3_isIdle 98 [some (.ref 0), some (.int x1), some (.int x2), some (.int x3)] [.ref 35, .ref 32] D P) : z_Ok mX3_isIdle 90 [some (.ref 0), some (.int x1), some (.int x2), some (.int x3)] [] D P := z_aload_n 0 dX3_isIdle_90 rfl rfl <| z_getr 2 32 dX3_isIdle_91 fRX3_26 rfl rfl <| z_aload_n 0 dX3_isIdle_94 rfl rfl <| z_getr 3 35 dX3_isIdle_95 fRX3_30 rfl rfl <| k1
set_option maxRecDepth 20000 in
theorem sX3_isIdle_98 {lv : List (Option Value)} {v0 : Nat} {D : zM} {P : Option Int32 → zM → Prop} {Q : Int32 → zM → Prop} (hC : z_Ci mX1_wentLike [.ref 32, .ref v0] D Q) (kk : ∀ r D1, Q r D1 → z_Ok mX3_isIdle 101 lv [.int r] D1 P) : z_Ok mX3_isIdle 98 lv [.ref v0, .ref 32] D P := z_callV (n := 1) [.ref v0] [] dX3_isIdle_98 tX1_wentLike kRX3_188 (by decide) pnX1_wentLike rfl rfl rfl rfl (Nat.le_of_ble_eq_true rfl) (by simp [Value.category]) (by simp [Value.category]) hC (fun r D1 q1 => z_intr q1 (fun r q => kk r D1 q))
set_option maxRecDepth 20000 in
theorem bX3_isIdle_101 {x1 x2 x3 y0 : Int32} {D : zM} {P : Option Int32 → zM → Prop}  (k1 : ¬ y0 = 0 → z_Ok mX3_isIdle 27 [some (.ref 0), some (.int x1), some (.int x2), some (.int (x3 + 1))] [] D P) (k2 : y0 = 0 → P (some 0) D) : z_Ok mX3_isIdle 101 [some (.ref 0), some (.int x1), some (.int x2), some (.int x3)] [.int y0] D P := z_if_ne (x := y0) 106 dX3_isIdle_101 (by decide) (fun c1 => z_iinc (v := x3 + 1) dX3_isIdle_106 rfl rfl rfl <| z_goto 27 dX3_isIdle_109 (by decide) <| k1 c1) (fun c2 => z_iconst (v := 0) dX3_isIdle_104 (by decide) <| z_ret (ty := .boolean) dX3_isIdle_105 rfl rfl (k2 c2))
set_option maxRecDepth 20000 in
theorem bX3_findMend_0 {D : zM} {P : Option Int32 → zM → Prop}  (k1 : z_Ok mX3_findMend 2 [some (.ref 0), none, none, none, none, none] [.int 0, .ref 0] D P) : z_Ok mX3_findMend 0 [some (.ref 0), none, none, none, none, none] [] D P := z_aload_n 0 dX3_findMend_0 rfl rfl <| z_iconst (v := 0) dX3_findMend_1 (by decide) <| k1
set_option maxRecDepth 20000 in
theorem sX3_findMend_2 {lv : List (Option Value)} {v0 : Int32} {D : zM} {P : Option Int32 → zM → Prop} {Q : Int32 → zM → Prop} (hC : z_Ci mX3_ends [.ref 0, .int v0] D Q) (kk : ∀ r D1, Q r D1 → z_Ok mX3_findMend 5 lv [.int r] D1 P) : z_Ok mX3_findMend 2 lv [.int v0, .ref 0] D P := z_callV (n := 1) [.int v0] [] dX3_findMend_2 tX3_ends kRX3_192 (by decide) pnX3_ends rfl rfl rfl rfl (Nat.le_of_ble_eq_true rfl) (by simp [Value.category]) (by simp [Value.category]) hC (fun r D1 q1 => z_intr q1 (fun r q => kk r D1 q))
set_option maxRecDepth 20000 in
theorem bX3_findMend_5 {y0 : Int32} {D : zM} {P : Option Int32 → zM → Prop}  (k1 : z_Ok mX3_findMend 26 [some (.ref 0), some (.int y0), some (.int 0), none, none, none] [] (z_up (z_up (z_up D 0 10 (-9)) 0 11 (-9)) 0 12 (-9)) P) : z_Ok mX3_findMend 5 [some (.ref 0), none, none, none, none, none] [.int y0] D P := z_istore_n 1 dX3_findMend_5 rfl rfl <| z_aload_n 0 dX3_findMend_6 rfl rfl <| z_bipush (v := (-9)) dX3_findMend_7 (by decide) <| z_put 10 dX3_findMend_9 pRX3_61 rfl rfl <| z_aload_n 0 dX3_findMend_12 rfl rfl <| z_bipush (v := (-9)) dX3_findMend_13 (by decide) <| z_put 11 dX3_findMend_15 pRX3_64 rfl rfl <| z_aload_n 0 dX3_findMend_18 rfl rfl <| z_bipush (v := (-9)) dX3_findMend_19 (by decide) <| z_put 12 dX3_findMend_21 pRX3_67 rfl rfl <| z_iconst (v := 0) dX3_findMend_24 (by decide) <| z_istore_n 2 dX3_findMend_25 rfl rfl <| k1
set_option maxRecDepth 20000 in
theorem bX3_findMend_26 {x1 x2 : Int32} {o3 o4 o5 : Option Value} {D : zM} {P : Option Int32 → zM → Prop}  (h1 : ¬ (D 0 7) ≤ x2 → vp_in x2 5) (k1 : (D 0 7) ≤ x2 → P none D) (k2 : ¬ (D 0 7) ≤ x2 → z_Ok mX3_findMend 49 [some (.ref 0), some (.int x1), some (.int x2), o3, o4, o5] [.int (D 38 x2.toNatClampNeg), .int x2, .ref 1, .ref 18] D P) : z_Ok mX3_findMend 26 [some (.ref 0), some (.int x1), some (.int x2), o3, o4, o5] [] D P := z_iload_n 2 dX3_findMend_26 rfl rfl <| z_aload_n 0 dX3_findMend_27 rfl rfl <| z_geti 7 dX3_findMend_28 fRX3_51 rfl rfl <| z_icmp_ge (x := x2) (y := D 0 7) 194 dX3_findMend_31 (by decide) (fun c1 => z_vret dX3_findMend_194 rfl (k1 c1)) (fun c2 => z_aload_n 0 dX3_findMend_34 rfl rfl <| z_getr 1 18 dX3_findMend_35 fRX3_19 rfl rfl <| z_aload_n 0 dX3_findMend_38 rfl rfl <| z_getr 0 1 dX3_findMend_39 fRX3_12 rfl rfl <| z_iload_n 2 dX3_findMend_42 rfl rfl <| z_aload_n 0 dX3_findMend_43 rfl rfl <| z_getr 4 38 dX3_findMend_44 fRX3_33 rfl rfl <| z_iload_n 2 dX3_findMend_47 rfl rfl <| z_iald dX3_findMend_48 rfl (h1 c2) <| k2 c2)
set_option maxRecDepth 20000 in
theorem sX3_findMend_49 {lv : List (Option Value)} {v1 v2 : Int32} {v0 : Nat} {D : zM} {P : Option Int32 → zM → Prop} {Q : zM → Prop} (hC : z_Cv mX2_draw [.ref 18, .ref v0, .int v1, .int v2] D Q) (kk : ∀ D1, Q D1 → z_Ok mX3_findMend 52 lv [] D1 P) : z_Ok mX3_findMend 49 lv [.int v2, .int v1, .ref v0, .ref 18] D P := z_callV (n := 3) [.ref v0, .int v1, .int v2] [] dX3_findMend_49 tX2_draw kRX3_115 (by decide) pnX2_draw rfl rfl rfl rfl (Nat.le_of_ble_eq_true rfl) (by simp [Value.category]) (by simp [Value.category]) hC (fun r D1 q1 => z_void q1 (fun q => kk D1 q))
set_option maxRecDepth 20000 in
theorem bX3_findMend_52 {x1 x2 : Int32} {o3 o4 o5 : Option Value} {D : zM} {P : Option Int32 → zM → Prop}  (h1 : vp_in x2 5) (k1 : z_Ok mX3_findMend 62 [some (.ref 0), some (.int x1), some (.int x2), o3, o4, o5] [.int 0, .ref (40 + x2.toNatClampNeg), .int x2, .ref 0, .int x1] D P) : z_Ok mX3_findMend 52 [some (.ref 0), some (.int x1), some (.int x2), o3, o4, o5] [] D P := z_iload_n 1 dX3_findMend_52 rfl rfl <| z_aload_n 0 dX3_findMend_53 rfl rfl <| z_iload_n 2 dX3_findMend_54 rfl rfl <| z_aload_n 0 dX3_findMend_55 rfl rfl <| z_getr 5 39 dX3_findMend_56 fRX3_39 rfl rfl <| z_iload_n 2 dX3_findMend_59 rfl rfl <| z_aald dX3_findMend_60 rfl h1 <| z_iconst (v := 0) dX3_findMend_61 (by decide) <| k1
set_option maxRecDepth 20000 in
theorem sX3_findMend_62 {lv : List (Option Value)} {v0 v2 w0 : Int32} {v1 : Nat} {D : zM} {P : Option Int32 → zM → Prop} {Q : Int32 → zM → Prop} (hC : z_Ci mX3_countEndings [.ref 0, .int v0, .ref v1, .int v2] D Q) (kk : ∀ r D1, Q r D1 → z_Ok mX3_findMend 65 lv [.int r, .int w0] D1 P) : z_Ok mX3_findMend 62 lv [.int v2, .ref v1, .int v0, .ref 0, .int w0] D P := z_callV (n := 3) [.int v0, .ref v1, .int v2] [.int w0] dX3_findMend_62 tX3_countEndings kRX3_148 (by decide) pnX3_countEndings rfl rfl rfl rfl (Nat.le_of_ble_eq_true rfl) (by simp [Value.category]) (by simp [Value.category]) hC (fun r D1 q1 => z_intr q1 (fun r q => kk r D1 q))
set_option maxRecDepth 20000 in
theorem bX3_findMend_65 {x1 x2 y0 y1 : Int32} {o3 o4 o5 : Option Value} {D : zM} {P : Option Int32 → zM → Prop}  (h1 : vp_in x2 5) (k1 : z_Ok mX3_findMend 81 [some (.ref 0), some (.int x1), some (.int x2), some (.int (y1 - y0)), o4, o5] [.int 10, .int 0, .ref 45, .int 0, .ref (40 + x2.toNatClampNeg)] D P) : z_Ok mX3_findMend 65 [some (.ref 0), some (.int x1), some (.int x2), o3, o4, o5] [.int y0, .int y1] D P := z_isub dX3_findMend_65 <| z_istore_n 3 dX3_findMend_66 rfl rfl <| z_aload_n 0 dX3_findMend_67 rfl rfl <| z_getr 5 39 dX3_findMend_68 fRX3_39 rfl rfl <| z_iload_n 2 dX3_findMend_71 rfl rfl <| z_aald dX3_findMend_72 rfl h1 <| z_iconst (v := 0) dX3_findMend_73 (by decide) <| z_aload_n 0 dX3_findMend_74 rfl rfl <| z_getr 6 45 dX3_findMend_75 fRX3_48 rfl rfl <| z_iconst (v := 0) dX3_findMend_78 (by decide) <| z_bipush (v := 10) dX3_findMend_79 (by decide) <| k1
-- X3_findMend 81: arraycopy
set_option maxRecDepth 20000 in
theorem bX3_findMend_84 {x1 x2 x3 : Int32} {o4 o5 : Option Value} {D : zM} {P : Option Int32 → zM → Prop}  (k1 : z_Ok mX3_findMend 87 [some (.ref 0), some (.int x1), some (.int x2), some (.int x3), some (.int 0), o5] [] D P) : z_Ok mX3_findMend 84 [some (.ref 0), some (.int x1), some (.int x2), some (.int x3), o4, o5] [] D P := z_iconst (v := 0) dX3_findMend_84 (by decide) <| z_istore dX3_findMend_85 rfl <| k1
set_option maxRecDepth 20000 in
theorem bX3_findMend_87 {x1 x2 x3 x4 : Int32} {o5 : Option Value} {D : zM} {P : Option Int32 → zM → Prop}  (h1 : ¬ 10 ≤ x4 → vp_in x2 5) (h2 : ¬ 10 ≤ x4 → vp_in x4 10) (k1 : 10 ≤ x4 → z_Ok mX3_findMend 26 [some (.ref 0), some (.int x1), some (.int (x2 + 1)), some (.int x3), some (.int x4), o5] [] D P) (k2 : ¬ 10 ≤ x4 → ¬ (D (40 + x2.toNatClampNeg) x4.toNatClampNeg) = (-9) → z_Ok mX3_findMend 87 [some (.ref 0), some (.int x1), some (.int x2), some (.int x3), some (.int (x4 + 1)), o5] [] D P) (k3 : ¬ 10 ≤ x4 → (D (40 + x2.toNatClampNeg) x4.toNatClampNeg) = (-9) → zb (D 31 x2.toNatClampNeg) x4 → z_Ok mX3_findMend 152 [some (.ref 0), some (.int x1), some (.int x2), some (.int x3), some (.int x4), o5] [.int 0, .ref 45, .int x2, .ref 0, .int x3] (z_up D 45 x4.toNatClampNeg (D (26 + x2.toNatClampNeg) x4.toNatClampNeg)) P) (k4 : ¬ 10 ≤ x4 → (D (40 + x2.toNatClampNeg) x4.toNatClampNeg) = (-9) → ¬ zb (D 31 x2.toNatClampNeg) x4 → z_Ok mX3_findMend 87 [some (.ref 0), some (.int x1), some (.int x2), some (.int x3), some (.int (x4 + 1)), o5] [] D P) : z_Ok mX3_findMend 87 [some (.ref 0), some (.int x1), some (.int x2), some (.int x3), some (.int x4), o5] [] D P := z_iload dX3_findMend_87 rfl <| z_bipush (v := 10) dX3_findMend_89 (by decide) <| z_icmp_ge (x := x4) (y := 10) 188 dX3_findMend_91 (by decide) (fun c1 => z_iinc (v := x2 + 1) dX3_findMend_188 rfl rfl rfl <| z_goto 26 dX3_findMend_191 (by decide) <| k1 c1) (fun c2 => z_aload_n 0 dX3_findMend_94 rfl rfl <| z_getr 5 39 dX3_findMend_95 fRX3_39 rfl rfl <| z_iload_n 2 dX3_findMend_98 rfl rfl <| z_aald dX3_findMend_99 rfl (h1 c2) <| z_iload dX3_findMend_100 rfl <| z_iald dX3_findMend_102 (z_r40 (h1 c2)) (h2 c2) <| z_bipush (v := (-9)) dX3_findMend_103 (by decide) <| z_icmp_ne (x := D (40 + x2.toNatClampNeg) x4.toNatClampNeg) (y := (-9)) 182 dX3_findMend_105 (by decide) (fun c3 => z_iinc (v := x4 + 1) dX3_findMend_182 rfl rfl rfl <| z_goto 87 dX3_findMend_185 (by decide) <| k2 c2 c3) (fun c4 => z_aload_n 0 dX3_findMend_108 rfl rfl <| z_getr 1 18 dX3_findMend_109 fRX3_19 rfl rfl <| z_getr 2 31 dX3_findMend_112 fRX3_195 rfl rfl <| z_iload_n 2 dX3_findMend_115 rfl rfl <| z_iald dX3_findMend_116 rfl (h1 c2) <| z_iload dX3_findMend_117 rfl <| z_callS (n := 2) [.int (D 31 x2.toNatClampNeg), .int x4] [] dX3_findMend_119 tX3_holds kRX3_112 (by decide) pnX3_holds rfl rfl (Nat.le_of_ble_eq_true rfl) (by simp [Value.category]) (by simp [Value.category]) (uX3_holds (D 31 x2.toNatClampNeg) x4 D) (fun r D1 q1 => z_bool q1 (fun c5 => z_if_eq (x := 1) 182 dX3_findMend_122 (by decide) (fun h => absurd h (by decide)) (fun _ => z_aload_n 0 dX3_findMend_125 rfl rfl <| z_getr 6 45 dX3_findMend_126 fRX3_48 rfl rfl <| z_iload dX3_findMend_129 rfl <| z_aload_n 0 dX3_findMend_131 rfl rfl <| z_getr 1 18 dX3_findMend_132 fRX3_19 rfl rfl <| z_getr 1 25 dX3_findMend_135 fRX3_122 rfl rfl <| z_iload_n 2 dX3_findMend_138 rfl rfl <| z_aald dX3_findMend_139 rfl (h1 c2) <| z_iload dX3_findMend_140 rfl <| z_iald dX3_findMend_142 (z_r26 (h1 c2)) (h2 c2) <| z_iast dX3_findMend_143 rfl (h2 c2) <| z_iload_n 3 dX3_findMend_144 rfl rfl <| z_aload_n 0 dX3_findMend_145 rfl rfl <| z_iload_n 2 dX3_findMend_146 rfl rfl <| z_aload_n 0 dX3_findMend_147 rfl rfl <| z_getr 6 45 dX3_findMend_148 fRX3_48 rfl rfl <| z_iconst (v := 0) dX3_findMend_151 (by decide) <| k3 c2 c4 c5)) (fun c6 => z_if_eq (x := 0) 182 dX3_findMend_122 (by decide) (fun _ => z_iinc (v := x4 + 1) dX3_findMend_182 rfl rfl rfl <| z_goto 87 dX3_findMend_185 (by decide) <| k4 c2 c4 c6) (fun h => absurd h (by decide))))))
set_option maxRecDepth 20000 in
theorem sX3_findMend_152 {lv : List (Option Value)} {v0 v2 w0 : Int32} {v1 : Nat} {D : zM} {P : Option Int32 → zM → Prop} {Q : Int32 → zM → Prop} (hC : z_Ci mX3_countEndings [.ref 0, .int v0, .ref v1, .int v2] D Q) (kk : ∀ r D1, Q r D1 → z_Ok mX3_findMend 155 lv [.int r, .int w0] D1 P) : z_Ok mX3_findMend 152 lv [.int v2, .ref v1, .int v0, .ref 0, .int w0] D P := z_callV (n := 3) [.int v0, .ref v1, .int v2] [.int w0] dX3_findMend_152 tX3_countEndings kRX3_148 (by decide) pnX3_countEndings rfl rfl rfl rfl (Nat.le_of_ble_eq_true rfl) (by simp [Value.category]) (by simp [Value.category]) hC (fun r D1 q1 => z_intr q1 (fun r q => kk r D1 q))
set_option maxRecDepth 20000 in
theorem bX3_findMend_155 {x1 x2 x3 x4 y0 y1 : Int32} {o5 : Option Value} {D : zM} {P : Option Int32 → zM → Prop}  (h1 : vp_in x4 10) (k1 : (y1 + y0) ≤ x1 → z_Ok mX3_findMend 87 [some (.ref 0), some (.int x1), some (.int x2), some (.int x3), some (.int (x4 + 1)), some (.int (y1 + y0))] [] (z_up D 45 x4.toNatClampNeg (-9)) P) (k2 : ¬ (y1 + y0) ≤ x1 → z_Ok mX3_findMend 179 [some (.ref 0), some (.int x1), some (.int x2), some (.int x3), some (.int x4), some (.int (y1 + y0))] [.int (y1 + y0), .int x2, .int x4, .ref 0] (z_up D 45 x4.toNatClampNeg (-9)) P) : z_Ok mX3_findMend 155 [some (.ref 0), some (.int x1), some (.int x2), some (.int x3), some (.int x4), o5] [.int y0, .int y1] D P := z_iadd dX3_findMend_155 <| z_istore dX3_findMend_156 rfl <| z_aload_n 0 dX3_findMend_158 rfl rfl <| z_getr 6 45 dX3_findMend_159 fRX3_48 rfl rfl <| z_iload dX3_findMend_162 rfl <| z_bipush (v := (-9)) dX3_findMend_164 (by decide) <| z_iast dX3_findMend_166 rfl h1 <| z_iload dX3_findMend_167 rfl <| z_iload_n 1 dX3_findMend_169 rfl rfl <| z_icmp_le (x := y1 + y0) (y := x1) 182 dX3_findMend_170 (by decide) (fun c1 => z_iinc (v := x4 + 1) dX3_findMend_182 rfl rfl rfl <| z_goto 87 dX3_findMend_185 (by decide) <| k1 c1) (fun c2 => z_aload_n 0 dX3_findMend_173 rfl rfl <| z_iload dX3_findMend_174 rfl <| z_iload_n 2 dX3_findMend_176 rfl rfl <| z_iload dX3_findMend_177 rfl <| k2 c2)
set_option maxRecDepth 20000 in
theorem sX3_findMend_179 {lv : List (Option Value)} {v0 v1 v2 : Int32} {D : zM} {P : Option Int32 → zM → Prop} {Q : zM → Prop} (hC : z_Cv mX3_offerMend [.ref 0, .int v0, .int v1, .int v2] D Q) (kk : ∀ D1, Q D1 → z_Ok mX3_findMend 182 lv [] D1 P) : z_Ok mX3_findMend 179 lv [.int v2, .int v1, .int v0, .ref 0] D P := z_callV (n := 3) [.int v0, .int v1, .int v2] [] dX3_findMend_179 tX3_offerMend kRX3_198 (by decide) pnX3_offerMend rfl rfl rfl rfl (Nat.le_of_ble_eq_true rfl) (by simp [Value.category]) (by simp [Value.category]) hC (fun r D1 q1 => z_void q1 (fun q => kk D1 q))
set_option maxRecDepth 20000 in
theorem bX3_findMend_182 {x1 x2 x3 x4 x5 : Int32} {D : zM} {P : Option Int32 → zM → Prop}  (k1 : z_Ok mX3_findMend 87 [some (.ref 0), some (.int x1), some (.int x2), some (.int x3), some (.int (x4 + 1)), some (.int x5)] [] D P) : z_Ok mX3_findMend 182 [some (.ref 0), some (.int x1), some (.int x2), some (.int x3), some (.int x4), some (.int x5)] [] D P := z_iinc (v := x4 + 1) dX3_findMend_182 rfl rfl rfl <| z_goto 87 dX3_findMend_185 (by decide) <| k1
set_option maxRecDepth 20000 in
theorem bX3_offerMend_0 {x1 x2 x3 : Int32} {D : zM} {P : Option Int32 → zM → Prop}  (k1 : (D 0 12) < x3 → P none (z_up (z_up (z_up D 0 10 x1) 0 11 x2) 0 12 x3)) (k2 : ¬ (D 0 12) < x3 → ¬ x3 = (D 0 12) → P none D) (k3 : ¬ (D 0 12) < x3 → x3 = (D 0 12) → (D 0 10) ≤ x1 → P none D) (k4 : ¬ (D 0 12) < x3 → x3 = (D 0 12) → ¬ (D 0 10) ≤ x1 → P none (z_up (z_up (z_up D 0 10 x1) 0 11 x2) 0 12 x3)) : z_Ok mX3_offerMend 0 [some (.ref 0), some (.int x1), some (.int x2), some (.int x3)] [] D P := z_iload_n 3 dX3_offerMend_0 rfl rfl <| z_aload_n 0 dX3_offerMend_1 rfl rfl <| z_geti 12 dX3_offerMend_2 fRX3_67 rfl rfl <| z_icmp_gt (x := x3) (y := D 0 12) 24 dX3_offerMend_5 (by decide) (fun c1 => z_aload_n 0 dX3_offerMend_24 rfl rfl <| z_iload_n 1 dX3_offerMend_25 rfl rfl <| z_put 10 dX3_offerMend_26 pRX3_61 rfl rfl <| z_aload_n 0 dX3_offerMend_29 rfl rfl <| z_iload_n 2 dX3_offerMend_30 rfl rfl <| z_put 11 dX3_offerMend_31 pRX3_64 rfl rfl <| z_aload_n 0 dX3_offerMend_34 rfl rfl <| z_iload_n 3 dX3_offerMend_35 rfl rfl <| z_put 12 dX3_offerMend_36 pRX3_67 rfl rfl <| z_vret dX3_offerMend_39 rfl (k1 c1)) (fun c2 => z_iload_n 3 dX3_offerMend_8 rfl rfl <| z_aload_n 0 dX3_offerMend_9 rfl rfl <| z_geti 12 dX3_offerMend_10 fRX3_67 rfl rfl <| z_icmp_ne (x := x3) (y := D 0 12) 39 dX3_offerMend_13 (by decide) (fun c3 => z_vret dX3_offerMend_39 rfl (k2 c2 c3)) (fun c4 => z_iload_n 1 dX3_offerMend_16 rfl rfl <| z_aload_n 0 dX3_offerMend_17 rfl rfl <| z_geti 10 dX3_offerMend_18 fRX3_61 rfl rfl <| z_icmp_ge (x := x1) (y := D 0 10) 39 dX3_offerMend_21 (by decide) (fun c5 => z_vret dX3_offerMend_39 rfl (k3 c2 c4 c5)) (fun c6 => z_aload_n 0 dX3_offerMend_24 rfl rfl <| z_iload_n 1 dX3_offerMend_25 rfl rfl <| z_put 10 dX3_offerMend_26 pRX3_61 rfl rfl <| z_aload_n 0 dX3_offerMend_29 rfl rfl <| z_iload_n 2 dX3_offerMend_30 rfl rfl <| z_put 11 dX3_offerMend_31 pRX3_64 rfl rfl <| z_aload_n 0 dX3_offerMend_34 rfl rfl <| z_iload_n 3 dX3_offerMend_35 rfl rfl <| z_put 12 dX3_offerMend_36 pRX3_67 rfl rfl <| z_vret dX3_offerMend_39 rfl (k4 c2 c4 c6))))
set_option maxRecDepth 20000 in
theorem bX3_wouldLead_0 {x1 x2 : Int32} {D : zM} {P : Option Int32 → zM → Prop}  (h1 : vp_in x2 5) (k1 : (x1 &&& ((D 31 x2.toNatClampNeg) ^^^ (-1))) = 0 → z_Ok mX3_wouldLead 20 [some (.ref 0), some (.int x1), some (.int x2), some (.int 0)] [] D P) (k2 : ¬ (x1 &&& ((D 31 x2.toNatClampNeg) ^^^ (-1))) = 0 → P (some 0) D) : z_Ok mX3_wouldLead 0 [some (.ref 0), some (.int x1), some (.int x2), none] [] D P := z_iload_n 1 dX3_wouldLead_0 rfl rfl <| z_aload_n 0 dX3_wouldLead_1 rfl rfl <| z_getr 1 18 dX3_wouldLead_2 fRX3_19 rfl rfl <| z_getr 2 31 dX3_wouldLead_5 fRX3_195 rfl rfl <| z_iload_n 2 dX3_wouldLead_8 rfl rfl <| z_iald dX3_wouldLead_9 rfl h1 <| z_iconst (v := (-1)) dX3_wouldLead_10 (by decide) <| z_ixor dX3_wouldLead_11 <| z_iand dX3_wouldLead_12 <| z_if_eq (x := x1 &&& ((D 31 x2.toNatClampNeg) ^^^ (-1))) 18 dX3_wouldLead_13 (by decide) (fun c1 => z_iconst (v := 0) dX3_wouldLead_18 (by decide) <| z_istore_n 3 dX3_wouldLead_19 rfl rfl <| k1 c1) (fun c2 => z_iconst (v := 0) dX3_wouldLead_16 (by decide) <| z_ret (ty := .boolean) dX3_wouldLead_17 rfl rfl (k2 c2))
set_option maxRecDepth 20000 in
theorem bX3_wouldLead_20 {x1 x2 x3 : Int32} {D : zM} {P : Option Int32 → zM → Prop}  (h1 : ¬ 10 ≤ x3 → zb x1 x3 → vp_in x2 5) (h2 : ¬ 10 ≤ x3 → zb x1 x3 → vp_in x3 10) (h3 : ¬ 10 ≤ x3 → ¬ zb x1 x3 → vp_in x3 10) (k1 : 10 ≤ x3 → z_Ok mX3_wouldLead 64 [some (.ref 0), some (.int x1), some (.int x2), some (.int 0)] [] D P) (k2 : ¬ 10 ≤ x3 → zb x1 x3 → z_Ok mX3_wouldLead 20 [some (.ref 0), some (.int x1), some (.int x2), some (.int (x3 + 1))] [] (z_up D 45 x3.toNatClampNeg (D (26 + x2.toNatClampNeg) x3.toNatClampNeg)) P) (k3 : ¬ 10 ≤ x3 → ¬ zb x1 x3 → z_Ok mX3_wouldLead 20 [some (.ref 0), some (.int x1), some (.int x2), some (.int (x3 + 1))] [] (z_up D 45 x3.toNatClampNeg (-9)) P) : z_Ok mX3_wouldLead 20 [some (.ref 0), some (.int x1), some (.int x2), some (.int x3)] [] D P := z_iload_n 3 dX3_wouldLead_20 rfl rfl <| z_bipush (v := 10) dX3_wouldLead_21 (by decide) <| z_icmp_ge (x := x3) (y := 10) 62 dX3_wouldLead_23 (by decide) (fun c1 => z_iconst (v := 0) dX3_wouldLead_62 (by decide) <| z_istore_n 3 dX3_wouldLead_63 rfl rfl <| k1 c1) (fun c2 => z_aload_n 0 dX3_wouldLead_26 rfl rfl <| z_getr 6 45 dX3_wouldLead_27 fRX3_48 rfl rfl <| z_iload_n 3 dX3_wouldLead_30 rfl rfl <| z_iload_n 1 dX3_wouldLead_31 rfl rfl <| z_iload_n 3 dX3_wouldLead_32 rfl rfl <| z_callS (n := 2) [.int x1, .int x3] [.int x3, .ref 45] dX3_wouldLead_33 tX3_holds kRX3_112 (by decide) pnX3_holds rfl rfl (Nat.le_of_ble_eq_true rfl) (by simp [Value.category]) (by simp [Value.category]) (uX3_holds x1 x3 D) (fun r D1 q1 => z_bool q1 (fun c3 => z_if_eq (x := 1) 53 dX3_wouldLead_36 (by decide) (fun h => absurd h (by decide)) (fun _ => z_aload_n 0 dX3_wouldLead_39 rfl rfl <| z_getr 1 18 dX3_wouldLead_40 fRX3_19 rfl rfl <| z_getr 1 25 dX3_wouldLead_43 fRX3_122 rfl rfl <| z_iload_n 2 dX3_wouldLead_46 rfl rfl <| z_aald dX3_wouldLead_47 rfl (h1 c2 c3) <| z_iload_n 3 dX3_wouldLead_48 rfl rfl <| z_iald dX3_wouldLead_49 (z_r26 (h1 c2 c3)) (h2 c2 c3) <| z_goto 55 dX3_wouldLead_50 (by decide) <| z_iast dX3_wouldLead_55 rfl (h2 c2 c3) <| z_iinc (v := x3 + 1) dX3_wouldLead_56 rfl rfl rfl <| z_goto 20 dX3_wouldLead_59 (by decide) <| k2 c2 c3)) (fun c4 => z_if_eq (x := 0) 53 dX3_wouldLead_36 (by decide) (fun _ => z_bipush (v := (-9)) dX3_wouldLead_53 (by decide) <| z_iast dX3_wouldLead_55 rfl (h3 c2 c4) <| z_iinc (v := x3 + 1) dX3_wouldLead_56 rfl rfl rfl <| z_goto 20 dX3_wouldLead_59 (by decide) <| k3 c2 c4) (fun h => absurd h (by decide)))))
set_option maxRecDepth 20000 in
theorem bX3_wouldLead_64 {x1 x2 x3 : Int32} {D : zM} {P : Option Int32 → zM → Prop}  (h1 : ¬ 10 ≤ x3 → zb (D 0 8) x3 → vp_in x2 5) (k1 : 10 ≤ x3 → P (some 1) D) (k2 : ¬ 10 ≤ x3 → zb (D 0 8) x3 → z_Ok mX3_wouldLead 100 [some (.ref 0), some (.int x1), some (.int x2), some (.int x3)] [.ref 45, .int (D 38 x2.toNatClampNeg), .int x3, .ref 1, .ref 32] D P) (k3 : ¬ 10 ≤ x3 → ¬ zb (D 0 8) x3 → z_Ok mX3_wouldLead 64 [some (.ref 0), some (.int x1), some (.int x2), some (.int (x3 + 1))] [] D P) : z_Ok mX3_wouldLead 64 [some (.ref 0), some (.int x1), some (.int x2), some (.int x3)] [] D P := z_iload_n 3 dX3_wouldLead_64 rfl rfl <| z_bipush (v := 10) dX3_wouldLead_65 (by decide) <| z_icmp_ge (x := x3) (y := 10) 147 dX3_wouldLead_67 (by decide) (fun c1 => z_iconst (v := 1) dX3_wouldLead_147 (by decide) <| z_ret (ty := .boolean) dX3_wouldLead_148 rfl rfl (k1 c1)) (fun c2 => z_aload_n 0 dX3_wouldLead_70 rfl rfl <| z_geti 8 dX3_wouldLead_71 fRX3_55 rfl rfl <| z_iload_n 3 dX3_wouldLead_74 rfl rfl <| z_callS (n := 2) [.int (D 0 8), .int x3] [] dX3_wouldLead_75 tX3_holds kRX3_112 (by decide) pnX3_holds rfl rfl (Nat.le_of_ble_eq_true rfl) (by simp [Value.category]) (by simp [Value.category]) (uX3_holds (D 0 8) x3 D) (fun r D1 q1 => z_bool q1 (fun c3 => z_if_eq (x := 1) 141 dX3_wouldLead_78 (by decide) (fun h => absurd h (by decide)) (fun _ => z_aload_n 0 dX3_wouldLead_81 rfl rfl <| z_getr 2 32 dX3_wouldLead_82 fRX3_26 rfl rfl <| z_aload_n 0 dX3_wouldLead_85 rfl rfl <| z_getr 0 1 dX3_wouldLead_86 fRX3_12 rfl rfl <| z_iload_n 3 dX3_wouldLead_89 rfl rfl <| z_aload_n 0 dX3_wouldLead_90 rfl rfl <| z_getr 4 38 dX3_wouldLead_91 fRX3_33 rfl rfl <| z_iload_n 2 dX3_wouldLead_94 rfl rfl <| z_iald dX3_wouldLead_95 rfl (h1 c2 c3) <| z_aload_n 0 dX3_wouldLead_96 rfl rfl <| z_getr 6 45 dX3_wouldLead_97 fRX3_48 rfl rfl <| k2 c2 c3)) (fun c4 => z_if_eq (x := 0) 141 dX3_wouldLead_78 (by decide) (fun _ => z_iinc (v := x3 + 1) dX3_wouldLead_141 rfl rfl rfl <| z_goto 64 dX3_wouldLead_144 (by decide) <| k3 c2 c4) (fun h => absurd h (by decide)))))
set_option maxRecDepth 20000 in
theorem sX3_wouldLead_100 {lv : List (Option Value)} {v1 v2 : Int32} {v0 v3 : Nat} {D : zM} {P : Option Int32 → zM → Prop} {Q : zM → Prop} (hC : z_Cv mX1_go [.ref 32, .ref v0, .int v1, .int v2, .ref v3] D Q) (kk : ∀ D1, Q D1 → z_Ok mX3_wouldLead 103 lv [] D1 P) : z_Ok mX3_wouldLead 100 lv [.ref v3, .int v2, .int v1, .ref v0, .ref 32] D P := z_callV (n := 4) [.ref v0, .int v1, .int v2, .ref v3] [] dX3_wouldLead_100 tX1_go kRX3_128 (by decide) pnX1_go rfl rfl rfl rfl (Nat.le_of_ble_eq_true rfl) (by simp [Value.category]) (by simp [Value.category]) hC (fun r D1 q1 => z_void q1 (fun q => kk D1 q))
set_option maxRecDepth 20000 in
theorem bX3_wouldLead_103 {x1 x2 x3 : Int32} {D : zM} {P : Option Int32 → zM → Prop}  (h1 : (D 32 4) = 0 → vp_in x2 5) (h2 : (D 32 4) = 0 → vp_in x3 10) (k1 : ¬ (D 32 4) = 0 → P (some 0) D) (k2 : (D 32 4) = 0 → (D 32 3) ≤ ((D (20 + x2.toNatClampNeg) x3.toNatClampNeg) + (D 0 9)) → z_Ok mX3_wouldLead 64 [some (.ref 0), some (.int x1), some (.int x2), some (.int (x3 + 1))] [] D P) (k3 : (D 32 4) = 0 → ¬ (D 32 3) ≤ ((D (20 + x2.toNatClampNeg) x3.toNatClampNeg) + (D 0 9)) → P (some 0) D) : z_Ok mX3_wouldLead 103 [some (.ref 0), some (.int x1), some (.int x2), some (.int x3)] [] D P := z_aload_n 0 dX3_wouldLead_103 rfl rfl <| z_getr 2 32 dX3_wouldLead_104 fRX3_26 rfl rfl <| z_geti 4 dX3_wouldLead_107 fRX3_132 rfl rfl <| z_if_ne (x := D 32 4) 139 dX3_wouldLead_110 (by decide) (fun c1 => z_iconst (v := 0) dX3_wouldLead_139 (by decide) <| z_ret (ty := .boolean) dX3_wouldLead_140 rfl rfl (k1 c1)) (fun c2 => z_aload_n 0 dX3_wouldLead_113 rfl rfl <| z_getr 2 32 dX3_wouldLead_114 fRX3_26 rfl rfl <| z_geti 3 dX3_wouldLead_117 fRX3_138 rfl rfl <| z_aload_n 0 dX3_wouldLead_120 rfl rfl <| z_getr 1 18 dX3_wouldLead_121 fRX3_19 rfl rfl <| z_getr 0 19 dX3_wouldLead_124 fRX3_119 rfl rfl <| z_iload_n 2 dX3_wouldLead_127 rfl rfl <| z_aald dX3_wouldLead_128 rfl (h1 c2) <| z_iload_n 3 dX3_wouldLead_129 rfl rfl <| z_iald dX3_wouldLead_130 (z_r20 (h1 c2)) (h2 c2) <| z_aload_n 0 dX3_wouldLead_131 rfl rfl <| z_geti 9 dX3_wouldLead_132 fRX3_58 rfl rfl <| z_iadd dX3_wouldLead_135 <| z_icmp_le (x := D 32 3) (y := (D (20 + x2.toNatClampNeg) x3.toNatClampNeg) + (D 0 9)) 141 dX3_wouldLead_136 (by decide) (fun c3 => z_iinc (v := x3 + 1) dX3_wouldLead_141 rfl rfl rfl <| z_goto 64 dX3_wouldLead_144 (by decide) <| k2 c2 c3) (fun c4 => z_iconst (v := 0) dX3_wouldLead_139 (by decide) <| z_ret (ty := .boolean) dX3_wouldLead_140 rfl rfl (k3 c2 c4)))
set_option maxRecDepth 20000 in
theorem bX3_leastSet_0 {x1 x2 : Int32} {D : zM} {P : Option Int32 → zM → Prop}  (k1 : z_Ok mX3_leastSet 5 [some (.ref 0), some (.int x1), some (.int x2), some (.int 0), some (.int x1)] [] D P) : z_Ok mX3_leastSet 0 [some (.ref 0), some (.int x1), some (.int x2), none, none] [] D P := z_iconst (v := 0) dX3_leastSet_0 (by decide) <| z_istore_n 3 dX3_leastSet_1 rfl rfl <| z_iload_n 1 dX3_leastSet_2 rfl rfl <| z_istore dX3_leastSet_3 rfl <| k1
set_option maxRecDepth 20000 in
theorem bX3_leastSet_5 {x1 x2 x3 x4 : Int32} {D : zM} {P : Option Int32 → zM → Prop}  (h1 : ¬ x2 ≤ x4 → vp_in x4 5) (k1 : x2 ≤ x4 → z_Ok mX3_leastSet 49 [some (.ref 0), some (.int x1), some (.int x2), some (.int x3), some (.int x1)] [] D P) (k2 : ¬ x2 ≤ x4 → z_Ok mX3_leastSet 28 [some (.ref 0), some (.int x1), some (.int x2), some (.int x3), some (.int x4)] [.int (D 38 x4.toNatClampNeg), .int x4, .ref 1, .ref 18] D P) : z_Ok mX3_leastSet 5 [some (.ref 0), some (.int x1), some (.int x2), some (.int x3), some (.int x4)] [] D P := z_iload dX3_leastSet_5 rfl <| z_iload_n 2 dX3_leastSet_7 rfl rfl <| z_icmp_ge (x := x4) (y := x2) 46 dX3_leastSet_8 (by decide) (fun c1 => z_iload_n 1 dX3_leastSet_46 rfl rfl <| z_istore dX3_leastSet_47 rfl <| k1 c1) (fun c2 => z_aload_n 0 dX3_leastSet_11 rfl rfl <| z_getr 1 18 dX3_leastSet_12 fRX3_19 rfl rfl <| z_aload_n 0 dX3_leastSet_15 rfl rfl <| z_getr 0 1 dX3_leastSet_16 fRX3_12 rfl rfl <| z_iload dX3_leastSet_19 rfl <| z_aload_n 0 dX3_leastSet_21 rfl rfl <| z_getr 4 38 dX3_leastSet_22 fRX3_33 rfl rfl <| z_iload dX3_leastSet_25 rfl <| z_iald dX3_leastSet_27 rfl (h1 c2) <| k2 c2)
set_option maxRecDepth 20000 in
theorem sX3_leastSet_28 {lv : List (Option Value)} {v1 v2 : Int32} {v0 : Nat} {D : zM} {P : Option Int32 → zM → Prop} {Q : zM → Prop} (hC : z_Cv mX2_draw [.ref 18, .ref v0, .int v1, .int v2] D Q) (kk : ∀ D1, Q D1 → z_Ok mX3_leastSet 31 lv [] D1 P) : z_Ok mX3_leastSet 28 lv [.int v2, .int v1, .ref v0, .ref 18] D P := z_callV (n := 3) [.ref v0, .int v1, .int v2] [] dX3_leastSet_28 tX2_draw kRX3_115 (by decide) pnX2_draw rfl rfl rfl rfl (Nat.le_of_ble_eq_true rfl) (by simp [Value.category]) (by simp [Value.category]) hC (fun r D1 q1 => z_void q1 (fun q => kk D1 q))
set_option maxRecDepth 20000 in
theorem bX3_leastSet_31 {x1 x2 x3 x4 : Int32} {D : zM} {P : Option Int32 → zM → Prop}  (k1 : z_Ok mX3_leastSet 35 [some (.ref 0), some (.int x1), some (.int x2), some (.int x3), some (.int x4)] [.int x4, .ref 0, .int x3] D P) : z_Ok mX3_leastSet 31 [some (.ref 0), some (.int x1), some (.int x2), some (.int x3), some (.int x4)] [] D P := z_iload_n 3 dX3_leastSet_31 rfl rfl <| z_aload_n 0 dX3_leastSet_32 rfl rfl <| z_iload dX3_leastSet_33 rfl <| k1
set_option maxRecDepth 20000 in
theorem sX3_leastSet_35 {lv : List (Option Value)} {v0 w0 : Int32} {D : zM} {P : Option Int32 → zM → Prop} {Q : Int32 → zM → Prop} (hC : z_Ci mX3_choicesOnBestWays [.ref 0, .int v0] D Q) (kk : ∀ r D1, Q r D1 → z_Ok mX3_leastSet 38 lv [.int r, .int w0] D1 P) : z_Ok mX3_leastSet 35 lv [.int v0, .ref 0, .int w0] D P := z_callV (n := 1) [.int v0] [.int w0] dX3_leastSet_35 tX3_choicesOnBestWays kRX3_202 (by decide) pnX3_choicesOnBestWays rfl rfl rfl rfl (Nat.le_of_ble_eq_true rfl) (by simp [Value.category]) (by simp [Value.category]) hC (fun r D1 q1 => z_intr q1 (fun r q => kk r D1 q))
set_option maxRecDepth 20000 in
theorem bX3_leastSet_38 {x1 x2 x3 x4 y0 y1 : Int32} {D : zM} {P : Option Int32 → zM → Prop}  (k1 : z_Ok mX3_leastSet 5 [some (.ref 0), some (.int x1), some (.int x2), some (.int (y1 ||| y0)), some (.int (x4 + 1))] [] D P) : z_Ok mX3_leastSet 38 [some (.ref 0), some (.int x1), some (.int x2), some (.int x3), some (.int x4)] [.int y0, .int y1] D P := z_ior dX3_leastSet_38 <| z_istore_n 3 dX3_leastSet_39 rfl rfl <| z_iinc (v := x4 + 1) dX3_leastSet_40 rfl rfl rfl <| z_goto 5 dX3_leastSet_43 (by decide) <| k1
set_option maxRecDepth 20000 in
theorem bX3_leastSet_49 {x1 x2 x3 x4 : Int32} {D : zM} {P : Option Int32 → zM → Prop}  (h1 : ¬ x2 ≤ x4 → vp_in x4 5) (k1 : x2 ≤ x4 → P (some x3) D) (k2 : ¬ x2 ≤ x4 → z_Ok mX3_leastSet 70 [some (.ref 0), some (.int x1), some (.int x2), some (.int x3), some (.int x4)] [.int x4, .int (x3 &&& (D 31 x4.toNatClampNeg)), .ref 0] D P) : z_Ok mX3_leastSet 49 [some (.ref 0), some (.int x1), some (.int x2), some (.int x3), some (.int x4)] [] D P := z_iload dX3_leastSet_49 rfl <| z_iload_n 2 dX3_leastSet_51 rfl rfl <| z_icmp_ge (x := x4) (y := x2) 85 dX3_leastSet_52 (by decide) (fun c1 => z_iload_n 3 dX3_leastSet_85 rfl rfl <| z_ret (ty := .int) dX3_leastSet_86 rfl rfl (k1 c1)) (fun c2 => z_aload_n 0 dX3_leastSet_55 rfl rfl <| z_iload_n 3 dX3_leastSet_56 rfl rfl <| z_aload_n 0 dX3_leastSet_57 rfl rfl <| z_getr 1 18 dX3_leastSet_58 fRX3_19 rfl rfl <| z_getr 2 31 dX3_leastSet_61 fRX3_195 rfl rfl <| z_iload dX3_leastSet_64 rfl <| z_iald dX3_leastSet_66 rfl (h1 c2) <| z_iand dX3_leastSet_67 <| z_iload dX3_leastSet_68 rfl <| k2 c2)
set_option maxRecDepth 20000 in
theorem sX3_leastSet_70 {lv : List (Option Value)} {v0 v1 : Int32} {D : zM} {P : Option Int32 → zM → Prop} {Q : Int32 → zM → Prop} (hC : z_Ci mX3_wouldLead [.ref 0, .int v0, .int v1] D Q) (kk : ∀ r D1, Q r D1 → z_Ok mX3_leastSet 73 lv [.int r] D1 P) : z_Ok mX3_leastSet 70 lv [.int v1, .int v0, .ref 0] D P := z_callV (n := 2) [.int v0, .int v1] [] dX3_leastSet_70 tX3_wouldLead kRX3_158 (by decide) pnX3_wouldLead rfl rfl rfl rfl (Nat.le_of_ble_eq_true rfl) (by simp [Value.category]) (by simp [Value.category]) hC (fun r D1 q1 => z_intr q1 (fun r q => kk r D1 q))
set_option maxRecDepth 20000 in
theorem bX3_leastSet_73 {x1 x2 x3 x4 y0 : Int32} {D : zM} {P : Option Int32 → zM → Prop}  (k1 : ¬ y0 = 0 → z_Ok mX3_leastSet 49 [some (.ref 0), some (.int x1), some (.int x2), some (.int x3), some (.int (x4 + 1))] [] D P) (k2 : y0 = 0 → P (some (-9)) D) : z_Ok mX3_leastSet 73 [some (.ref 0), some (.int x1), some (.int x2), some (.int x3), some (.int x4)] [.int y0] D P := z_if_ne (x := y0) 79 dX3_leastSet_73 (by decide) (fun c1 => z_iinc (v := x4 + 1) dX3_leastSet_79 rfl rfl rfl <| z_goto 49 dX3_leastSet_82 (by decide) <| k1 c1) (fun c2 => z_bipush (v := (-9)) dX3_leastSet_76 (by decide) <| z_ret (ty := .int) dX3_leastSet_78 rfl rfl (k2 c2))
set_option maxRecDepth 20000 in
theorem bX3_choicesOnBestWays_0 {x1 : Int32} {D : zM} {P : Option Int32 → zM → Prop}  (k1 : z_Ok mX3_choicesOnBestWays 4 [some (.ref 0), some (.int x1), some (.int 0), some (.int 0)] [] D P) : z_Ok mX3_choicesOnBestWays 0 [some (.ref 0), some (.int x1), none, none] [] D P := z_iconst (v := 0) dX3_choicesOnBestWays_0 (by decide) <| z_istore_n 2 dX3_choicesOnBestWays_1 rfl rfl <| z_iconst (v := 0) dX3_choicesOnBestWays_2 (by decide) <| z_istore_n 3 dX3_choicesOnBestWays_3 rfl rfl <| k1
set_option maxRecDepth 20000 in
theorem bX3_choicesOnBestWays_4 {x1 x2 x3 : Int32} {D : zM} {P : Option Int32 → zM → Prop}  (k1 : 10 ≤ x3 → P (some x2) D) (k2 : ¬ 10 ≤ x3 → zb (D 0 8) x3 → z_Ok mX3_choicesOnBestWays 25 [some (.ref 0), some (.int x1), some (.int x2), some (.int x3)] [.int x1, .int x3, .ref 0, .int x2] D P) (k3 : ¬ 10 ≤ x3 → ¬ zb (D 0 8) x3 → z_Ok mX3_choicesOnBestWays 4 [some (.ref 0), some (.int x1), some (.int x2), some (.int (x3 + 1))] [] D P) : z_Ok mX3_choicesOnBestWays 4 [some (.ref 0), some (.int x1), some (.int x2), some (.int x3)] [] D P := z_iload_n 3 dX3_choicesOnBestWays_4 rfl rfl <| z_bipush (v := 10) dX3_choicesOnBestWays_5 (by decide) <| z_icmp_ge (x := x3) (y := 10) 36 dX3_choicesOnBestWays_7 (by decide) (fun c1 => z_iload_n 2 dX3_choicesOnBestWays_36 rfl rfl <| z_ret (ty := .int) dX3_choicesOnBestWays_37 rfl rfl (k1 c1)) (fun c2 => z_aload_n 0 dX3_choicesOnBestWays_10 rfl rfl <| z_geti 8 dX3_choicesOnBestWays_11 fRX3_55 rfl rfl <| z_iload_n 3 dX3_choicesOnBestWays_14 rfl rfl <| z_callS (n := 2) [.int (D 0 8), .int x3] [] dX3_choicesOnBestWays_15 tX3_holds kRX3_112 (by decide) pnX3_holds rfl rfl (Nat.le_of_ble_eq_true rfl) (by simp [Value.category]) (by simp [Value.category]) (uX3_holds (D 0 8) x3 D) (fun r D1 q1 => z_bool q1 (fun c3 => z_if_eq (x := 1) 30 dX3_choicesOnBestWays_18 (by decide) (fun h => absurd h (by decide)) (fun _ => z_iload_n 2 dX3_choicesOnBestWays_21 rfl rfl <| z_aload_n 0 dX3_choicesOnBestWays_22 rfl rfl <| z_iload_n 3 dX3_choicesOnBestWays_23 rfl rfl <| z_iload_n 1 dX3_choicesOnBestWays_24 rfl rfl <| k2 c2 c3)) (fun c4 => z_if_eq (x := 0) 30 dX3_choicesOnBestWays_18 (by decide) (fun _ => z_iinc (v := x3 + 1) dX3_choicesOnBestWays_30 rfl rfl rfl <| z_goto 4 dX3_choicesOnBestWays_33 (by decide) <| k3 c2 c4) (fun h => absurd h (by decide)))))
set_option maxRecDepth 20000 in
theorem sX3_choicesOnBestWays_25 {lv : List (Option Value)} {v0 v1 w0 : Int32} {D : zM} {P : Option Int32 → zM → Prop} {Q : Int32 → zM → Prop} (hC : z_Ci mX3_choicesFrom [.ref 0, .int v0, .int v1] D Q) (kk : ∀ r D1, Q r D1 → z_Ok mX3_choicesOnBestWays 28 lv [.int r, .int w0] D1 P) : z_Ok mX3_choicesOnBestWays 25 lv [.int v1, .int v0, .ref 0, .int w0] D P := z_callV (n := 2) [.int v0, .int v1] [.int w0] dX3_choicesOnBestWays_25 tX3_choicesFrom kRX3_205 (by decide) pnX3_choicesFrom rfl rfl rfl rfl (Nat.le_of_ble_eq_true rfl) (by simp [Value.category]) (by simp [Value.category]) hC (fun r D1 q1 => z_intr q1 (fun r q => kk r D1 q))
set_option maxRecDepth 20000 in
theorem bX3_choicesOnBestWays_28 {x1 x2 x3 y0 y1 : Int32} {D : zM} {P : Option Int32 → zM → Prop}  (k1 : z_Ok mX3_choicesOnBestWays 4 [some (.ref 0), some (.int x1), some (.int (y1 ||| y0)), some (.int (x3 + 1))] [] D P) : z_Ok mX3_choicesOnBestWays 28 [some (.ref 0), some (.int x1), some (.int x2), some (.int x3)] [.int y0, .int y1] D P := z_ior dX3_choicesOnBestWays_28 <| z_istore_n 2 dX3_choicesOnBestWays_29 rfl rfl <| z_iinc (v := x3 + 1) dX3_choicesOnBestWays_30 rfl rfl rfl <| z_goto 4 dX3_choicesOnBestWays_33 (by decide) <| k1
set_option maxRecDepth 20000 in
theorem bX3_choicesFrom_0 {x1 x2 : Int32} {D : zM} {P : Option Int32 → zM → Prop}  (k1 : z_Ok mX3_choicesFrom 11 [some (.ref 0), some (.int x1), some (.int x2), some (.int 0), some (.int 0), some (.int x1), some (.int 0)] [] D P) : z_Ok mX3_choicesFrom 0 [some (.ref 0), some (.int x1), some (.int x2), none, none, none, none] [] D P := z_iconst (v := 0) dX3_choicesFrom_0 (by decide) <| z_istore_n 3 dX3_choicesFrom_1 rfl rfl <| z_iconst (v := 0) dX3_choicesFrom_2 (by decide) <| z_istore dX3_choicesFrom_3 rfl <| z_iload_n 1 dX3_choicesFrom_5 rfl rfl <| z_istore dX3_choicesFrom_6 rfl <| z_iconst (v := 0) dX3_choicesFrom_8 (by decide) <| z_istore dX3_choicesFrom_9 rfl <| k1
set_option maxRecDepth 20000 in
theorem bX3_choicesFrom_11 {x1 x2 x3 x4 x5 x6 : Int32} {D : zM} {P : Option Int32 → zM → Prop}  (h1 : ¬ 10 ≤ x6 → vp_in x2 5) (h2 : ¬ 10 ≤ x6 → vp_in x5 10) (k1 : 10 ≤ x6 → P (some x3) D) (k2 : ¬ 10 ≤ x6 → (D (26 + x2.toNatClampNeg) x5.toNatClampNeg) = (-9) → P (some x3) D) (k3 : ¬ 10 ≤ x6 → ¬ (D (26 + x2.toNatClampNeg) x5.toNatClampNeg) = (-9) → (z_bc ((D 6 x5.toNatClampNeg) &&& (x4 ^^^ (-1)))) ≤ 1 → z_Ok mX3_choicesFrom 11 [some (.ref 0), some (.int x1), some (.int x2), some (.int x3), some (.int ((1 : Int32) <<< (x5 &&& 31))), some (.int (D (26 + x2.toNatClampNeg) x5.toNatClampNeg)), some (.int (x6 + 1))] [] D P) (k4 : ¬ 10 ≤ x6 → ¬ (D (26 + x2.toNatClampNeg) x5.toNatClampNeg) = (-9) → ¬ (z_bc ((D 6 x5.toNatClampNeg) &&& (x4 ^^^ (-1)))) ≤ 1 → z_Ok mX3_choicesFrom 11 [some (.ref 0), some (.int x1), some (.int x2), some (.int (x3 ||| ((1 : Int32) <<< (x5 &&& 31)))), some (.int ((1 : Int32) <<< (x5 &&& 31))), some (.int (D (26 + x2.toNatClampNeg) x5.toNatClampNeg)), some (.int (x6 + 1))] [] D P) : z_Ok mX3_choicesFrom 11 [some (.ref 0), some (.int x1), some (.int x2), some (.int x3), some (.int x4), some (.int x5), some (.int x6)] [] D P := z_iload dX3_choicesFrom_11 rfl <| z_bipush (v := 10) dX3_choicesFrom_13 (by decide) <| z_icmp_ge (x := x6) (y := 10) 90 dX3_choicesFrom_15 (by decide) (fun c1 => z_iload_n 3 dX3_choicesFrom_90 rfl rfl <| z_ret (ty := .int) dX3_choicesFrom_91 rfl rfl (k1 c1)) (fun c2 => z_aload_n 0 dX3_choicesFrom_18 rfl rfl <| z_getr 1 18 dX3_choicesFrom_19 fRX3_19 rfl rfl <| z_getr 1 25 dX3_choicesFrom_22 fRX3_122 rfl rfl <| z_iload_n 2 dX3_choicesFrom_25 rfl rfl <| z_aald dX3_choicesFrom_26 rfl (h1 c2) <| z_iload dX3_choicesFrom_27 rfl <| z_iald dX3_choicesFrom_29 (z_r26 (h1 c2)) (h2 c2) <| z_bipush (v := (-9)) dX3_choicesFrom_30 (by decide) <| z_icmp_eq (x := D (26 + x2.toNatClampNeg) x5.toNatClampNeg) (y := (-9)) 90 dX3_choicesFrom_32 (by decide) (fun c3 => z_iload_n 3 dX3_choicesFrom_90 rfl rfl <| z_ret (ty := .int) dX3_choicesFrom_91 rfl rfl (k2 c2 c3)) (fun c4 => z_aload_n 0 dX3_choicesFrom_35 rfl rfl <| z_getr 0 1 dX3_choicesFrom_36 fRX3_12 rfl rfl <| z_getr 4 6 dX3_choicesFrom_39 fRX3_125 rfl rfl <| z_iload dX3_choicesFrom_42 rfl <| z_iald dX3_choicesFrom_44 rfl (h2 c2) <| z_iload dX3_choicesFrom_45 rfl <| z_iconst (v := (-1)) dX3_choicesFrom_47 (by decide) <| z_ixor dX3_choicesFrom_48 <| z_iand dX3_choicesFrom_49 <| z_callS (n := 1) [.int ((D 6 x5.toNatClampNeg) &&& (x4 ^^^ (-1)))] [] dX3_choicesFrom_50 tJ6_bitCount_0f7a4 kRX3_168 (by decide) pnJ6_bitCount_0f7a4 rfl rfl (Nat.le_of_ble_eq_true rfl) (by simp [Value.category]) (by simp [Value.category]) (uJ6_bitCount_0f7a4 ((D 6 x5.toNatClampNeg) &&& (x4 ^^^ (-1))) D) (fun r D1 q1 => z_pure q1 (z_iconst (v := 1) dX3_choicesFrom_53 (by decide) <| z_icmp_le (x := z_bc ((D 6 x5.toNatClampNeg) &&& (x4 ^^^ (-1)))) (y := 1) 64 dX3_choicesFrom_54 (by decide) (fun c5 => z_iconst (v := 1) dX3_choicesFrom_64 (by decide) <| z_iload dX3_choicesFrom_65 rfl <| z_ishl dX3_choicesFrom_67 <| z_istore dX3_choicesFrom_68 rfl <| z_aload_n 0 dX3_choicesFrom_70 rfl rfl <| z_getr 1 18 dX3_choicesFrom_71 fRX3_19 rfl rfl <| z_getr 1 25 dX3_choicesFrom_74 fRX3_122 rfl rfl <| z_iload_n 2 dX3_choicesFrom_77 rfl rfl <| z_aald dX3_choicesFrom_78 rfl (h1 c2) <| z_iload dX3_choicesFrom_79 rfl <| z_iald dX3_choicesFrom_81 (z_r26 (h1 c2)) (h2 c2) <| z_istore dX3_choicesFrom_82 rfl <| z_iinc (v := x6 + 1) dX3_choicesFrom_84 rfl rfl rfl <| z_goto 11 dX3_choicesFrom_87 (by decide) <| k3 c2 c4 c5) (fun c6 => z_iload_n 3 dX3_choicesFrom_57 rfl rfl <| z_iconst (v := 1) dX3_choicesFrom_58 (by decide) <| z_iload dX3_choicesFrom_59 rfl <| z_ishl dX3_choicesFrom_61 <| z_ior dX3_choicesFrom_62 <| z_istore_n 3 dX3_choicesFrom_63 rfl rfl <| z_iconst (v := 1) dX3_choicesFrom_64 (by decide) <| z_iload dX3_choicesFrom_65 rfl <| z_ishl dX3_choicesFrom_67 <| z_istore dX3_choicesFrom_68 rfl <| z_aload_n 0 dX3_choicesFrom_70 rfl rfl <| z_getr 1 18 dX3_choicesFrom_71 fRX3_19 rfl rfl <| z_getr 1 25 dX3_choicesFrom_74 fRX3_122 rfl rfl <| z_iload_n 2 dX3_choicesFrom_77 rfl rfl <| z_aald dX3_choicesFrom_78 rfl (h1 c2) <| z_iload dX3_choicesFrom_79 rfl <| z_iald dX3_choicesFrom_81 (z_r26 (h1 c2)) (h2 c2) <| z_istore dX3_choicesFrom_82 rfl <| z_iinc (v := x6 + 1) dX3_choicesFrom_84 rfl rfl rfl <| z_goto 11 dX3_choicesFrom_87 (by decide) <| k4 c2 c4 c6)))))
end
section
set_option maxRecDepth 20000 in
theorem bX4_walkBetween_0 {x1 x2 : Int32} {D : zM} {P : Option Int32 → zM → Prop}  (k1 : z_Ok mX4_walkBetween 2 [some (.ref 46), some (.int x1), some (.int x2), some (.int 0)] [] D P) : z_Ok mX4_walkBetween 0 [some (.ref 46), some (.int x1), some (.int x2), none] [] D P := z_iconst (v := 0) dX4_walkBetween_0 (by decide) <| z_istore_n 3 dX4_walkBetween_1 rfl rfl <| k1
set_option maxRecDepth 20000 in
theorem bX4_walkBetween_2 {x1 x2 x3 : Int32} {D : zM} {P : Option Int32 → zM → Prop}  (h1 : ¬ (D 46 0) ≤ x3 → vp_in x3 14) (k1 : (D 46 0) ≤ x3 → P (some (-9)) D) (k2 : ¬ (D 46 0) ≤ x3 → ¬ (D 47 x3.toNatClampNeg) = x1 → ¬ (D 47 x3.toNatClampNeg) = x2 → z_Ok mX4_walkBetween 2 [some (.ref 46), some (.int x1), some (.int x2), some (.int (x3 + 1))] [] D P) (k3 : ¬ (D 46 0) ≤ x3 → ¬ (D 47 x3.toNatClampNeg) = x1 → (D 47 x3.toNatClampNeg) = x2 → ¬ (D 48 x3.toNatClampNeg) = x1 → z_Ok mX4_walkBetween 2 [some (.ref 46), some (.int x1), some (.int x2), some (.int (x3 + 1))] [] D P) (k4 : ¬ (D 46 0) ≤ x3 → ¬ (D 47 x3.toNatClampNeg) = x1 → (D 47 x3.toNatClampNeg) = x2 → (D 48 x3.toNatClampNeg) = x1 → P (some x3) D) (k5 : ¬ (D 46 0) ≤ x3 → (D 47 x3.toNatClampNeg) = x1 → (D 48 x3.toNatClampNeg) = x2 → P (some x3) D) (k6 : ¬ (D 46 0) ≤ x3 → (D 47 x3.toNatClampNeg) = x1 → ¬ (D 48 x3.toNatClampNeg) = x2 → ¬ (D 47 x3.toNatClampNeg) = x2 → z_Ok mX4_walkBetween 2 [some (.ref 46), some (.int x1), some (.int x2), some (.int (x3 + 1))] [] D P) (k7 : ¬ (D 46 0) ≤ x3 → (D 47 x3.toNatClampNeg) = x1 → ¬ (D 48 x3.toNatClampNeg) = x2 → (D 47 x3.toNatClampNeg) = x2 → ¬ (D 48 x3.toNatClampNeg) = x1 → z_Ok mX4_walkBetween 2 [some (.ref 46), some (.int x1), some (.int x2), some (.int (x3 + 1))] [] D P) (k8 : ¬ (D 46 0) ≤ x3 → (D 47 x3.toNatClampNeg) = x1 → ¬ (D 48 x3.toNatClampNeg) = x2 → (D 47 x3.toNatClampNeg) = x2 → (D 48 x3.toNatClampNeg) = x1 → P (some x3) D) : z_Ok mX4_walkBetween 2 [some (.ref 46), some (.int x1), some (.int x2), some (.int x3)] [] D P := z_iload_n 3 dX4_walkBetween_2 rfl rfl <| z_aload_n 0 dX4_walkBetween_3 rfl rfl <| z_geti 0 dX4_walkBetween_4 fRX4_51 rfl rfl <| z_icmp_ge (x := x3) (y := D 46 0) 58 dX4_walkBetween_7 (by decide) (fun c1 => z_bipush (v := (-9)) dX4_walkBetween_58 (by decide) <| z_ret (ty := .int) dX4_walkBetween_60 rfl rfl (k1 c1)) (fun c2 => z_aload_n 0 dX4_walkBetween_10 rfl rfl <| z_getr 1 47 dX4_walkBetween_11 fRX4_7 rfl rfl <| z_iload_n 3 dX4_walkBetween_14 rfl rfl <| z_iald dX4_walkBetween_15 rfl (h1 c2) <| z_iload_n 1 dX4_walkBetween_16 rfl rfl <| z_icmp_ne (x := D 47 x3.toNatClampNeg) (y := x1) 30 dX4_walkBetween_17 (by decide) (fun c3 => z_aload_n 0 dX4_walkBetween_30 rfl rfl <| z_getr 1 47 dX4_walkBetween_31 fRX4_7 rfl rfl <| z_iload_n 3 dX4_walkBetween_34 rfl rfl <| z_iald dX4_walkBetween_35 rfl (h1 c2) <| z_iload_n 2 dX4_walkBetween_36 rfl rfl <| z_icmp_ne (x := D 47 x3.toNatClampNeg) (y := x2) 52 dX4_walkBetween_37 (by decide) (fun c4 => z_iinc (v := x3 + 1) dX4_walkBetween_52 rfl rfl rfl <| z_goto 2 dX4_walkBetween_55 (by decide) <| k2 c2 c3 c4) (fun c5 => z_aload_n 0 dX4_walkBetween_40 rfl rfl <| z_getr 2 48 dX4_walkBetween_41 fRX4_13 rfl rfl <| z_iload_n 3 dX4_walkBetween_44 rfl rfl <| z_iald dX4_walkBetween_45 rfl (h1 c2) <| z_iload_n 1 dX4_walkBetween_46 rfl rfl <| z_icmp_ne (x := D 48 x3.toNatClampNeg) (y := x1) 52 dX4_walkBetween_47 (by decide) (fun c6 => z_iinc (v := x3 + 1) dX4_walkBetween_52 rfl rfl rfl <| z_goto 2 dX4_walkBetween_55 (by decide) <| k3 c2 c3 c5 c6) (fun c7 => z_iload_n 3 dX4_walkBetween_50 rfl rfl <| z_ret (ty := .int) dX4_walkBetween_51 rfl rfl (k4 c2 c3 c5 c7)))) (fun c8 => z_aload_n 0 dX4_walkBetween_20 rfl rfl <| z_getr 2 48 dX4_walkBetween_21 fRX4_13 rfl rfl <| z_iload_n 3 dX4_walkBetween_24 rfl rfl <| z_iald dX4_walkBetween_25 rfl (h1 c2) <| z_iload_n 2 dX4_walkBetween_26 rfl rfl <| z_icmp_eq (x := D 48 x3.toNatClampNeg) (y := x2) 50 dX4_walkBetween_27 (by decide) (fun c9 => z_iload_n 3 dX4_walkBetween_50 rfl rfl <| z_ret (ty := .int) dX4_walkBetween_51 rfl rfl (k5 c2 c8 c9)) (fun c10 => z_aload_n 0 dX4_walkBetween_30 rfl rfl <| z_getr 1 47 dX4_walkBetween_31 fRX4_7 rfl rfl <| z_iload_n 3 dX4_walkBetween_34 rfl rfl <| z_iald dX4_walkBetween_35 rfl (h1 c2) <| z_iload_n 2 dX4_walkBetween_36 rfl rfl <| z_icmp_ne (x := D 47 x3.toNatClampNeg) (y := x2) 52 dX4_walkBetween_37 (by decide) (fun c11 => z_iinc (v := x3 + 1) dX4_walkBetween_52 rfl rfl rfl <| z_goto 2 dX4_walkBetween_55 (by decide) <| k6 c2 c8 c10 c11) (fun c12 => z_aload_n 0 dX4_walkBetween_40 rfl rfl <| z_getr 2 48 dX4_walkBetween_41 fRX4_13 rfl rfl <| z_iload_n 3 dX4_walkBetween_44 rfl rfl <| z_iald dX4_walkBetween_45 rfl (h1 c2) <| z_iload_n 1 dX4_walkBetween_46 rfl rfl <| z_icmp_ne (x := D 48 x3.toNatClampNeg) (y := x1) 52 dX4_walkBetween_47 (by decide) (fun c13 => z_iinc (v := x3 + 1) dX4_walkBetween_52 rfl rfl rfl <| z_goto 2 dX4_walkBetween_55 (by decide) <| k7 c2 c8 c10 c12 c13) (fun c14 => z_iload_n 3 dX4_walkBetween_50 rfl rfl <| z_ret (ty := .int) dX4_walkBetween_51 rfl rfl (k8 c2 c8 c10 c12 c14))))))
set_option maxRecDepth 20000 in
theorem bX4_openBetween_0 {x1 x2 : Int32} {D : zM} {P : Option Int32 → zM → Prop}  (k1 : z_Ok mX4_openBetween 3 [some (.ref 46), some (.int x1), some (.int x2), none] [.int x2, .int x1, .ref 46] D P) : z_Ok mX4_openBetween 0 [some (.ref 46), some (.int x1), some (.int x2), none] [] D P := z_aload_n 0 dX4_openBetween_0 rfl rfl <| z_iload_n 1 dX4_openBetween_1 rfl rfl <| z_iload_n 2 dX4_openBetween_2 rfl rfl <| k1
set_option maxRecDepth 20000 in
theorem sX4_openBetween_3 {lv : List (Option Value)} {v0 v1 : Int32} {D : zM} {P : Option Int32 → zM → Prop} {Q : Int32 → zM → Prop} (hC : z_Ci mX4_walkBetween [.ref 46, .int v0, .int v1] D Q) (kk : ∀ r D1, Q r D1 → z_Ok mX4_openBetween 6 lv [.int r] D1 P) : z_Ok mX4_openBetween 3 lv [.int v1, .int v0, .ref 46] D P := z_callV (n := 2) [.int v0, .int v1] [] dX4_openBetween_3 tX4_walkBetween kRX4_58 (by decide) pnX4_walkBetween rfl rfl rfl rfl (Nat.le_of_ble_eq_true rfl) (by simp [Value.category]) (by simp [Value.category]) hC (fun r D1 q1 => z_intr q1 (fun r q => kk r D1 q))
set_option maxRecDepth 20000 in
theorem bX4_openBetween_6 {x1 x2 y0 : Int32} {D : zM} {P : Option Int32 → zM → Prop}  (h1 : ¬ y0 = (-9) → vp_in y0 14) (k1 : y0 = (-9) → P (some (-9)) D) (k2 : ¬ y0 = (-9) → (D 50 y0.toNatClampNeg) = 0 → P (some (-9)) D) (k3 : ¬ y0 = (-9) → ¬ (D 50 y0.toNatClampNeg) = 0 → P (some y0) D) : z_Ok mX4_openBetween 6 [some (.ref 46), some (.int x1), some (.int x2), none] [.int y0] D P := z_istore_n 3 dX4_openBetween_6 rfl rfl <| z_iload_n 3 dX4_openBetween_7 rfl rfl <| z_bipush (v := (-9)) dX4_openBetween_8 (by decide) <| z_icmp_eq (x := y0) (y := (-9)) 26 dX4_openBetween_10 (by decide) (fun c1 => z_bipush (v := (-9)) dX4_openBetween_26 (by decide) <| z_ret (ty := .int) dX4_openBetween_28 rfl rfl (k1 c1)) (fun c2 => z_aload_n 0 dX4_openBetween_13 rfl rfl <| z_getr 4 50 dX4_openBetween_14 fRX4_19 rfl rfl <| z_iload_n 3 dX4_openBetween_17 rfl rfl <| z_bald dX4_openBetween_18 rfl (h1 c2) <| z_if_eq (x := D 50 y0.toNatClampNeg) 26 dX4_openBetween_19 (by decide) (fun c3 => z_bipush (v := (-9)) dX4_openBetween_26 (by decide) <| z_ret (ty := .int) dX4_openBetween_28 rfl rfl (k2 c2 c3)) (fun c4 => z_iload_n 3 dX4_openBetween_22 rfl rfl <| z_goto 28 dX4_openBetween_23 (by decide) <| z_ret (ty := .int) dX4_openBetween_28 rfl rfl (k3 c2 c4)))
set_option maxRecDepth 20000 in
theorem bX4_walk_0 {x1 x2 x3 : Int32} {D : zM} {P : Option Int32 → zM → Prop}  (k1 : vp_in x1 10 → vp_in x2 10 → ¬ x1 = x2 → z_wi x3 1 99 → z_Ok mX4_walk 37 [some (.ref 46), some (.int x1), some (.int x2), some (.int x3)] [.int x2, .int x1, .ref 46] D P) (k2 : vp_in x1 10 → vp_in x2 10 → ¬ x1 = x2 → ¬ z_wi x3 1 99 → P (some (-2)) D) (k3 : vp_in x1 10 → vp_in x2 10 → x1 = x2 → P (some (-1)) D) (k4 : vp_in x1 10 → ¬ vp_in x2 10 → P (some (-1)) D) (k5 : ¬ vp_in x1 10 → P (some (-1)) D) : z_Ok mX4_walk 0 [some (.ref 46), some (.int x1), some (.int x2), some (.int x3)] [] D P := z_iload_n 1 dX4_walk_0 rfl rfl <| z_callS (n := 1) [.int x1] [] dX4_walk_1 tX4_isPlace kRX4_62 (by decide) pnX4_isPlace rfl rfl (Nat.le_of_ble_eq_true rfl) (by simp [Value.category]) (by simp [Value.category]) (uX4_isPlace x1 D) (fun r D1 q1 => z_bool q1 (fun c1 => z_if_eq (x := 1) 19 dX4_walk_4 (by decide) (fun h => absurd h (by decide)) (fun _ => z_iload_n 2 dX4_walk_7 rfl rfl <| z_callS (n := 1) [.int x2] [] dX4_walk_8 tX4_isPlace kRX4_62 (by decide) pnX4_isPlace rfl rfl (Nat.le_of_ble_eq_true rfl) (by simp [Value.category]) (by simp [Value.category]) (uX4_isPlace x2 D) (fun r D1 q1 => z_bool q1 (fun c2 => z_if_eq (x := 1) 19 dX4_walk_11 (by decide) (fun h => absurd h (by decide)) (fun _ => z_iload_n 1 dX4_walk_14 rfl rfl <| z_iload_n 2 dX4_walk_15 rfl rfl <| z_icmp_ne (x := x1) (y := x2) 21 dX4_walk_16 (by decide) (fun c3 => z_iload_n 3 dX4_walk_21 rfl rfl <| z_iconst (v := 1) dX4_walk_22 (by decide) <| z_bipush (v := 99) dX4_walk_23 (by decide) <| z_callS (n := 3) [.int x3, .int 1, .int 99] [] dX4_walk_25 tX4_within kRX4_47 (by decide) pnX4_within rfl rfl (Nat.le_of_ble_eq_true rfl) (by simp [Value.category]) (by simp [Value.category]) (uX4_within x3 1 99 D) (fun r D1 q1 => z_bool q1 (fun c4 => z_if_ne (x := 1) 34 dX4_walk_28 (by decide) (fun _ => z_aload_n 0 dX4_walk_34 rfl rfl <| z_iload_n 1 dX4_walk_35 rfl rfl <| z_iload_n 2 dX4_walk_36 rfl rfl <| k1 c1 c2 c3 c4) (fun h => absurd h (by decide))) (fun c5 => z_if_ne (x := 0) 34 dX4_walk_28 (by decide) (fun h => absurd h (by decide)) (fun _ => z_bipush (v := (-2)) dX4_walk_31 (by decide) <| z_ret (ty := .int) dX4_walk_33 rfl rfl (k2 c1 c2 c3 c5))))) (fun c6 => z_iconst (v := (-1)) dX4_walk_19 (by decide) <| z_ret (ty := .int) dX4_walk_20 rfl rfl (k3 c1 c2 c6)))) (fun c7 => z_if_eq (x := 0) 19 dX4_walk_11 (by decide) (fun _ => z_iconst (v := (-1)) dX4_walk_19 (by decide) <| z_ret (ty := .int) dX4_walk_20 rfl rfl (k4 c1 c7)) (fun h => absurd h (by decide)))))) (fun c8 => z_if_eq (x := 0) 19 dX4_walk_4 (by decide) (fun _ => z_iconst (v := (-1)) dX4_walk_19 (by decide) <| z_ret (ty := .int) dX4_walk_20 rfl rfl (k5 c8)) (fun h => absurd h (by decide))))
set_option maxRecDepth 20000 in
theorem sX4_walk_37 {lv : List (Option Value)} {v0 v1 : Int32} {D : zM} {P : Option Int32 → zM → Prop} {Q : Int32 → zM → Prop} (hC : z_Ci mX4_walkBetween [.ref 46, .int v0, .int v1] D Q) (kk : ∀ r D1, Q r D1 → z_Ok mX4_walk 40 lv [.int r] D1 P) : z_Ok mX4_walk 37 lv [.int v1, .int v0, .ref 46] D P := z_callV (n := 2) [.int v0, .int v1] [] dX4_walk_37 tX4_walkBetween kRX4_58 (by decide) pnX4_walkBetween rfl rfl rfl rfl (Nat.le_of_ble_eq_true rfl) (by simp [Value.category]) (by simp [Value.category]) hC (fun r D1 q1 => z_intr q1 (fun r q => kk r D1 q))
set_option maxRecDepth 20000 in
theorem bX4_walk_40 {x1 x2 x3 y0 : Int32} {D : zM} {P : Option Int32 → zM → Prop}  (h1 : y0 = (-9) → ¬ (D 46 0) = 14 → x2 ≤ x1 → vp_in (D 46 0) 14) (h2 : y0 = (-9) → ¬ (D 46 0) = 14 → ¬ x2 ≤ x1 → vp_in (D 46 0) 14) (k1 : y0 = (-9) → ¬ (D 46 0) = 14 → x2 ≤ x1 → P (some (((D 46 0) + 1) - 1)) (z_up (z_up (z_up (z_up (z_up D 47 (D 46 0).toNatClampNeg x2) 48 (D 46 0).toNatClampNeg x1) 49 (D 46 0).toNatClampNeg x3) 50 (D 46 0).toNatClampNeg 1) 46 0 ((D 46 0) + 1))) (k2 : y0 = (-9) → ¬ (D 46 0) = 14 → ¬ x2 ≤ x1 → P (some (((D 46 0) + 1) - 1)) (z_up (z_up (z_up (z_up (z_up D 47 (D 46 0).toNatClampNeg x1) 48 (D 46 0).toNatClampNeg x2) 49 (D 46 0).toNatClampNeg x3) 50 (D 46 0).toNatClampNeg 1) 46 0 ((D 46 0) + 1))) (k3 : y0 = (-9) → (D 46 0) = 14 → P (some (-4)) D) (k4 : ¬ y0 = (-9) → P (some (-3)) D) : z_Ok mX4_walk 40 [some (.ref 46), some (.int x1), some (.int x2), some (.int x3)] [.int y0] D P := z_bipush (v := (-9)) dX4_walk_40 (by decide) <| z_icmp_eq (x := y0) (y := (-9)) 48 dX4_walk_42 (by decide) (fun c1 => z_aload_n 0 dX4_walk_48 rfl rfl <| z_geti 0 dX4_walk_49 fRX4_51 rfl rfl <| z_bipush (v := 14) dX4_walk_52 (by decide) <| z_icmp_ne (x := D 46 0) (y := 14) 60 dX4_walk_54 (by decide) (fun c2 => z_aload_n 0 dX4_walk_60 rfl rfl <| z_getr 1 47 dX4_walk_61 fRX4_7 rfl rfl <| z_aload_n 0 dX4_walk_64 rfl rfl <| z_geti 0 dX4_walk_65 fRX4_51 rfl rfl <| z_iload_n 1 dX4_walk_68 rfl rfl <| z_iload_n 2 dX4_walk_69 rfl rfl <| z_icmp_ge (x := x1) (y := x2) 77 dX4_walk_70 (by decide) (fun c3 => z_iload_n 2 dX4_walk_77 rfl rfl <| z_iast dX4_walk_78 rfl (h1 c1 c2 c3) <| z_aload_n 0 dX4_walk_79 rfl rfl <| z_getr 2 48 dX4_walk_80 fRX4_13 rfl rfl <| z_aload_n 0 dX4_walk_83 rfl rfl <| z_geti 0 dX4_walk_84 fRX4_51 rfl rfl <| z_iload_n 1 dX4_walk_87 rfl rfl <| z_iload_n 2 dX4_walk_88 rfl rfl <| z_icmp_ge (x := x1) (y := x2) 96 dX4_walk_89 (by decide) (fun _ => z_iload_n 1 dX4_walk_96 rfl rfl <| z_iast dX4_walk_97 rfl (h1 c1 c2 c3) <| z_aload_n 0 dX4_walk_98 rfl rfl <| z_getr 3 49 dX4_walk_99 fRX4_16 rfl rfl <| z_aload_n 0 dX4_walk_102 rfl rfl <| z_geti 0 dX4_walk_103 fRX4_51 rfl rfl <| z_iload_n 3 dX4_walk_106 rfl rfl <| z_iast dX4_walk_107 rfl (h1 c1 c2 c3) <| z_aload_n 0 dX4_walk_108 rfl rfl <| z_getr 4 50 dX4_walk_109 fRX4_19 rfl rfl <| z_aload_n 0 dX4_walk_112 rfl rfl <| z_geti 0 dX4_walk_113 fRX4_51 rfl rfl <| z_iconst (v := 1) dX4_walk_116 (by decide) <| z_bast dX4_walk_117 rfl (h1 c1 c2 c3) rfl <| z_aload_n 0 dX4_walk_118 rfl rfl <| z_dup dX4_walk_119 rfl <| z_geti 0 dX4_walk_120 fRX4_51 rfl rfl <| z_iconst (v := 1) dX4_walk_123 (by decide) <| z_iadd dX4_walk_124 <| z_put 0 dX4_walk_125 pRX4_51 rfl rfl <| z_aload_n 0 dX4_walk_128 rfl rfl <| z_geti 0 dX4_walk_129 fRX4_51 rfl rfl <| z_iconst (v := 1) dX4_walk_132 (by decide) <| z_isub dX4_walk_133 <| z_ret (ty := .int) dX4_walk_134 rfl rfl (k1 c1 c2 c3)) (fun h => absurd c3 h)) (fun c4 => z_iload_n 1 dX4_walk_73 rfl rfl <| z_goto 78 dX4_walk_74 (by decide) <| z_iast dX4_walk_78 rfl (h2 c1 c2 c4) <| z_aload_n 0 dX4_walk_79 rfl rfl <| z_getr 2 48 dX4_walk_80 fRX4_13 rfl rfl <| z_aload_n 0 dX4_walk_83 rfl rfl <| z_geti 0 dX4_walk_84 fRX4_51 rfl rfl <| z_iload_n 1 dX4_walk_87 rfl rfl <| z_iload_n 2 dX4_walk_88 rfl rfl <| z_icmp_ge (x := x1) (y := x2) 96 dX4_walk_89 (by decide) (fun h => absurd h c4) (fun _ => z_iload_n 2 dX4_walk_92 rfl rfl <| z_goto 97 dX4_walk_93 (by decide) <| z_iast dX4_walk_97 rfl (h2 c1 c2 c4) <| z_aload_n 0 dX4_walk_98 rfl rfl <| z_getr 3 49 dX4_walk_99 fRX4_16 rfl rfl <| z_aload_n 0 dX4_walk_102 rfl rfl <| z_geti 0 dX4_walk_103 fRX4_51 rfl rfl <| z_iload_n 3 dX4_walk_106 rfl rfl <| z_iast dX4_walk_107 rfl (h2 c1 c2 c4) <| z_aload_n 0 dX4_walk_108 rfl rfl <| z_getr 4 50 dX4_walk_109 fRX4_19 rfl rfl <| z_aload_n 0 dX4_walk_112 rfl rfl <| z_geti 0 dX4_walk_113 fRX4_51 rfl rfl <| z_iconst (v := 1) dX4_walk_116 (by decide) <| z_bast dX4_walk_117 rfl (h2 c1 c2 c4) rfl <| z_aload_n 0 dX4_walk_118 rfl rfl <| z_dup dX4_walk_119 rfl <| z_geti 0 dX4_walk_120 fRX4_51 rfl rfl <| z_iconst (v := 1) dX4_walk_123 (by decide) <| z_iadd dX4_walk_124 <| z_put 0 dX4_walk_125 pRX4_51 rfl rfl <| z_aload_n 0 dX4_walk_128 rfl rfl <| z_geti 0 dX4_walk_129 fRX4_51 rfl rfl <| z_iconst (v := 1) dX4_walk_132 (by decide) <| z_isub dX4_walk_133 <| z_ret (ty := .int) dX4_walk_134 rfl rfl (k2 c1 c2 c4)))) (fun c5 => z_bipush (v := (-4)) dX4_walk_57 (by decide) <| z_ret (ty := .int) dX4_walk_59 rfl rfl (k3 c1 c5))) (fun c6 => z_bipush (v := (-3)) dX4_walk_45 (by decide) <| z_ret (ty := .int) dX4_walk_47 rfl rfl (k4 c6))
set_option maxRecDepth 20000 in
theorem bX4_unwalk_0 {D : zM} {P : Option Int32 → zM → Prop}  (k1 : ¬ (D 46 0) = 0 → P (some ((D 46 0) - 1)) (z_up D 46 0 ((D 46 0) - 1))) (k2 : (D 46 0) = 0 → P (some (-3)) D) : z_Ok mX4_unwalk 0 [some (.ref 46)] [] D P := z_aload_n 0 dX4_unwalk_0 rfl rfl <| z_geti 0 dX4_unwalk_1 fRX4_51 rfl rfl <| z_if_ne (x := D 46 0) 10 dX4_unwalk_4 (by decide) (fun c1 => z_aload_n 0 dX4_unwalk_10 rfl rfl <| z_dup dX4_unwalk_11 rfl <| z_geti 0 dX4_unwalk_12 fRX4_51 rfl rfl <| z_iconst (v := 1) dX4_unwalk_15 (by decide) <| z_isub dX4_unwalk_16 <| z_put 0 dX4_unwalk_17 pRX4_51 rfl rfl <| z_aload_n 0 dX4_unwalk_20 rfl rfl <| z_geti 0 dX4_unwalk_21 fRX4_51 rfl rfl <| z_ret (ty := .int) dX4_unwalk_24 rfl rfl (k1 c1)) (fun c2 => z_bipush (v := (-3)) dX4_unwalk_7 (by decide) <| z_ret (ty := .int) dX4_unwalk_9 rfl rfl (k2 c2))
set_option maxRecDepth 20000 in
theorem bX4_open_0 {x1 x2 : Int32} {D : zM} {P : Option Int32 → zM → Prop}  (h1 : z_wi x1 0 (D 46 0 - 1) → vp_in x1 14) (h2 : z_wi x1 0 (D 46 0 - 1) → ¬ (D 50 x1.toNatClampNeg) = x2 → vp_nar .boolean x2 = x2) (k1 : z_wi x1 0 (D 46 0 - 1) → ¬ (D 50 x1.toNatClampNeg) = x2 → P (some 1) (z_up D 50 x1.toNatClampNeg x2)) (k2 : z_wi x1 0 (D 46 0 - 1) → (D 50 x1.toNatClampNeg) = x2 → P (some 0) D) (k3 : ¬ z_wi x1 0 (D 46 0 - 1) → P (some (-1)) D) : z_Ok mX4_open 0 [some (.ref 46), some (.int x1), some (.int x2)] [] D P := z_aload_n 0 dX4_open_0 rfl rfl <| z_iload_n 1 dX4_open_1 rfl rfl <| z_callV (n := 1) [.int x1] [] dX4_open_2 tX4_isWalk kRX4_66 (by decide) pnX4_isWalk rfl rfl rfl rfl (Nat.le_of_ble_eq_true rfl) (by simp [Value.category]) (by simp [Value.category]) (uX4_isWalk x1 D) (fun r D1 q1 => z_bool q1 (fun c1 => z_if_ne (x := 1) 10 dX4_open_5 (by decide) (fun _ => z_aload_n 0 dX4_open_10 rfl rfl <| z_getr 4 50 dX4_open_11 fRX4_19 rfl rfl <| z_iload_n 1 dX4_open_14 rfl rfl <| z_bald dX4_open_15 rfl (h1 c1) <| z_iload_n 2 dX4_open_16 rfl rfl <| z_icmp_ne (x := D 50 x1.toNatClampNeg) (y := x2) 22 dX4_open_17 (by decide) (fun c2 => z_aload_n 0 dX4_open_22 rfl rfl <| z_getr 4 50 dX4_open_23 fRX4_19 rfl rfl <| z_iload_n 1 dX4_open_26 rfl rfl <| z_iload_n 2 dX4_open_27 rfl rfl <| z_bast dX4_open_28 rfl (h1 c1) (h2 c1 c2) <| z_iconst (v := 1) dX4_open_29 (by decide) <| z_ret (ty := .int) dX4_open_30 rfl rfl (k1 c1 c2)) (fun c3 => z_iconst (v := 0) dX4_open_20 (by decide) <| z_ret (ty := .int) dX4_open_21 rfl rfl (k2 c1 c3))) (fun h => absurd h (by decide))) (fun c4 => z_if_ne (x := 0) 10 dX4_open_5 (by decide) (fun h => absurd h (by decide)) (fun _ => z_iconst (v := (-1)) dX4_open_8 (by decide) <| z_ret (ty := .int) dX4_open_9 rfl rfl (k3 c4))))
set_option maxRecDepth 20000 in
theorem bX4_ofWalk_0 {x1 x2 : Int32} {D : zM} {P : Option Int32 → zM → Prop}  (h1 : z_wi x1 0 (D 46 0 - 1) → x2 = 0 → vp_in x1 14) (h2 : z_wi x1 0 (D 46 0 - 1) → ¬ x2 = 0 → x2 = 1 → vp_in x1 14) (h3 : z_wi x1 0 (D 46 0 - 1) → ¬ x2 = 0 → ¬ x2 = 1 → x2 = 2 → vp_in x1 14) (h4 : z_wi x1 0 (D 46 0 - 1) → ¬ x2 = 0 → ¬ x2 = 1 → ¬ x2 = 2 → x2 = 3 → vp_in x1 14) (k1 : z_wi x1 0 (D 46 0 - 1) → x2 = 0 → P (some (D 47 x1.toNatClampNeg)) D) (k2 : z_wi x1 0 (D 46 0 - 1) → ¬ x2 = 0 → x2 = 1 → P (some (D 48 x1.toNatClampNeg)) D) (k3 : z_wi x1 0 (D 46 0 - 1) → ¬ x2 = 0 → ¬ x2 = 1 → x2 = 2 → P (some (D 49 x1.toNatClampNeg)) D) (k4 : z_wi x1 0 (D 46 0 - 1) → ¬ x2 = 0 → ¬ x2 = 1 → ¬ x2 = 2 → x2 = 3 → (D 50 x1.toNatClampNeg) = 0 → P (some 0) D) (k5 : z_wi x1 0 (D 46 0 - 1) → ¬ x2 = 0 → ¬ x2 = 1 → ¬ x2 = 2 → x2 = 3 → ¬ (D 50 x1.toNatClampNeg) = 0 → P (some 1) D) (k6 : z_wi x1 0 (D 46 0 - 1) → ¬ x2 = 0 → ¬ x2 = 1 → ¬ x2 = 2 → ¬ x2 = 3 → P (some (-2)) D) (k7 : ¬ z_wi x1 0 (D 46 0 - 1) → P (some (-1)) D) : z_Ok mX4_ofWalk 0 [some (.ref 46), some (.int x1), some (.int x2)] [] D P := z_aload_n 0 dX4_ofWalk_0 rfl rfl <| z_iload_n 1 dX4_ofWalk_1 rfl rfl <| z_callV (n := 1) [.int x1] [] dX4_ofWalk_2 tX4_isWalk kRX4_66 (by decide) pnX4_isWalk rfl rfl rfl rfl (Nat.le_of_ble_eq_true rfl) (by simp [Value.category]) (by simp [Value.category]) (uX4_isWalk x1 D) (fun r D1 q1 => z_bool q1 (fun c1 => z_if_ne (x := 1) 10 dX4_ofWalk_5 (by decide) (fun _ => z_iload_n 2 dX4_ofWalk_10 rfl rfl <| z_case (x2 = 0) (fun c2 => z_tabIn 40 dX4_ofWalk_11 (by rw [c2]; decide) (by rw [c2]; decide) (by rw [c2]; rfl) (by decide) <| z_aload_n 0 dX4_ofWalk_40 rfl rfl <| z_getr 1 47 dX4_ofWalk_41 fRX4_7 rfl rfl <| z_iload_n 1 dX4_ofWalk_44 rfl rfl <| z_iald dX4_ofWalk_45 rfl (h1 c1 c2) <| z_ret (ty := .int) dX4_ofWalk_46 rfl rfl (k1 c1 c2)) (fun c3 => z_case (x2 = 1) (fun c4 => z_tabIn 47 dX4_ofWalk_11 (by rw [c4]; decide) (by rw [c4]; decide) (by rw [c4]; rfl) (by decide) <| z_aload_n 0 dX4_ofWalk_47 rfl rfl <| z_getr 2 48 dX4_ofWalk_48 fRX4_13 rfl rfl <| z_iload_n 1 dX4_ofWalk_51 rfl rfl <| z_iald dX4_ofWalk_52 rfl (h2 c1 c3 c4) <| z_ret (ty := .int) dX4_ofWalk_53 rfl rfl (k2 c1 c3 c4)) (fun c5 => z_case (x2 = 2) (fun c6 => z_tabIn 54 dX4_ofWalk_11 (by rw [c6]; decide) (by rw [c6]; decide) (by rw [c6]; rfl) (by decide) <| z_aload_n 0 dX4_ofWalk_54 rfl rfl <| z_getr 3 49 dX4_ofWalk_55 fRX4_16 rfl rfl <| z_iload_n 1 dX4_ofWalk_58 rfl rfl <| z_iald dX4_ofWalk_59 rfl (h3 c1 c3 c5 c6) <| z_ret (ty := .int) dX4_ofWalk_60 rfl rfl (k3 c1 c3 c5 c6)) (fun c7 => z_case (x2 = 3) (fun c8 => z_tabIn 61 dX4_ofWalk_11 (by rw [c8]; decide) (by rw [c8]; decide) (by rw [c8]; rfl) (by decide) <| z_aload_n 0 dX4_ofWalk_61 rfl rfl <| z_getr 4 50 dX4_ofWalk_62 fRX4_19 rfl rfl <| z_iload_n 1 dX4_ofWalk_65 rfl rfl <| z_bald dX4_ofWalk_66 rfl (h4 c1 c3 c5 c7 c8) <| z_if_eq (x := D 50 x1.toNatClampNeg) 74 dX4_ofWalk_67 (by decide) (fun c9 => z_iconst (v := 0) dX4_ofWalk_74 (by decide) <| z_ret (ty := .int) dX4_ofWalk_75 rfl rfl (k4 c1 c3 c5 c7 c8 c9)) (fun c10 => z_iconst (v := 1) dX4_ofWalk_70 (by decide) <| z_goto 75 dX4_ofWalk_71 (by decide) <| z_ret (ty := .int) dX4_ofWalk_75 rfl rfl (k5 c1 c3 c5 c7 c8 c10))) (fun c11 => z_tabOut 76 dX4_ofWalk_11 (z_sw0_3 c3 c5 c7 c11) (by decide) <| z_bipush (v := (-2)) dX4_ofWalk_76 (by decide) <| z_ret (ty := .int) dX4_ofWalk_78 rfl rfl (k6 c1 c3 c5 c7 c11)))))) (fun h => absurd h (by decide))) (fun c12 => z_if_ne (x := 0) 10 dX4_ofWalk_5 (by decide) (fun h => absurd h (by decide)) (fun _ => z_iconst (v := (-1)) dX4_ofWalk_8 (by decide) <| z_ret (ty := .int) dX4_ofWalk_9 rfl rfl (k7 c12))))
set_option maxRecDepth 20000 in
theorem bX4_name_0 {x1 : Int32} {D : zM} {P : Option Int32 → zM → Prop}  (h1 : vp_in x1 10 → ¬ (D 46 5) = 5 → vp_in (D 46 5) 5) (k1 : vp_in x1 10 → ¬ (D 46 5) = 5 → P (some (((D 46 5) + 1) - 1)) (z_up (z_up D 51 (D 46 5).toNatClampNeg x1) 46 5 ((D 46 5) + 1))) (k2 : vp_in x1 10 → (D 46 5) = 5 → P (some (-4)) D) (k3 : ¬ vp_in x1 10 → P (some (-1)) D) : z_Ok mX4_name 0 [some (.ref 46), some (.int x1)] [] D P := z_iload_n 1 dX4_name_0 rfl rfl <| z_callS (n := 1) [.int x1] [] dX4_name_1 tX4_isPlace kRX4_62 (by decide) pnX4_isPlace rfl rfl (Nat.le_of_ble_eq_true rfl) (by simp [Value.category]) (by simp [Value.category]) (uX4_isPlace x1 D) (fun r D1 q1 => z_bool q1 (fun c1 => z_if_ne (x := 1) 9 dX4_name_4 (by decide) (fun _ => z_aload_n 0 dX4_name_9 rfl rfl <| z_geti 5 dX4_name_10 fRX4_55 rfl rfl <| z_iconst (v := 5) dX4_name_13 (by decide) <| z_icmp_ne (x := D 46 5) (y := 5) 20 dX4_name_14 (by decide) (fun c2 => z_aload_n 0 dX4_name_20 rfl rfl <| z_getr 6 51 dX4_name_21 fRX4_23 rfl rfl <| z_aload_n 0 dX4_name_24 rfl rfl <| z_geti 5 dX4_name_25 fRX4_55 rfl rfl <| z_iload_n 1 dX4_name_28 rfl rfl <| z_iast dX4_name_29 rfl (h1 c1 c2) <| z_aload_n 0 dX4_name_30 rfl rfl <| z_dup dX4_name_31 rfl <| z_geti 5 dX4_name_32 fRX4_55 rfl rfl <| z_iconst (v := 1) dX4_name_35 (by decide) <| z_iadd dX4_name_36 <| z_put 5 dX4_name_37 pRX4_55 rfl rfl <| z_aload_n 0 dX4_name_40 rfl rfl <| z_geti 5 dX4_name_41 fRX4_55 rfl rfl <| z_iconst (v := 1) dX4_name_44 (by decide) <| z_isub dX4_name_45 <| z_ret (ty := .int) dX4_name_46 rfl rfl (k1 c1 c2)) (fun c3 => z_bipush (v := (-4)) dX4_name_17 (by decide) <| z_ret (ty := .int) dX4_name_19 rfl rfl (k2 c1 c3))) (fun h => absurd h (by decide))) (fun c4 => z_if_ne (x := 0) 9 dX4_name_4 (by decide) (fun h => absurd h (by decide)) (fun _ => z_iconst (v := (-1)) dX4_name_7 (by decide) <| z_ret (ty := .int) dX4_name_8 rfl rfl (k3 c4))))
set_option maxRecDepth 20000 in
theorem bX4_moves_0 {x1 x2 : Int32} {D : zM} {P : Option Int32 → zM → Prop}  (h1 : z_wi x1 0 (D 46 5 - 1) → vp_in x2 10 → vp_in x1 5) (k1 : z_wi x1 0 (D 46 5 - 1) → vp_in x2 10 → P (some (D 51 x1.toNatClampNeg)) (z_up D 51 x1.toNatClampNeg x2)) (k2 : z_wi x1 0 (D 46 5 - 1) → ¬ vp_in x2 10 → P (some (-1)) D) (k3 : ¬ z_wi x1 0 (D 46 5 - 1) → P (some (-1)) D) : z_Ok mX4_moves 0 [some (.ref 46), some (.int x1), some (.int x2), none] [] D P := z_aload_n 0 dX4_moves_0 rfl rfl <| z_iload_n 1 dX4_moves_1 rfl rfl <| z_callV (n := 1) [.int x1] [] dX4_moves_2 tX4_isName kRX4_69 (by decide) pnX4_isName rfl rfl rfl rfl (Nat.le_of_ble_eq_true rfl) (by simp [Value.category]) (by simp [Value.category]) (uX4_isName x1 D) (fun r D1 q1 => z_bool q1 (fun c1 => z_if_eq (x := 1) 15 dX4_moves_5 (by decide) (fun h => absurd h (by decide)) (fun _ => z_iload_n 2 dX4_moves_8 rfl rfl <| z_callS (n := 1) [.int x2] [] dX4_moves_9 tX4_isPlace kRX4_62 (by decide) pnX4_isPlace rfl rfl (Nat.le_of_ble_eq_true rfl) (by simp [Value.category]) (by simp [Value.category]) (uX4_isPlace x2 D) (fun r D1 q1 => z_bool q1 (fun c2 => z_if_ne (x := 1) 17 dX4_moves_12 (by decide) (fun _ => z_aload_n 0 dX4_moves_17 rfl rfl <| z_getr 6 51 dX4_moves_18 fRX4_23 rfl rfl <| z_iload_n 1 dX4_moves_21 rfl rfl <| z_iald dX4_moves_22 rfl (h1 c1 c2) <| z_istore_n 3 dX4_moves_23 rfl rfl <| z_aload_n 0 dX4_moves_24 rfl rfl <| z_getr 6 51 dX4_moves_25 fRX4_23 rfl rfl <| z_iload_n 1 dX4_moves_28 rfl rfl <| z_iload_n 2 dX4_moves_29 rfl rfl <| z_iast dX4_moves_30 rfl (h1 c1 c2) <| z_iload_n 3 dX4_moves_31 rfl rfl <| z_ret (ty := .int) dX4_moves_32 rfl rfl (k1 c1 c2)) (fun h => absurd h (by decide))) (fun c3 => z_if_ne (x := 0) 17 dX4_moves_12 (by decide) (fun h => absurd h (by decide)) (fun _ => z_iconst (v := (-1)) dX4_moves_15 (by decide) <| z_ret (ty := .int) dX4_moves_16 rfl rfl (k2 c1 c3)))))) (fun c4 => z_if_eq (x := 0) 15 dX4_moves_5 (by decide) (fun _ => z_iconst (v := (-1)) dX4_moves_15 (by decide) <| z_ret (ty := .int) dX4_moves_16 rfl rfl (k3 c4)) (fun h => absurd h (by decide))))
set_option maxRecDepth 20000 in
theorem bX4_entrance_0 {x1 x2 : Int32} {D : zM} {P : Option Int32 → zM → Prop}  (k1 : vp_in x1 10 → zb (D 46 7) x1 → ¬ 1 = x2 → P (some 1) (z_up D 46 7 ((D 46 7) ^^^ ((1 : Int32) <<< (x1 &&& 31))))) (k2 : vp_in x1 10 → zb (D 46 7) x1 → 1 = x2 → P (some 0) D) (k3 : vp_in x1 10 → ¬ zb (D 46 7) x1 → ¬ 0 = x2 → P (some 1) (z_up D 46 7 ((D 46 7) ^^^ ((1 : Int32) <<< (x1 &&& 31))))) (k4 : vp_in x1 10 → ¬ zb (D 46 7) x1 → 0 = x2 → P (some 0) D) (k5 : ¬ vp_in x1 10 → P (some (-1)) D) : z_Ok mX4_entrance 0 [some (.ref 46), some (.int x1), some (.int x2)] [] D P := z_iload_n 1 dX4_entrance_0 rfl rfl <| z_callS (n := 1) [.int x1] [] dX4_entrance_1 tX4_isPlace kRX4_62 (by decide) pnX4_isPlace rfl rfl (Nat.le_of_ble_eq_true rfl) (by simp [Value.category]) (by simp [Value.category]) (uX4_isPlace x1 D) (fun r D1 q1 => z_bool q1 (fun c1 => z_if_ne (x := 1) 9 dX4_entrance_4 (by decide) (fun _ => z_aload_n 0 dX4_entrance_9 rfl rfl <| z_geti 7 dX4_entrance_10 fRX4_72 rfl rfl <| z_iload_n 1 dX4_entrance_13 rfl rfl <| z_callS (n := 2) [.int (D 46 7), .int x1] [] dX4_entrance_14 tX4_isIn kRX4_75 (by decide) pnX4_isIn rfl rfl (Nat.le_of_ble_eq_true rfl) (by simp [Value.category]) (by simp [Value.category]) (uX4_isIn (D 46 7) x1 D) (fun r D1 q1 => z_bool q1 (fun c2 => z_iload_n 2 dX4_entrance_17 rfl rfl <| z_icmp_ne (x := 1) (y := x2) 23 dX4_entrance_18 (by decide) (fun c3 => z_aload_n 0 dX4_entrance_23 rfl rfl <| z_dup dX4_entrance_24 rfl <| z_geti 7 dX4_entrance_25 fRX4_72 rfl rfl <| z_iconst (v := 1) dX4_entrance_28 (by decide) <| z_iload_n 1 dX4_entrance_29 rfl rfl <| z_ishl dX4_entrance_30 <| z_ixor dX4_entrance_31 <| z_put 7 dX4_entrance_32 pRX4_72 rfl rfl <| z_iconst (v := 1) dX4_entrance_35 (by decide) <| z_ret (ty := .int) dX4_entrance_36 rfl rfl (k1 c1 c2 c3)) (fun c4 => z_iconst (v := 0) dX4_entrance_21 (by decide) <| z_ret (ty := .int) dX4_entrance_22 rfl rfl (k2 c1 c2 c4))) (fun c5 => z_iload_n 2 dX4_entrance_17 rfl rfl <| z_icmp_ne (x := 0) (y := x2) 23 dX4_entrance_18 (by decide) (fun c6 => z_aload_n 0 dX4_entrance_23 rfl rfl <| z_dup dX4_entrance_24 rfl <| z_geti 7 dX4_entrance_25 fRX4_72 rfl rfl <| z_iconst (v := 1) dX4_entrance_28 (by decide) <| z_iload_n 1 dX4_entrance_29 rfl rfl <| z_ishl dX4_entrance_30 <| z_ixor dX4_entrance_31 <| z_put 7 dX4_entrance_32 pRX4_72 rfl rfl <| z_iconst (v := 1) dX4_entrance_35 (by decide) <| z_ret (ty := .int) dX4_entrance_36 rfl rfl (k3 c1 c5 c6)) (fun c7 => z_iconst (v := 0) dX4_entrance_21 (by decide) <| z_ret (ty := .int) dX4_entrance_22 rfl rfl (k4 c1 c5 c7))))) (fun h => absurd h (by decide))) (fun c8 => z_if_ne (x := 0) 9 dX4_entrance_4 (by decide) (fun h => absurd h (by decide)) (fun _ => z_iconst (v := (-1)) dX4_entrance_7 (by decide) <| z_ret (ty := .int) dX4_entrance_8 rfl rfl (k5 c8))))
set_option maxRecDepth 20000 in
theorem bX4_detour_0 {x1 : Int32} {D : zM} {P : Option Int32 → zM → Prop}  (k1 : z_wi x1 0 999 → P (some (D 46 8)) (z_up D 46 8 x1)) (k2 : ¬ z_wi x1 0 999 → P (some (-2)) D) : z_Ok mX4_detour 0 [some (.ref 46), some (.int x1), none] [] D P := z_iload_n 1 dX4_detour_0 rfl rfl <| z_iconst (v := 0) dX4_detour_1 (by decide) <| z_sipush (v := 999) dX4_detour_2 (by decide) <| z_callS (n := 3) [.int x1, .int 0, .int 999] [] dX4_detour_5 tX4_within kRX4_47 (by decide) pnX4_within rfl rfl (Nat.le_of_ble_eq_true rfl) (by simp [Value.category]) (by simp [Value.category]) (uX4_within x1 0 999 D) (fun r D1 q1 => z_bool q1 (fun c1 => z_if_ne (x := 1) 14 dX4_detour_8 (by decide) (fun _ => z_aload_n 0 dX4_detour_14 rfl rfl <| z_geti 8 dX4_detour_15 fRX4_79 rfl rfl <| z_istore_n 2 dX4_detour_18 rfl rfl <| z_aload_n 0 dX4_detour_19 rfl rfl <| z_iload_n 1 dX4_detour_20 rfl rfl <| z_put 8 dX4_detour_21 pRX4_79 rfl rfl <| z_iload_n 2 dX4_detour_24 rfl rfl <| z_ret (ty := .int) dX4_detour_25 rfl rfl (k1 c1)) (fun h => absurd h (by decide))) (fun c2 => z_if_ne (x := 0) 14 dX4_detour_8 (by decide) (fun h => absurd h (by decide)) (fun _ => z_bipush (v := (-2)) dX4_detour_11 (by decide) <| z_ret (ty := .int) dX4_detour_13 rfl rfl (k2 c2))))
set_option maxRecDepth 20000 in
theorem bX4_board_0 {x1 x2 x3 : Int32} {D : zM} {P : Option Int32 → zM → Prop}  (k1 : vp_in x1 10 → z_wi x2 0 (D 46 5 - 1) → vp_in x3 10 → z_Ok mX4_board 27 [some (.ref 46), some (.int x1), some (.int x2), some (.int x3), none] [.int x3, .int x1, .ref 46] D P) (k2 : vp_in x1 10 → z_wi x2 0 (D 46 5 - 1) → ¬ vp_in x3 10 → P (some (-1)) D) (k3 : vp_in x1 10 → ¬ z_wi x2 0 (D 46 5 - 1) → P (some (-1)) D) (k4 : ¬ vp_in x1 10 → P (some (-1)) D) : z_Ok mX4_board 0 [some (.ref 46), some (.int x1), some (.int x2), some (.int x3), none] [] D P := z_iload_n 1 dX4_board_0 rfl rfl <| z_callS (n := 1) [.int x1] [] dX4_board_1 tX4_isPlace kRX4_62 (by decide) pnX4_isPlace rfl rfl (Nat.le_of_ble_eq_true rfl) (by simp [Value.category]) (by simp [Value.category]) (uX4_isPlace x1 D) (fun r D1 q1 => z_bool q1 (fun c1 => z_if_eq (x := 1) 22 dX4_board_4 (by decide) (fun h => absurd h (by decide)) (fun _ => z_aload_n 0 dX4_board_7 rfl rfl <| z_iload_n 2 dX4_board_8 rfl rfl <| z_callV (n := 1) [.int x2] [] dX4_board_9 tX4_isName kRX4_69 (by decide) pnX4_isName rfl rfl rfl rfl (Nat.le_of_ble_eq_true rfl) (by simp [Value.category]) (by simp [Value.category]) (uX4_isName x2 D) (fun r D1 q1 => z_bool q1 (fun c2 => z_if_eq (x := 1) 22 dX4_board_12 (by decide) (fun h => absurd h (by decide)) (fun _ => z_iload_n 3 dX4_board_15 rfl rfl <| z_callS (n := 1) [.int x3] [] dX4_board_16 tX4_isPlace kRX4_62 (by decide) pnX4_isPlace rfl rfl (Nat.le_of_ble_eq_true rfl) (by simp [Value.category]) (by simp [Value.category]) (uX4_isPlace x3 D) (fun r D1 q1 => z_bool q1 (fun c3 => z_if_ne (x := 1) 24 dX4_board_19 (by decide) (fun _ => z_aload_n 0 dX4_board_24 rfl rfl <| z_iload_n 1 dX4_board_25 rfl rfl <| z_iload_n 3 dX4_board_26 rfl rfl <| k1 c1 c2 c3) (fun h => absurd h (by decide))) (fun c4 => z_if_ne (x := 0) 24 dX4_board_19 (by decide) (fun h => absurd h (by decide)) (fun _ => z_iconst (v := (-1)) dX4_board_22 (by decide) <| z_ret (ty := .int) dX4_board_23 rfl rfl (k2 c1 c2 c4)))))) (fun c5 => z_if_eq (x := 0) 22 dX4_board_12 (by decide) (fun _ => z_iconst (v := (-1)) dX4_board_22 (by decide) <| z_ret (ty := .int) dX4_board_23 rfl rfl (k3 c1 c5)) (fun h => absurd h (by decide)))))) (fun c6 => z_if_eq (x := 0) 22 dX4_board_4 (by decide) (fun _ => z_iconst (v := (-1)) dX4_board_22 (by decide) <| z_ret (ty := .int) dX4_board_23 rfl rfl (k4 c6)) (fun h => absurd h (by decide))))
set_option maxRecDepth 20000 in
theorem sX4_board_27 {lv : List (Option Value)} {v0 v1 : Int32} {D : zM} {P : Option Int32 → zM → Prop} {Q : Int32 → zM → Prop} (hC : z_Ci mX4_walkBetween [.ref 46, .int v0, .int v1] D Q) (kk : ∀ r D1, Q r D1 → z_Ok mX4_board 30 lv [.int r] D1 P) : z_Ok mX4_board 27 lv [.int v1, .int v0, .ref 46] D P := z_callV (n := 2) [.int v0, .int v1] [] dX4_board_27 tX4_walkBetween kRX4_58 (by decide) pnX4_walkBetween rfl rfl rfl rfl (Nat.le_of_ble_eq_true rfl) (by simp [Value.category]) (by simp [Value.category]) hC (fun r D1 q1 => z_intr q1 (fun r q => kk r D1 q))
set_option maxRecDepth 20000 in
theorem bX4_board_30 {x1 x2 x3 y0 : Int32} {D : zM} {P : Option Int32 → zM → Prop}  (h1 : ¬ y0 = (-9) → vp_in ((5 * x1) + x2) 50) (k1 : ¬ y0 = (-9) → P (some (D 52 ((5 * x1) + x2).toNatClampNeg)) (z_up D 52 ((5 * x1) + x2).toNatClampNeg x3)) (k2 : y0 = (-9) → P (some (-3)) D) : z_Ok mX4_board 30 [some (.ref 46), some (.int x1), some (.int x2), some (.int x3), none] [.int y0] D P := z_bipush (v := (-9)) dX4_board_30 (by decide) <| z_icmp_ne (x := y0) (y := (-9)) 38 dX4_board_32 (by decide) (fun c1 => z_aload_n 0 dX4_board_38 rfl rfl <| z_getr 9 52 dX4_board_39 fRX4_26 rfl rfl <| z_iconst (v := 5) dX4_board_42 (by decide) <| z_iload_n 1 dX4_board_43 rfl rfl <| z_imul dX4_board_44 <| z_iload_n 2 dX4_board_45 rfl rfl <| z_iadd dX4_board_46 <| z_iald dX4_board_47 rfl (h1 c1) <| z_istore dX4_board_48 rfl <| z_aload_n 0 dX4_board_50 rfl rfl <| z_getr 9 52 dX4_board_51 fRX4_26 rfl rfl <| z_iconst (v := 5) dX4_board_54 (by decide) <| z_iload_n 1 dX4_board_55 rfl rfl <| z_imul dX4_board_56 <| z_iload_n 2 dX4_board_57 rfl rfl <| z_iadd dX4_board_58 <| z_iload_n 3 dX4_board_59 rfl rfl <| z_iast dX4_board_60 rfl (h1 c1) <| z_iload dX4_board_61 rfl <| z_ret (ty := .int) dX4_board_63 rfl rfl (k1 c1)) (fun c2 => z_bipush (v := (-3)) dX4_board_35 (by decide) <| z_ret (ty := .int) dX4_board_37 rfl rfl (k2 c2))
set_option maxRecDepth 20000 in
theorem bX4_unboard_0 {x1 x2 : Int32} {D : zM} {P : Option Int32 → zM → Prop}  (h1 : vp_in x1 10 → z_wi x2 0 (D 46 5 - 1) → vp_in ((5 * x1) + x2) 50) (k1 : vp_in x1 10 → z_wi x2 0 (D 46 5 - 1) → ¬ (D 52 ((5 * x1) + x2).toNatClampNeg) = (-9) → P (some (D 52 ((5 * x1) + x2).toNatClampNeg)) (z_up D 52 ((5 * x1) + x2).toNatClampNeg (-9))) (k2 : vp_in x1 10 → z_wi x2 0 (D 46 5 - 1) → (D 52 ((5 * x1) + x2).toNatClampNeg) = (-9) → P (some (-3)) D) (k3 : vp_in x1 10 → ¬ z_wi x2 0 (D 46 5 - 1) → P (some (-1)) D) (k4 : ¬ vp_in x1 10 → P (some (-1)) D) : z_Ok mX4_unboard 0 [some (.ref 46), some (.int x1), some (.int x2), none] [] D P := z_iload_n 1 dX4_unboard_0 rfl rfl <| z_callS (n := 1) [.int x1] [] dX4_unboard_1 tX4_isPlace kRX4_62 (by decide) pnX4_isPlace rfl rfl (Nat.le_of_ble_eq_true rfl) (by simp [Value.category]) (by simp [Value.category]) (uX4_isPlace x1 D) (fun r D1 q1 => z_bool q1 (fun c1 => z_if_eq (x := 1) 15 dX4_unboard_4 (by decide) (fun h => absurd h (by decide)) (fun _ => z_aload_n 0 dX4_unboard_7 rfl rfl <| z_iload_n 2 dX4_unboard_8 rfl rfl <| z_callV (n := 1) [.int x2] [] dX4_unboard_9 tX4_isName kRX4_69 (by decide) pnX4_isName rfl rfl rfl rfl (Nat.le_of_ble_eq_true rfl) (by simp [Value.category]) (by simp [Value.category]) (uX4_isName x2 D) (fun r D1 q1 => z_bool q1 (fun c2 => z_if_ne (x := 1) 17 dX4_unboard_12 (by decide) (fun _ => z_aload_n 0 dX4_unboard_17 rfl rfl <| z_getr 9 52 dX4_unboard_18 fRX4_26 rfl rfl <| z_iconst (v := 5) dX4_unboard_21 (by decide) <| z_iload_n 1 dX4_unboard_22 rfl rfl <| z_imul dX4_unboard_23 <| z_iload_n 2 dX4_unboard_24 rfl rfl <| z_iadd dX4_unboard_25 <| z_iald dX4_unboard_26 rfl (h1 c1 c2) <| z_istore_n 3 dX4_unboard_27 rfl rfl <| z_iload_n 3 dX4_unboard_28 rfl rfl <| z_bipush (v := (-9)) dX4_unboard_29 (by decide) <| z_icmp_ne (x := D 52 ((5 * x1) + x2).toNatClampNeg) (y := (-9)) 37 dX4_unboard_31 (by decide) (fun c3 => z_aload_n 0 dX4_unboard_37 rfl rfl <| z_getr 9 52 dX4_unboard_38 fRX4_26 rfl rfl <| z_iconst (v := 5) dX4_unboard_41 (by decide) <| z_iload_n 1 dX4_unboard_42 rfl rfl <| z_imul dX4_unboard_43 <| z_iload_n 2 dX4_unboard_44 rfl rfl <| z_iadd dX4_unboard_45 <| z_bipush (v := (-9)) dX4_unboard_46 (by decide) <| z_iast dX4_unboard_48 rfl (h1 c1 c2) <| z_iload_n 3 dX4_unboard_49 rfl rfl <| z_ret (ty := .int) dX4_unboard_50 rfl rfl (k1 c1 c2 c3)) (fun c4 => z_bipush (v := (-3)) dX4_unboard_34 (by decide) <| z_ret (ty := .int) dX4_unboard_36 rfl rfl (k2 c1 c2 c4))) (fun h => absurd h (by decide))) (fun c5 => z_if_ne (x := 0) 17 dX4_unboard_12 (by decide) (fun h => absurd h (by decide)) (fun _ => z_iconst (v := (-1)) dX4_unboard_15 (by decide) <| z_ret (ty := .int) dX4_unboard_16 rfl rfl (k3 c1 c5)))))) (fun c6 => z_if_eq (x := 0) 15 dX4_unboard_4 (by decide) (fun _ => z_iconst (v := (-1)) dX4_unboard_15 (by decide) <| z_ret (ty := .int) dX4_unboard_16 rfl rfl (k4 c6)) (fun h => absurd h (by decide))))
set_option maxRecDepth 20000 in
theorem bX4_arrow_0 {x1 x2 : Int32} {D : zM} {P : Option Int32 → zM → Prop}  (h1 : vp_in x1 10 → z_wi x2 0 (D 46 5 - 1) → vp_in ((5 * x1) + x2) 50) (k1 : vp_in x1 10 → z_wi x2 0 (D 46 5 - 1) → P (some (D 52 ((5 * x1) + x2).toNatClampNeg)) D) (k2 : vp_in x1 10 → ¬ z_wi x2 0 (D 46 5 - 1) → P (some (-1)) D) (k3 : ¬ vp_in x1 10 → P (some (-1)) D) : z_Ok mX4_arrow 0 [some (.ref 46), some (.int x1), some (.int x2)] [] D P := z_iload_n 1 dX4_arrow_0 rfl rfl <| z_callS (n := 1) [.int x1] [] dX4_arrow_1 tX4_isPlace kRX4_62 (by decide) pnX4_isPlace rfl rfl (Nat.le_of_ble_eq_true rfl) (by simp [Value.category]) (by simp [Value.category]) (uX4_isPlace x1 D) (fun r D1 q1 => z_bool q1 (fun c1 => z_if_eq (x := 1) 28 dX4_arrow_4 (by decide) (fun h => absurd h (by decide)) (fun _ => z_aload_n 0 dX4_arrow_7 rfl rfl <| z_iload_n 2 dX4_arrow_8 rfl rfl <| z_callV (n := 1) [.int x2] [] dX4_arrow_9 tX4_isName kRX4_69 (by decide) pnX4_isName rfl rfl rfl rfl (Nat.le_of_ble_eq_true rfl) (by simp [Value.category]) (by simp [Value.category]) (uX4_isName x2 D) (fun r D1 q1 => z_bool q1 (fun c2 => z_if_eq (x := 1) 28 dX4_arrow_12 (by decide) (fun h => absurd h (by decide)) (fun _ => z_aload_n 0 dX4_arrow_15 rfl rfl <| z_getr 9 52 dX4_arrow_16 fRX4_26 rfl rfl <| z_iconst (v := 5) dX4_arrow_19 (by decide) <| z_iload_n 1 dX4_arrow_20 rfl rfl <| z_imul dX4_arrow_21 <| z_iload_n 2 dX4_arrow_22 rfl rfl <| z_iadd dX4_arrow_23 <| z_iald dX4_arrow_24 rfl (h1 c1 c2) <| z_goto 29 dX4_arrow_25 (by decide) <| z_ret (ty := .int) dX4_arrow_29 rfl rfl (k1 c1 c2))) (fun c3 => z_if_eq (x := 0) 28 dX4_arrow_12 (by decide) (fun _ => z_iconst (v := (-1)) dX4_arrow_28 (by decide) <| z_ret (ty := .int) dX4_arrow_29 rfl rfl (k2 c1 c3)) (fun h => absurd h (by decide)))))) (fun c4 => z_if_eq (x := 0) 28 dX4_arrow_4 (by decide) (fun _ => z_iconst (v := (-1)) dX4_arrow_28 (by decide) <| z_ret (ty := .int) dX4_arrow_29 rfl rfl (k3 c4)) (fun h => absurd h (by decide))))
set_option maxRecDepth 20000 in
theorem bX4_draws_0 {x1 x2 x3 : Int32} {D : zM} {P : Option Int32 → zM → Prop}  (h1 : vp_in x2 10) (h2 : vp_in x1 10) (k1 : (D 53 x1.toNatClampNeg) ≤ ((D 53 x2.toNatClampNeg) + x3) → P none (z_up D 53 x1.toNatClampNeg (D 53 x1.toNatClampNeg))) (k2 : ¬ (D 53 x1.toNatClampNeg) ≤ ((D 53 x2.toNatClampNeg) + x3) → P none (z_up D 53 x1.toNatClampNeg ((D 53 x2.toNatClampNeg) + x3))) : z_Ok mX4_draws 0 [some (.ref 46), some (.int x1), some (.int x2), some (.int x3), none] [] D P := z_aload_n 0 dX4_draws_0 rfl rfl <| z_getr 10 53 dX4_draws_1 fRX4_29 rfl rfl <| z_iload_n 2 dX4_draws_4 rfl rfl <| z_iald dX4_draws_5 rfl h1 <| z_iload_n 3 dX4_draws_6 rfl rfl <| z_iadd dX4_draws_7 <| z_istore dX4_draws_8 rfl <| z_aload_n 0 dX4_draws_10 rfl rfl <| z_getr 10 53 dX4_draws_11 fRX4_29 rfl rfl <| z_iload_n 1 dX4_draws_14 rfl rfl <| z_iload dX4_draws_15 rfl <| z_aload_n 0 dX4_draws_17 rfl rfl <| z_getr 10 53 dX4_draws_18 fRX4_29 rfl rfl <| z_iload_n 1 dX4_draws_21 rfl rfl <| z_iald dX4_draws_22 rfl h2 <| z_icmp_ge (x := (D 53 x2.toNatClampNeg) + x3) (y := D 53 x1.toNatClampNeg) 31 dX4_draws_23 (by decide) (fun c1 => z_aload_n 0 dX4_draws_31 rfl rfl <| z_getr 10 53 dX4_draws_32 fRX4_29 rfl rfl <| z_iload_n 1 dX4_draws_35 rfl rfl <| z_iald dX4_draws_36 rfl h2 <| z_iast dX4_draws_37 rfl h2 <| z_vret dX4_draws_38 rfl (k1 c1)) (fun c2 => z_iload dX4_draws_26 rfl <| z_goto 37 dX4_draws_28 (by decide) <| z_iast dX4_draws_37 rfl h2 <| z_vret dX4_draws_38 rfl (k2 c2))
set_option maxRecDepth 20000 in
theorem bX4_findFar_0 {x1 : Int32} {D : zM} {P : Option Int32 → zM → Prop}  (k1 : z_Ok mX4_findFar 2 [some (.ref 46), some (.int x1), some (.int 0), none] [] D P) : z_Ok mX4_findFar 0 [some (.ref 46), some (.int x1), none, none] [] D P := z_iconst (v := 0) dX4_findFar_0 (by decide) <| z_istore_n 2 dX4_findFar_1 rfl rfl <| k1
set_option maxRecDepth 20000 in
theorem bX4_findFar_2 {x1 x2 : Int32} {D : zM} {P : Option Int32 → zM → Prop}  (h1 : ¬ 10 ≤ x2 → vp_in x1 5) (h2 : ¬ 10 ≤ x2 → ¬ x2 = (D 51 x1.toNatClampNeg) → vp_in x2 10) (h3 : ¬ 10 ≤ x2 → x2 = (D 51 x1.toNatClampNeg) → vp_in x2 10) (k1 : 10 ≤ x2 → z_Ok mX4_findFar 38 [some (.ref 46), some (.int x1), some (.int 1), none] [] D P) (k2 : ¬ 10 ≤ x2 → ¬ x2 = (D 51 x1.toNatClampNeg) → z_Ok mX4_findFar 2 [some (.ref 46), some (.int x1), some (.int (x2 + 1)), none] [] (z_up D 53 x2.toNatClampNeg 100000) P) (k3 : ¬ 10 ≤ x2 → x2 = (D 51 x1.toNatClampNeg) → z_Ok mX4_findFar 2 [some (.ref 46), some (.int x1), some (.int (x2 + 1)), none] [] (z_up D 53 x2.toNatClampNeg 0) P) : z_Ok mX4_findFar 2 [some (.ref 46), some (.int x1), some (.int x2), none] [] D P := z_iload_n 2 dX4_findFar_2 rfl rfl <| z_bipush (v := 10) dX4_findFar_3 (by decide) <| z_icmp_ge (x := x2) (y := 10) 36 dX4_findFar_5 (by decide) (fun c1 => z_iconst (v := 1) dX4_findFar_36 (by decide) <| z_istore_n 2 dX4_findFar_37 rfl rfl <| k1 c1) (fun c2 => z_aload_n 0 dX4_findFar_8 rfl rfl <| z_getr 10 53 dX4_findFar_9 fRX4_29 rfl rfl <| z_iload_n 2 dX4_findFar_12 rfl rfl <| z_iload_n 2 dX4_findFar_13 rfl rfl <| z_aload_n 0 dX4_findFar_14 rfl rfl <| z_getr 6 51 dX4_findFar_15 fRX4_23 rfl rfl <| z_iload_n 1 dX4_findFar_18 rfl rfl <| z_iald dX4_findFar_19 rfl (h1 c2) <| z_icmp_ne (x := x2) (y := D 51 x1.toNatClampNeg) 27 dX4_findFar_20 (by decide) (fun c3 => z_ldc (v := 100000) dX4_findFar_27 qRX4_82 <| z_iast dX4_findFar_29 rfl (h2 c2 c3) <| z_iinc (v := x2 + 1) dX4_findFar_30 rfl rfl rfl <| z_goto 2 dX4_findFar_33 (by decide) <| k2 c2 c3) (fun c4 => z_iconst (v := 0) dX4_findFar_23 (by decide) <| z_goto 29 dX4_findFar_24 (by decide) <| z_iast dX4_findFar_29 rfl (h3 c2 c4) <| z_iinc (v := x2 + 1) dX4_findFar_30 rfl rfl rfl <| z_goto 2 dX4_findFar_33 (by decide) <| k3 c2 c4))
set_option maxRecDepth 20000 in
theorem bX4_findFar_38 {x1 x2 : Int32} {o3 : Option Value} {D : zM} {P : Option Int32 → zM → Prop}  (k1 : 10 ≤ x2 → P none D) (k2 : ¬ 10 ≤ x2 → z_Ok mX4_findFar 46 [some (.ref 46), some (.int x1), some (.int x2), some (.int 0)] [] D P) : z_Ok mX4_findFar 38 [some (.ref 46), some (.int x1), some (.int x2), o3] [] D P := z_iload_n 2 dX4_findFar_38 rfl rfl <| z_bipush (v := 10) dX4_findFar_39 (by decide) <| z_icmp_ge (x := x2) (y := 10) 119 dX4_findFar_41 (by decide) (fun c1 => z_vret dX4_findFar_119 rfl (k1 c1)) (fun c2 => z_iconst (v := 0) dX4_findFar_44 (by decide) <| z_istore_n 3 dX4_findFar_45 rfl rfl <| k2 c2)
set_option maxRecDepth 20000 in
theorem bX4_findFar_46 {x1 x2 x3 : Int32} {D : zM} {P : Option Int32 → zM → Prop}  (h1 : ¬ (D 46 0) ≤ x3 → vp_in x3 14) (k1 : (D 46 0) ≤ x3 → z_Ok mX4_findFar 38 [some (.ref 46), some (.int x1), some (.int (x2 + 1)), some (.int x3)] [] D P) (k2 : ¬ (D 46 0) ≤ x3 → (D 50 x3.toNatClampNeg) = 0 → z_Ok mX4_findFar 46 [some (.ref 46), some (.int x1), some (.int x2), some (.int (x3 + 1))] [] D P) (k3 : ¬ (D 46 0) ≤ x3 → ¬ (D 50 x3.toNatClampNeg) = 0 → z_Ok mX4_findFar 82 [some (.ref 46), some (.int x1), some (.int x2), some (.int x3)] [.int (D 49 x3.toNatClampNeg), .int (D 47 x3.toNatClampNeg), .int (D 48 x3.toNatClampNeg), .ref 46] D P) : z_Ok mX4_findFar 46 [some (.ref 46), some (.int x1), some (.int x2), some (.int x3)] [] D P := z_iload_n 3 dX4_findFar_46 rfl rfl <| z_aload_n 0 dX4_findFar_47 rfl rfl <| z_geti 0 dX4_findFar_48 fRX4_51 rfl rfl <| z_icmp_ge (x := x3) (y := D 46 0) 113 dX4_findFar_51 (by decide) (fun c1 => z_iinc (v := x2 + 1) dX4_findFar_113 rfl rfl rfl <| z_goto 38 dX4_findFar_116 (by decide) <| k1 c1) (fun c2 => z_aload_n 0 dX4_findFar_54 rfl rfl <| z_getr 4 50 dX4_findFar_55 fRX4_19 rfl rfl <| z_iload_n 3 dX4_findFar_58 rfl rfl <| z_bald dX4_findFar_59 rfl (h1 c2) <| z_if_eq (x := D 50 x3.toNatClampNeg) 107 dX4_findFar_60 (by decide) (fun c3 => z_iinc (v := x3 + 1) dX4_findFar_107 rfl rfl rfl <| z_goto 46 dX4_findFar_110 (by decide) <| k2 c2 c3) (fun c4 => z_aload_n 0 dX4_findFar_63 rfl rfl <| z_aload_n 0 dX4_findFar_64 rfl rfl <| z_getr 2 48 dX4_findFar_65 fRX4_13 rfl rfl <| z_iload_n 3 dX4_findFar_68 rfl rfl <| z_iald dX4_findFar_69 rfl (h1 c2) <| z_aload_n 0 dX4_findFar_70 rfl rfl <| z_getr 1 47 dX4_findFar_71 fRX4_7 rfl rfl <| z_iload_n 3 dX4_findFar_74 rfl rfl <| z_iald dX4_findFar_75 rfl (h1 c2) <| z_aload_n 0 dX4_findFar_76 rfl rfl <| z_getr 3 49 dX4_findFar_77 fRX4_16 rfl rfl <| z_iload_n 3 dX4_findFar_80 rfl rfl <| z_iald dX4_findFar_81 rfl (h1 c2) <| k3 c2 c4))
set_option maxRecDepth 20000 in
theorem sX4_findFar_82 {lv : List (Option Value)} {v0 v1 v2 : Int32} {D : zM} {P : Option Int32 → zM → Prop} {Q : zM → Prop} (hC : z_Cv mX4_draws [.ref 46, .int v0, .int v1, .int v2] D Q) (kk : ∀ D1, Q D1 → z_Ok mX4_findFar 85 lv [] D1 P) : z_Ok mX4_findFar 82 lv [.int v2, .int v1, .int v0, .ref 46] D P := z_callV (n := 3) [.int v0, .int v1, .int v2] [] dX4_findFar_82 tX4_draws kRX4_83 (by decide) pnX4_draws rfl rfl rfl rfl (Nat.le_of_ble_eq_true rfl) (by simp [Value.category]) (by simp [Value.category]) hC (fun r D1 q1 => z_void q1 (fun q => kk D1 q))
set_option maxRecDepth 20000 in
theorem bX4_findFar_85 {x1 x2 x3 : Int32} {D : zM} {P : Option Int32 → zM → Prop}  (h1 : vp_in x3 14) (k1 : z_Ok mX4_findFar 104 [some (.ref 46), some (.int x1), some (.int x2), some (.int x3)] [.int (D 49 x3.toNatClampNeg), .int (D 48 x3.toNatClampNeg), .int (D 47 x3.toNatClampNeg), .ref 46] D P) : z_Ok mX4_findFar 85 [some (.ref 46), some (.int x1), some (.int x2), some (.int x3)] [] D P := z_aload_n 0 dX4_findFar_85 rfl rfl <| z_aload_n 0 dX4_findFar_86 rfl rfl <| z_getr 1 47 dX4_findFar_87 fRX4_7 rfl rfl <| z_iload_n 3 dX4_findFar_90 rfl rfl <| z_iald dX4_findFar_91 rfl h1 <| z_aload_n 0 dX4_findFar_92 rfl rfl <| z_getr 2 48 dX4_findFar_93 fRX4_13 rfl rfl <| z_iload_n 3 dX4_findFar_96 rfl rfl <| z_iald dX4_findFar_97 rfl h1 <| z_aload_n 0 dX4_findFar_98 rfl rfl <| z_getr 3 49 dX4_findFar_99 fRX4_16 rfl rfl <| z_iload_n 3 dX4_findFar_102 rfl rfl <| z_iald dX4_findFar_103 rfl h1 <| k1
set_option maxRecDepth 20000 in
theorem sX4_findFar_104 {lv : List (Option Value)} {v0 v1 v2 : Int32} {D : zM} {P : Option Int32 → zM → Prop} {Q : zM → Prop} (hC : z_Cv mX4_draws [.ref 46, .int v0, .int v1, .int v2] D Q) (kk : ∀ D1, Q D1 → z_Ok mX4_findFar 107 lv [] D1 P) : z_Ok mX4_findFar 104 lv [.int v2, .int v1, .int v0, .ref 46] D P := z_callV (n := 3) [.int v0, .int v1, .int v2] [] dX4_findFar_104 tX4_draws kRX4_83 (by decide) pnX4_draws rfl rfl rfl rfl (Nat.le_of_ble_eq_true rfl) (by simp [Value.category]) (by simp [Value.category]) hC (fun r D1 q1 => z_void q1 (fun q => kk D1 q))
set_option maxRecDepth 20000 in
theorem bX4_findFar_107 {x1 x2 x3 : Int32} {D : zM} {P : Option Int32 → zM → Prop}  (k1 : z_Ok mX4_findFar 46 [some (.ref 46), some (.int x1), some (.int x2), some (.int (x3 + 1))] [] D P) : z_Ok mX4_findFar 107 [some (.ref 46), some (.int x1), some (.int x2), some (.int x3)] [] D P := z_iinc (v := x3 + 1) dX4_findFar_107 rfl rfl rfl <| z_goto 46 dX4_findFar_110 (by decide) <| k1
set_option maxRecDepth 20000 in
theorem bX4_bestAt_0 {x1 : Int32} {D : zM} {P : Option Int32 → zM → Prop}  (h1 : vp_in x1 10) (k1 : (D 53 x1.toNatClampNeg) = 0 → P (some (-9)) D) (k2 : ¬ (D 53 x1.toNatClampNeg) = 0 → (D 53 x1.toNatClampNeg) < 100000 → z_Ok mX4_bestAt 25 [some (.ref 46), some (.int x1), some (.int 0), none] [] D P) (k3 : ¬ (D 53 x1.toNatClampNeg) = 0 → ¬ (D 53 x1.toNatClampNeg) < 100000 → P (some (-9)) D) : z_Ok mX4_bestAt 0 [some (.ref 46), some (.int x1), none, none] [] D P := z_aload_n 0 dX4_bestAt_0 rfl rfl <| z_getr 10 53 dX4_bestAt_1 fRX4_29 rfl rfl <| z_iload_n 1 dX4_bestAt_4 rfl rfl <| z_iald dX4_bestAt_5 rfl h1 <| z_if_eq (x := D 53 x1.toNatClampNeg) 20 dX4_bestAt_6 (by decide) (fun c1 => z_bipush (v := (-9)) dX4_bestAt_20 (by decide) <| z_ret (ty := .int) dX4_bestAt_22 rfl rfl (k1 c1)) (fun c2 => z_aload_n 0 dX4_bestAt_9 rfl rfl <| z_getr 10 53 dX4_bestAt_10 fRX4_29 rfl rfl <| z_iload_n 1 dX4_bestAt_13 rfl rfl <| z_iald dX4_bestAt_14 rfl h1 <| z_ldc (v := 100000) dX4_bestAt_15 qRX4_82 <| z_icmp_lt (x := D 53 x1.toNatClampNeg) (y := 100000) 23 dX4_bestAt_17 (by decide) (fun c3 => z_iconst (v := 0) dX4_bestAt_23 (by decide) <| z_istore_n 2 dX4_bestAt_24 rfl rfl <| k2 c2 c3) (fun c4 => z_bipush (v := (-9)) dX4_bestAt_20 (by decide) <| z_ret (ty := .int) dX4_bestAt_22 rfl rfl (k3 c2 c4)))
set_option maxRecDepth 20000 in
theorem bX4_bestAt_25 {x1 x2 : Int32} {o3 : Option Value} {D : zM} {P : Option Int32 → zM → Prop}  (k1 : 10 ≤ x2 → P (some (-9)) D) (k2 : ¬ 10 ≤ x2 → ¬ x2 = x1 → z_Ok mX4_bestAt 44 [some (.ref 46), some (.int x1), some (.int x2), o3] [.int x2, .int x1, .ref 46] D P) (k3 : ¬ 10 ≤ x2 → x2 = x1 → z_Ok mX4_bestAt 25 [some (.ref 46), some (.int x1), some (.int (x2 + 1)), some (.int (-9))] [] D P) : z_Ok mX4_bestAt 25 [some (.ref 46), some (.int x1), some (.int x2), o3] [] D P := z_iload_n 2 dX4_bestAt_25 rfl rfl <| z_bipush (v := 10) dX4_bestAt_26 (by decide) <| z_icmp_ge (x := x2) (y := 10) 84 dX4_bestAt_28 (by decide) (fun c1 => z_bipush (v := (-9)) dX4_bestAt_84 (by decide) <| z_ret (ty := .int) dX4_bestAt_86 rfl rfl (k1 c1)) (fun c2 => z_iload_n 2 dX4_bestAt_31 rfl rfl <| z_iload_n 1 dX4_bestAt_32 rfl rfl <| z_icmp_ne (x := x2) (y := x1) 41 dX4_bestAt_33 (by decide) (fun c3 => z_aload_n 0 dX4_bestAt_41 rfl rfl <| z_iload_n 1 dX4_bestAt_42 rfl rfl <| z_iload_n 2 dX4_bestAt_43 rfl rfl <| k2 c2 c3) (fun c4 => z_bipush (v := (-9)) dX4_bestAt_36 (by decide) <| z_goto 47 dX4_bestAt_38 (by decide) <| z_istore_n 3 dX4_bestAt_47 rfl rfl <| z_iload_n 3 dX4_bestAt_48 rfl rfl <| z_bipush (v := (-9)) dX4_bestAt_49 (by decide) <| z_icmp_eq (x := (-9)) (y := (-9)) 78 dX4_bestAt_51 (by decide) (fun _ => z_iinc (v := x2 + 1) dX4_bestAt_78 rfl rfl rfl <| z_goto 25 dX4_bestAt_81 (by decide) <| k3 c2 c4) (fun h => absurd h (by decide))))
set_option maxRecDepth 20000 in
theorem sX4_bestAt_44 {lv : List (Option Value)} {v0 v1 : Int32} {D : zM} {P : Option Int32 → zM → Prop} {Q : Int32 → zM → Prop} (hC : z_Ci mX4_openBetween [.ref 46, .int v0, .int v1] D Q) (kk : ∀ r D1, Q r D1 → z_Ok mX4_bestAt 47 lv [.int r] D1 P) : z_Ok mX4_bestAt 44 lv [.int v1, .int v0, .ref 46] D P := z_callV (n := 2) [.int v0, .int v1] [] dX4_bestAt_44 tX4_openBetween kRX4_87 (by decide) pnX4_openBetween rfl rfl rfl rfl (Nat.le_of_ble_eq_true rfl) (by simp [Value.category]) (by simp [Value.category]) hC (fun r D1 q1 => z_intr q1 (fun r q => kk r D1 q))
set_option maxRecDepth 20000 in
theorem bX4_bestAt_47 {x1 x2 y0 : Int32} {o3 : Option Value} {D : zM} {P : Option Int32 → zM → Prop}  (h1 : ¬ y0 = (-9) → vp_in x2 10) (h2 : ¬ y0 = (-9) → vp_in y0 14) (h3 : ¬ y0 = (-9) → vp_in x1 10) (k1 : y0 = (-9) → z_Ok mX4_bestAt 25 [some (.ref 46), some (.int x1), some (.int (x2 + 1)), some (.int y0)] [] D P) (k2 : ¬ y0 = (-9) → ¬ ((D 53 x2.toNatClampNeg) + (D 49 y0.toNatClampNeg)) = (D 53 x1.toNatClampNeg) → z_Ok mX4_bestAt 25 [some (.ref 46), some (.int x1), some (.int (x2 + 1)), some (.int y0)] [] D P) (k3 : ¬ y0 = (-9) → ((D 53 x2.toNatClampNeg) + (D 49 y0.toNatClampNeg)) = (D 53 x1.toNatClampNeg) → P (some x2) D) : z_Ok mX4_bestAt 47 [some (.ref 46), some (.int x1), some (.int x2), o3] [.int y0] D P := z_istore_n 3 dX4_bestAt_47 rfl rfl <| z_iload_n 3 dX4_bestAt_48 rfl rfl <| z_bipush (v := (-9)) dX4_bestAt_49 (by decide) <| z_icmp_eq (x := y0) (y := (-9)) 78 dX4_bestAt_51 (by decide) (fun c1 => z_iinc (v := x2 + 1) dX4_bestAt_78 rfl rfl rfl <| z_goto 25 dX4_bestAt_81 (by decide) <| k1 c1) (fun c2 => z_aload_n 0 dX4_bestAt_54 rfl rfl <| z_getr 10 53 dX4_bestAt_55 fRX4_29 rfl rfl <| z_iload_n 2 dX4_bestAt_58 rfl rfl <| z_iald dX4_bestAt_59 rfl (h1 c2) <| z_aload_n 0 dX4_bestAt_60 rfl rfl <| z_getr 3 49 dX4_bestAt_61 fRX4_16 rfl rfl <| z_iload_n 3 dX4_bestAt_64 rfl rfl <| z_iald dX4_bestAt_65 rfl (h2 c2) <| z_iadd dX4_bestAt_66 <| z_aload_n 0 dX4_bestAt_67 rfl rfl <| z_getr 10 53 dX4_bestAt_68 fRX4_29 rfl rfl <| z_iload_n 1 dX4_bestAt_71 rfl rfl <| z_iald dX4_bestAt_72 rfl (h3 c2) <| z_icmp_ne (x := (D 53 x2.toNatClampNeg) + (D 49 y0.toNatClampNeg)) (y := D 53 x1.toNatClampNeg) 78 dX4_bestAt_73 (by decide) (fun c3 => z_iinc (v := x2 + 1) dX4_bestAt_78 rfl rfl rfl <| z_goto 25 dX4_bestAt_81 (by decide) <| k2 c2 c3) (fun c4 => z_iload_n 2 dX4_bestAt_76 rfl rfl <| z_ret (ty := .int) dX4_bestAt_77 rfl rfl (k3 c2 c4)))
set_option maxRecDepth 20000 in
theorem bX4_far_0 {x1 x2 x3 : Int32} {D : zM} {P : Option Int32 → zM → Prop}  (k1 : vp_in x1 10 → z_wi x2 0 (D 46 5 - 1) → z_wi x3 0 1 → z_Ok mX4_far 31 [some (.ref 46), some (.int x1), some (.int x2), some (.int x3)] [.int x2, .ref 46] D P) (k2 : vp_in x1 10 → z_wi x2 0 (D 46 5 - 1) → ¬ z_wi x3 0 1 → P (some (-2)) D) (k3 : vp_in x1 10 → ¬ z_wi x2 0 (D 46 5 - 1) → P (some (-1)) D) (k4 : ¬ vp_in x1 10 → P (some (-1)) D) : z_Ok mX4_far 0 [some (.ref 46), some (.int x1), some (.int x2), some (.int x3)] [] D P := z_iload_n 1 dX4_far_0 rfl rfl <| z_callS (n := 1) [.int x1] [] dX4_far_1 tX4_isPlace kRX4_62 (by decide) pnX4_isPlace rfl rfl (Nat.le_of_ble_eq_true rfl) (by simp [Value.category]) (by simp [Value.category]) (uX4_isPlace x1 D) (fun r D1 q1 => z_bool q1 (fun c1 => z_if_eq (x := 1) 15 dX4_far_4 (by decide) (fun h => absurd h (by decide)) (fun _ => z_aload_n 0 dX4_far_7 rfl rfl <| z_iload_n 2 dX4_far_8 rfl rfl <| z_callV (n := 1) [.int x2] [] dX4_far_9 tX4_isName kRX4_69 (by decide) pnX4_isName rfl rfl rfl rfl (Nat.le_of_ble_eq_true rfl) (by simp [Value.category]) (by simp [Value.category]) (uX4_isName x2 D) (fun r D1 q1 => z_bool q1 (fun c2 => z_if_ne (x := 1) 17 dX4_far_12 (by decide) (fun _ => z_iload_n 3 dX4_far_17 rfl rfl <| z_iconst (v := 0) dX4_far_18 (by decide) <| z_iconst (v := 1) dX4_far_19 (by decide) <| z_callS (n := 3) [.int x3, .int 0, .int 1] [] dX4_far_20 tX4_within kRX4_47 (by decide) pnX4_within rfl rfl (Nat.le_of_ble_eq_true rfl) (by simp [Value.category]) (by simp [Value.category]) (uX4_within x3 0 1 D) (fun r D1 q1 => z_bool q1 (fun c3 => z_if_ne (x := 1) 29 dX4_far_23 (by decide) (fun _ => z_aload_n 0 dX4_far_29 rfl rfl <| z_iload_n 2 dX4_far_30 rfl rfl <| k1 c1 c2 c3) (fun h => absurd h (by decide))) (fun c4 => z_if_ne (x := 0) 29 dX4_far_23 (by decide) (fun h => absurd h (by decide)) (fun _ => z_bipush (v := (-2)) dX4_far_26 (by decide) <| z_ret (ty := .int) dX4_far_28 rfl rfl (k2 c1 c2 c4))))) (fun h => absurd h (by decide))) (fun c5 => z_if_ne (x := 0) 17 dX4_far_12 (by decide) (fun h => absurd h (by decide)) (fun _ => z_iconst (v := (-1)) dX4_far_15 (by decide) <| z_ret (ty := .int) dX4_far_16 rfl rfl (k3 c1 c5)))))) (fun c6 => z_if_eq (x := 0) 15 dX4_far_4 (by decide) (fun _ => z_iconst (v := (-1)) dX4_far_15 (by decide) <| z_ret (ty := .int) dX4_far_16 rfl rfl (k4 c6)) (fun h => absurd h (by decide))))
set_option maxRecDepth 20000 in
theorem sX4_far_31 {lv : List (Option Value)} {v0 : Int32} {D : zM} {P : Option Int32 → zM → Prop} {Q : zM → Prop} (hC : z_Cv mX4_findFar [.ref 46, .int v0] D Q) (kk : ∀ D1, Q D1 → z_Ok mX4_far 34 lv [] D1 P) : z_Ok mX4_far 31 lv [.int v0, .ref 46] D P := z_callV (n := 1) [.int v0] [] dX4_far_31 tX4_findFar kRX4_90 (by decide) pnX4_findFar rfl rfl rfl rfl (Nat.le_of_ble_eq_true rfl) (by simp [Value.category]) (by simp [Value.category]) hC (fun r D1 q1 => z_void q1 (fun q => kk D1 q))
set_option maxRecDepth 20000 in
theorem bX4_far_34 {x1 x2 x3 : Int32} {D : zM} {P : Option Int32 → zM → Prop}  (h1 : ¬ x3 = 1 → vp_in x1 10) (k1 : ¬ x3 = 1 → 100000 ≤ (D 53 x1.toNatClampNeg) → P (some (-9)) D) (k2 : ¬ x3 = 1 → ¬ 100000 ≤ (D 53 x1.toNatClampNeg) → P (some (D 53 x1.toNatClampNeg)) D) (k3 : x3 = 1 → z_Ok mX4_far 41 [some (.ref 46), some (.int x1), some (.int x2), some (.int x3)] [.int x1, .ref 46] D P) : z_Ok mX4_far 34 [some (.ref 46), some (.int x1), some (.int x2), some (.int x3)] [] D P := z_iload_n 3 dX4_far_34 rfl rfl <| z_iconst (v := 1) dX4_far_35 (by decide) <| z_icmp_ne (x := x3) (y := 1) 45 dX4_far_36 (by decide) (fun c1 => z_aload_n 0 dX4_far_45 rfl rfl <| z_getr 10 53 dX4_far_46 fRX4_29 rfl rfl <| z_iload_n 1 dX4_far_49 rfl rfl <| z_iald dX4_far_50 rfl (h1 c1) <| z_ldc (v := 100000) dX4_far_51 qRX4_82 <| z_icmp_ge (x := D 53 x1.toNatClampNeg) (y := 100000) 65 dX4_far_53 (by decide) (fun c2 => z_bipush (v := (-9)) dX4_far_65 (by decide) <| z_ret (ty := .int) dX4_far_67 rfl rfl (k1 c1 c2)) (fun c3 => z_aload_n 0 dX4_far_56 rfl rfl <| z_getr 10 53 dX4_far_57 fRX4_29 rfl rfl <| z_iload_n 1 dX4_far_60 rfl rfl <| z_iald dX4_far_61 rfl (h1 c1) <| z_goto 67 dX4_far_62 (by decide) <| z_ret (ty := .int) dX4_far_67 rfl rfl (k2 c1 c3))) (fun c4 => z_aload_n 0 dX4_far_39 rfl rfl <| z_iload_n 1 dX4_far_40 rfl rfl <| k3 c4)
set_option maxRecDepth 20000 in
theorem sX4_far_41 {lv : List (Option Value)} {v0 : Int32} {D : zM} {P : Option Int32 → zM → Prop} {Q : Int32 → zM → Prop} (hC : z_Ci mX4_bestAt [.ref 46, .int v0] D Q) (kk : ∀ r D1, Q r D1 → z_Ok mX4_far 44 lv [.int r] D1 P) : z_Ok mX4_far 41 lv [.int v0, .ref 46] D P := z_callV (n := 1) [.int v0] [] dX4_far_41 tX4_bestAt kRX4_94 (by decide) pnX4_bestAt rfl rfl rfl rfl (Nat.le_of_ble_eq_true rfl) (by simp [Value.category]) (by simp [Value.category]) hC (fun r D1 q1 => z_intr q1 (fun r q => kk r D1 q))
set_option maxRecDepth 20000 in
theorem bX4_far_44 {x1 x2 x3 y0 : Int32} {D : zM} {P : Option Int32 → zM → Prop}  (k1 : P (some y0) D) : z_Ok mX4_far 44 [some (.ref 46), some (.int x1), some (.int x2), some (.int x3)] [.int y0] D P := z_ret (ty := .int) dX4_far_44 rfl rfl (k1)
set_option maxRecDepth 20000 in
theorem bX4_from_0 {x1 : Int32} {D : zM} {P : Option Int32 → zM → Prop}  (k1 : vp_in x1 10 → z_Ok mX4_from 13 [some (.ref 46), some (.int x1), some (.int 0), some (.int 0)] [] D P) (k2 : ¬ vp_in x1 10 → P (some (-1)) D) : z_Ok mX4_from 0 [some (.ref 46), some (.int x1), none, none] [] D P := z_iload_n 1 dX4_from_0 rfl rfl <| z_callS (n := 1) [.int x1] [] dX4_from_1 tX4_isPlace kRX4_62 (by decide) pnX4_isPlace rfl rfl (Nat.le_of_ble_eq_true rfl) (by simp [Value.category]) (by simp [Value.category]) (uX4_isPlace x1 D) (fun r D1 q1 => z_bool q1 (fun c1 => z_if_ne (x := 1) 9 dX4_from_4 (by decide) (fun _ => z_iconst (v := 0) dX4_from_9 (by decide) <| z_istore_n 2 dX4_from_10 rfl rfl <| z_iconst (v := 0) dX4_from_11 (by decide) <| z_istore_n 3 dX4_from_12 rfl rfl <| k1 c1) (fun h => absurd h (by decide))) (fun c2 => z_if_ne (x := 0) 9 dX4_from_4 (by decide) (fun h => absurd h (by decide)) (fun _ => z_iconst (v := (-1)) dX4_from_7 (by decide) <| z_ret (ty := .int) dX4_from_8 rfl rfl (k2 c2))))
set_option maxRecDepth 20000 in
theorem bX4_from_13 {x1 x2 x3 : Int32} {D : zM} {P : Option Int32 → zM → Prop}  (h1 : ¬ (D 46 0) ≤ x3 → vp_in x3 14) (k1 : (D 46 0) ≤ x3 → P (some x2) D) (k2 : ¬ (D 46 0) ≤ x3 → (D 50 x3.toNatClampNeg) = 0 → z_Ok mX4_from 13 [some (.ref 46), some (.int x1), some (.int ((x2 ||| 0) ||| 0)), some (.int (x3 + 1))] [] D P) (k3 : ¬ (D 46 0) ≤ x3 → ¬ (D 50 x3.toNatClampNeg) = 0 → ¬ (D 47 x3.toNatClampNeg) = x1 → ¬ (D 48 x3.toNatClampNeg) = x1 → z_Ok mX4_from 13 [some (.ref 46), some (.int x1), some (.int ((x2 ||| 0) ||| 0)), some (.int (x3 + 1))] [] D P) (k4 : ¬ (D 46 0) ≤ x3 → ¬ (D 50 x3.toNatClampNeg) = 0 → ¬ (D 47 x3.toNatClampNeg) = x1 → (D 48 x3.toNatClampNeg) = x1 → z_Ok mX4_from 13 [some (.ref 46), some (.int x1), some (.int ((x2 ||| 0) ||| ((1 : Int32) <<< ((D 47 x3.toNatClampNeg) &&& 31)))), some (.int (x3 + 1))] [] D P) (k5 : ¬ (D 46 0) ≤ x3 → ¬ (D 50 x3.toNatClampNeg) = 0 → (D 47 x3.toNatClampNeg) = x1 → ¬ (D 48 x3.toNatClampNeg) = x1 → z_Ok mX4_from 13 [some (.ref 46), some (.int x1), some (.int ((x2 ||| ((1 : Int32) <<< ((D 48 x3.toNatClampNeg) &&& 31))) ||| 0)), some (.int (x3 + 1))] [] D P) (k6 : ¬ (D 46 0) ≤ x3 → ¬ (D 50 x3.toNatClampNeg) = 0 → (D 47 x3.toNatClampNeg) = x1 → (D 48 x3.toNatClampNeg) = x1 → z_Ok mX4_from 13 [some (.ref 46), some (.int x1), some (.int ((x2 ||| ((1 : Int32) <<< ((D 48 x3.toNatClampNeg) &&& 31))) ||| ((1 : Int32) <<< ((D 47 x3.toNatClampNeg) &&& 31)))), some (.int (x3 + 1))] [] D P) : z_Ok mX4_from 13 [some (.ref 46), some (.int x1), some (.int x2), some (.int x3)] [] D P := z_iload_n 3 dX4_from_13 rfl rfl <| z_aload_n 0 dX4_from_14 rfl rfl <| z_geti 0 dX4_from_15 fRX4_51 rfl rfl <| z_icmp_ge (x := x3) (y := D 46 0) 95 dX4_from_18 (by decide) (fun c1 => z_iload_n 2 dX4_from_95 rfl rfl <| z_ret (ty := .int) dX4_from_96 rfl rfl (k1 c1)) (fun c2 => z_iload_n 2 dX4_from_21 rfl rfl <| z_aload_n 0 dX4_from_22 rfl rfl <| z_getr 4 50 dX4_from_23 fRX4_19 rfl rfl <| z_iload_n 3 dX4_from_26 rfl rfl <| z_bald dX4_from_27 rfl (h1 c2) <| z_if_eq (x := D 50 x3.toNatClampNeg) 52 dX4_from_28 (by decide) (fun c3 => z_iconst (v := 0) dX4_from_52 (by decide) <| z_ior dX4_from_53 <| z_istore_n 2 dX4_from_54 rfl rfl <| z_iload_n 2 dX4_from_55 rfl rfl <| z_aload_n 0 dX4_from_56 rfl rfl <| z_getr 4 50 dX4_from_57 fRX4_19 rfl rfl <| z_iload_n 3 dX4_from_60 rfl rfl <| z_bald dX4_from_61 rfl (h1 c2) <| z_if_eq (x := D 50 x3.toNatClampNeg) 86 dX4_from_62 (by decide) (fun _ => z_iconst (v := 0) dX4_from_86 (by decide) <| z_ior dX4_from_87 <| z_istore_n 2 dX4_from_88 rfl rfl <| z_iinc (v := x3 + 1) dX4_from_89 rfl rfl rfl <| z_goto 13 dX4_from_92 (by decide) <| k2 c2 c3) (fun h => absurd c3 h)) (fun c4 => z_aload_n 0 dX4_from_31 rfl rfl <| z_getr 1 47 dX4_from_32 fRX4_7 rfl rfl <| z_iload_n 3 dX4_from_35 rfl rfl <| z_iald dX4_from_36 rfl (h1 c2) <| z_iload_n 1 dX4_from_37 rfl rfl <| z_icmp_ne (x := D 47 x3.toNatClampNeg) (y := x1) 52 dX4_from_38 (by decide) (fun c5 => z_iconst (v := 0) dX4_from_52 (by decide) <| z_ior dX4_from_53 <| z_istore_n 2 dX4_from_54 rfl rfl <| z_iload_n 2 dX4_from_55 rfl rfl <| z_aload_n 0 dX4_from_56 rfl rfl <| z_getr 4 50 dX4_from_57 fRX4_19 rfl rfl <| z_iload_n 3 dX4_from_60 rfl rfl <| z_bald dX4_from_61 rfl (h1 c2) <| z_if_eq (x := D 50 x3.toNatClampNeg) 86 dX4_from_62 (by decide) (fun h => absurd h c4) (fun _ => z_aload_n 0 dX4_from_65 rfl rfl <| z_getr 2 48 dX4_from_66 fRX4_13 rfl rfl <| z_iload_n 3 dX4_from_69 rfl rfl <| z_iald dX4_from_70 rfl (h1 c2) <| z_iload_n 1 dX4_from_71 rfl rfl <| z_icmp_ne (x := D 48 x3.toNatClampNeg) (y := x1) 86 dX4_from_72 (by decide) (fun c6 => z_iconst (v := 0) dX4_from_86 (by decide) <| z_ior dX4_from_87 <| z_istore_n 2 dX4_from_88 rfl rfl <| z_iinc (v := x3 + 1) dX4_from_89 rfl rfl rfl <| z_goto 13 dX4_from_92 (by decide) <| k3 c2 c4 c5 c6) (fun c7 => z_iconst (v := 1) dX4_from_75 (by decide) <| z_aload_n 0 dX4_from_76 rfl rfl <| z_getr 1 47 dX4_from_77 fRX4_7 rfl rfl <| z_iload_n 3 dX4_from_80 rfl rfl <| z_iald dX4_from_81 rfl (h1 c2) <| z_ishl dX4_from_82 <| z_goto 87 dX4_from_83 (by decide) <| z_ior dX4_from_87 <| z_istore_n 2 dX4_from_88 rfl rfl <| z_iinc (v := x3 + 1) dX4_from_89 rfl rfl rfl <| z_goto 13 dX4_from_92 (by decide) <| k4 c2 c4 c5 c7))) (fun c8 => z_iconst (v := 1) dX4_from_41 (by decide) <| z_aload_n 0 dX4_from_42 rfl rfl <| z_getr 2 48 dX4_from_43 fRX4_13 rfl rfl <| z_iload_n 3 dX4_from_46 rfl rfl <| z_iald dX4_from_47 rfl (h1 c2) <| z_ishl dX4_from_48 <| z_goto 53 dX4_from_49 (by decide) <| z_ior dX4_from_53 <| z_istore_n 2 dX4_from_54 rfl rfl <| z_iload_n 2 dX4_from_55 rfl rfl <| z_aload_n 0 dX4_from_56 rfl rfl <| z_getr 4 50 dX4_from_57 fRX4_19 rfl rfl <| z_iload_n 3 dX4_from_60 rfl rfl <| z_bald dX4_from_61 rfl (h1 c2) <| z_if_eq (x := D 50 x3.toNatClampNeg) 86 dX4_from_62 (by decide) (fun h => absurd h c4) (fun _ => z_aload_n 0 dX4_from_65 rfl rfl <| z_getr 2 48 dX4_from_66 fRX4_13 rfl rfl <| z_iload_n 3 dX4_from_69 rfl rfl <| z_iald dX4_from_70 rfl (h1 c2) <| z_iload_n 1 dX4_from_71 rfl rfl <| z_icmp_ne (x := D 48 x3.toNatClampNeg) (y := x1) 86 dX4_from_72 (by decide) (fun c9 => z_iconst (v := 0) dX4_from_86 (by decide) <| z_ior dX4_from_87 <| z_istore_n 2 dX4_from_88 rfl rfl <| z_iinc (v := x3 + 1) dX4_from_89 rfl rfl rfl <| z_goto 13 dX4_from_92 (by decide) <| k5 c2 c4 c8 c9) (fun c10 => z_iconst (v := 1) dX4_from_75 (by decide) <| z_aload_n 0 dX4_from_76 rfl rfl <| z_getr 1 47 dX4_from_77 fRX4_7 rfl rfl <| z_iload_n 3 dX4_from_80 rfl rfl <| z_iald dX4_from_81 rfl (h1 c2) <| z_ishl dX4_from_82 <| z_goto 87 dX4_from_83 (by decide) <| z_ior dX4_from_87 <| z_istore_n 2 dX4_from_88 rfl rfl <| z_iinc (v := x3 + 1) dX4_from_89 rfl rfl rfl <| z_goto 13 dX4_from_92 (by decide) <| k6 c2 c4 c8 c10)))))
set_option maxRecDepth 20000 in
theorem bX4_laysArrows_0 {x1 : Int32} {D : zM} {P : Option Int32 → zM → Prop}  (k1 : z_Ok mX4_laysArrows 2 [some (.ref 46), some (.int x1), some (.int 0)] [] D P) : z_Ok mX4_laysArrows 0 [some (.ref 46), some (.int x1), none] [] D P := z_iconst (v := 0) dX4_laysArrows_0 (by decide) <| z_istore_n 2 dX4_laysArrows_1 rfl rfl <| k1
set_option maxRecDepth 20000 in
theorem bX4_laysArrows_2 {x1 x2 : Int32} {D : zM} {P : Option Int32 → zM → Prop}  (h1 : ¬ 10 ≤ x2 → vp_in ((5 * x2) + x1) 50) (h2 : ¬ 10 ≤ x2 → vp_in x2 10) (k1 : 10 ≤ x2 → P none D) (k2 : ¬ 10 ≤ x2 → z_Ok mX4_laysArrows 2 [some (.ref 46), some (.int x1), some (.int (x2 + 1))] [] (z_up D 54 x2.toNatClampNeg (D 52 ((5 * x2) + x1).toNatClampNeg)) P) : z_Ok mX4_laysArrows 2 [some (.ref 46), some (.int x1), some (.int x2)] [] D P := z_iload_n 2 dX4_laysArrows_2 rfl rfl <| z_bipush (v := 10) dX4_laysArrows_3 (by decide) <| z_icmp_ge (x := x2) (y := 10) 30 dX4_laysArrows_5 (by decide) (fun c1 => z_vret dX4_laysArrows_30 rfl (k1 c1)) (fun c2 => z_aload_n 0 dX4_laysArrows_8 rfl rfl <| z_getr 11 54 dX4_laysArrows_9 fRX4_32 rfl rfl <| z_iload_n 2 dX4_laysArrows_12 rfl rfl <| z_aload_n 0 dX4_laysArrows_13 rfl rfl <| z_getr 9 52 dX4_laysArrows_14 fRX4_26 rfl rfl <| z_iconst (v := 5) dX4_laysArrows_17 (by decide) <| z_iload_n 2 dX4_laysArrows_18 rfl rfl <| z_imul dX4_laysArrows_19 <| z_iload_n 1 dX4_laysArrows_20 rfl rfl <| z_iadd dX4_laysArrows_21 <| z_iald dX4_laysArrows_22 rfl (h1 c2) <| z_iast dX4_laysArrows_23 rfl (h2 c2) <| z_iinc (v := x2 + 1) dX4_laysArrows_24 rfl rfl rfl <| z_goto 2 dX4_laysArrows_27 (by decide) <| k2 c2)
set_option maxRecDepth 20000 in
theorem bX4_touches_0 {x1 x2 : Int32} {D : zM} {P : Option Int32 → zM → Prop}  (h1 : vp_in x1 14) (k1 : (D 50 x1.toNatClampNeg) = 0 → P (some 0) D) (k2 : ¬ (D 50 x1.toNatClampNeg) = 0 → (D 47 x1.toNatClampNeg) = x2 → P (some 1) D) (k3 : ¬ (D 50 x1.toNatClampNeg) = 0 → ¬ (D 47 x1.toNatClampNeg) = x2 → ¬ (D 48 x1.toNatClampNeg) = x2 → P (some 0) D) (k4 : ¬ (D 50 x1.toNatClampNeg) = 0 → ¬ (D 47 x1.toNatClampNeg) = x2 → (D 48 x1.toNatClampNeg) = x2 → P (some 1) D) : z_Ok mX4_touches 0 [some (.ref 46), some (.int x1), some (.int x2)] [] D P := z_aload_n 0 dX4_touches_0 rfl rfl <| z_getr 4 50 dX4_touches_1 fRX4_19 rfl rfl <| z_iload_n 1 dX4_touches_4 rfl rfl <| z_bald dX4_touches_5 rfl h1 <| z_if_eq (x := D 50 x1.toNatClampNeg) 33 dX4_touches_6 (by decide) (fun c1 => z_iconst (v := 0) dX4_touches_33 (by decide) <| z_ret (ty := .boolean) dX4_touches_34 rfl rfl (k1 c1)) (fun c2 => z_aload_n 0 dX4_touches_9 rfl rfl <| z_getr 1 47 dX4_touches_10 fRX4_7 rfl rfl <| z_iload_n 1 dX4_touches_13 rfl rfl <| z_iald dX4_touches_14 rfl h1 <| z_iload_n 2 dX4_touches_15 rfl rfl <| z_icmp_eq (x := D 47 x1.toNatClampNeg) (y := x2) 29 dX4_touches_16 (by decide) (fun c3 => z_iconst (v := 1) dX4_touches_29 (by decide) <| z_goto 34 dX4_touches_30 (by decide) <| z_ret (ty := .boolean) dX4_touches_34 rfl rfl (k2 c2 c3)) (fun c4 => z_aload_n 0 dX4_touches_19 rfl rfl <| z_getr 2 48 dX4_touches_20 fRX4_13 rfl rfl <| z_iload_n 1 dX4_touches_23 rfl rfl <| z_iald dX4_touches_24 rfl h1 <| z_iload_n 2 dX4_touches_25 rfl rfl <| z_icmp_ne (x := D 48 x1.toNatClampNeg) (y := x2) 33 dX4_touches_26 (by decide) (fun c5 => z_iconst (v := 0) dX4_touches_33 (by decide) <| z_ret (ty := .boolean) dX4_touches_34 rfl rfl (k3 c2 c4 c5)) (fun c6 => z_iconst (v := 1) dX4_touches_29 (by decide) <| z_goto 34 dX4_touches_30 (by decide) <| z_ret (ty := .boolean) dX4_touches_34 rfl rfl (k4 c2 c4 c6))))
set_option maxRecDepth 20000 in
theorem bX4_onlyWalk_0 {x1 x2 : Int32} {D : zM} {P : Option Int32 → zM → Prop}  (k1 : z_Ok mX4_onlyWalk 6 [some (.ref 46), some (.int x1), some (.int x2), some (.int (-9)), some (.int 0)] [] D P) : z_Ok mX4_onlyWalk 0 [some (.ref 46), some (.int x1), some (.int x2), none, none] [] D P := z_bipush (v := (-9)) dX4_onlyWalk_0 (by decide) <| z_istore_n 3 dX4_onlyWalk_2 rfl rfl <| z_iconst (v := 0) dX4_onlyWalk_3 (by decide) <| z_istore dX4_onlyWalk_4 rfl <| k1
set_option maxRecDepth 20000 in
theorem bX4_onlyWalk_6 {x1 x2 x3 x4 : Int32} {D : zM} {P : Option Int32 → zM → Prop}  (k1 : (D 46 0) ≤ x4 → P (some x3) D) (k2 : ¬ (D 46 0) ≤ x4 → x4 = x2 → z_Ok mX4_onlyWalk 6 [some (.ref 46), some (.int x1), some (.int x2), some (.int x3), some (.int (x4 + 1))] [] D P) (k3 : ¬ (D 46 0) ≤ x4 → ¬ x4 = x2 → z_Ok mX4_onlyWalk 25 [some (.ref 46), some (.int x1), some (.int x2), some (.int x3), some (.int x4)] [.int x1, .int x4, .ref 46] D P) : z_Ok mX4_onlyWalk 6 [some (.ref 46), some (.int x1), some (.int x2), some (.int x3), some (.int x4)] [] D P := z_iload dX4_onlyWalk_6 rfl <| z_aload_n 0 dX4_onlyWalk_8 rfl rfl <| z_geti 0 dX4_onlyWalk_9 fRX4_51 rfl rfl <| z_icmp_ge (x := x4) (y := D 46 0) 57 dX4_onlyWalk_12 (by decide) (fun c1 => z_iload_n 3 dX4_onlyWalk_57 rfl rfl <| z_ret (ty := .int) dX4_onlyWalk_58 rfl rfl (k1 c1)) (fun c2 => z_iload dX4_onlyWalk_15 rfl <| z_iload_n 2 dX4_onlyWalk_17 rfl rfl <| z_icmp_eq (x := x4) (y := x2) 51 dX4_onlyWalk_18 (by decide) (fun c3 => z_iinc (v := x4 + 1) dX4_onlyWalk_51 rfl rfl rfl <| z_goto 6 dX4_onlyWalk_54 (by decide) <| k2 c2 c3) (fun c4 => z_aload_n 0 dX4_onlyWalk_21 rfl rfl <| z_iload dX4_onlyWalk_22 rfl <| z_iload_n 1 dX4_onlyWalk_24 rfl rfl <| k3 c2 c4))
set_option maxRecDepth 20000 in
theorem sX4_onlyWalk_25 {lv : List (Option Value)} {v0 v1 : Int32} {D : zM} {P : Option Int32 → zM → Prop} {Q : Int32 → zM → Prop} (hC : z_Ci mX4_touches [.ref 46, .int v0, .int v1] D Q) (kk : ∀ r D1, Q r D1 → z_Ok mX4_onlyWalk 28 lv [.int r] D1 P) : z_Ok mX4_onlyWalk 25 lv [.int v1, .int v0, .ref 46] D P := z_callV (n := 2) [.int v0, .int v1] [] dX4_onlyWalk_25 tX4_touches kRX4_98 (by decide) pnX4_touches rfl rfl rfl rfl (Nat.le_of_ble_eq_true rfl) (by simp [Value.category]) (by simp [Value.category]) hC (fun r D1 q1 => z_intr q1 (fun r q => kk r D1 q))
set_option maxRecDepth 20000 in
theorem bX4_onlyWalk_28 {x1 x2 x3 x4 y0 : Int32} {D : zM} {P : Option Int32 → zM → Prop}  (k1 : y0 = 0 → z_Ok mX4_onlyWalk 6 [some (.ref 46), some (.int x1), some (.int x2), some (.int x3), some (.int (x4 + 1))] [] D P) (k2 : ¬ y0 = 0 → ¬ x3 = (-9) → P (some (-1)) D) (k3 : ¬ y0 = 0 → x3 = (-9) → ¬ x4 = (-1) → z_Ok mX4_onlyWalk 6 [some (.ref 46), some (.int x1), some (.int x2), some (.int x4), some (.int (x4 + 1))] [] D P) (k4 : ¬ y0 = 0 → x3 = (-9) → x4 = (-1) → P (some x4) D) : z_Ok mX4_onlyWalk 28 [some (.ref 46), some (.int x1), some (.int x2), some (.int x3), some (.int x4)] [.int y0] D P := z_if_eq (x := y0) 51 dX4_onlyWalk_28 (by decide) (fun c1 => z_iinc (v := x4 + 1) dX4_onlyWalk_51 rfl rfl rfl <| z_goto 6 dX4_onlyWalk_54 (by decide) <| k1 c1) (fun c2 => z_iload_n 3 dX4_onlyWalk_31 rfl rfl <| z_bipush (v := (-9)) dX4_onlyWalk_32 (by decide) <| z_icmp_ne (x := x3) (y := (-9)) 42 dX4_onlyWalk_34 (by decide) (fun c3 => z_iconst (v := (-1)) dX4_onlyWalk_42 (by decide) <| z_istore_n 3 dX4_onlyWalk_43 rfl rfl <| z_iload_n 3 dX4_onlyWalk_44 rfl rfl <| z_iconst (v := (-1)) dX4_onlyWalk_45 (by decide) <| z_icmp_ne (x := (-1)) (y := (-1)) 51 dX4_onlyWalk_46 (by decide) (fun h => absurd h (by decide)) (fun _ => z_iload_n 3 dX4_onlyWalk_49 rfl rfl <| z_ret (ty := .int) dX4_onlyWalk_50 rfl rfl (k2 c2 c3))) (fun c4 => z_iload dX4_onlyWalk_37 rfl <| z_goto 43 dX4_onlyWalk_39 (by decide) <| z_istore_n 3 dX4_onlyWalk_43 rfl rfl <| z_iload_n 3 dX4_onlyWalk_44 rfl rfl <| z_iconst (v := (-1)) dX4_onlyWalk_45 (by decide) <| z_icmp_ne (x := x4) (y := (-1)) 51 dX4_onlyWalk_46 (by decide) (fun c5 => z_iinc (v := x4 + 1) dX4_onlyWalk_51 rfl rfl rfl <| z_goto 6 dX4_onlyWalk_54 (by decide) <| k3 c2 c4 c5) (fun c6 => z_iload_n 3 dX4_onlyWalk_49 rfl rfl <| z_ret (ty := .int) dX4_onlyWalk_50 rfl rfl (k4 c2 c4 c6))))
set_option maxRecDepth 20000 in
theorem bX4_nextWalk_0 {x1 x2 : Int32} {D : zM} {P : Option Int32 → zM → Prop}  (h1 : vp_in x1 10) (k1 : (D 54 x1.toNatClampNeg) = (-9) → z_Ok mX4_nextWalk 50 [some (.ref 46), some (.int x1), some (.int x2), none] [.int x2, .int x1, .ref 46] (z_up D 46 13 (-9)) P) (k2 : ¬ (D 54 x1.toNatClampNeg) = (-9) → z_Ok mX4_nextWalk 25 [some (.ref 46), some (.int x1), some (.int x2), none] [.int (D 54 x1.toNatClampNeg), .int x1, .ref 46] (z_up D 46 13 (-9)) P) : z_Ok mX4_nextWalk 0 [some (.ref 46), some (.int x1), some (.int x2), none] [] D P := z_aload_n 0 dX4_nextWalk_0 rfl rfl <| z_bipush (v := (-9)) dX4_nextWalk_1 (by decide) <| z_put 13 dX4_nextWalk_3 pRX4_101 rfl rfl <| z_aload_n 0 dX4_nextWalk_6 rfl rfl <| z_getr 11 54 dX4_nextWalk_7 fRX4_32 rfl rfl <| z_iload_n 1 dX4_nextWalk_10 rfl rfl <| z_iald dX4_nextWalk_11 rfl h1 <| z_bipush (v := (-9)) dX4_nextWalk_12 (by decide) <| z_icmp_eq (x := D 54 x1.toNatClampNeg) (y := (-9)) 47 dX4_nextWalk_14 (by decide) (fun c1 => z_aload_n 0 dX4_nextWalk_47 rfl rfl <| z_iload_n 1 dX4_nextWalk_48 rfl rfl <| z_iload_n 2 dX4_nextWalk_49 rfl rfl <| k1 c1) (fun c2 => z_aload_n 0 dX4_nextWalk_17 rfl rfl <| z_iload_n 1 dX4_nextWalk_18 rfl rfl <| z_aload_n 0 dX4_nextWalk_19 rfl rfl <| z_getr 11 54 dX4_nextWalk_20 fRX4_32 rfl rfl <| z_iload_n 1 dX4_nextWalk_23 rfl rfl <| z_iald dX4_nextWalk_24 rfl h1 <| k2 c2)
set_option maxRecDepth 20000 in
theorem sX4_nextWalk_25 {lv : List (Option Value)} {v0 v1 : Int32} {D : zM} {P : Option Int32 → zM → Prop} {Q : Int32 → zM → Prop} (hC : z_Ci mX4_openBetween [.ref 46, .int v0, .int v1] D Q) (kk : ∀ r D1, Q r D1 → z_Ok mX4_nextWalk 28 lv [.int r] D1 P) : z_Ok mX4_nextWalk 25 lv [.int v1, .int v0, .ref 46] D P := z_callV (n := 2) [.int v0, .int v1] [] dX4_nextWalk_25 tX4_openBetween kRX4_87 (by decide) pnX4_openBetween rfl rfl rfl rfl (Nat.le_of_ble_eq_true rfl) (by simp [Value.category]) (by simp [Value.category]) hC (fun r D1 q1 => z_intr q1 (fun r q => kk r D1 q))
set_option maxRecDepth 20000 in
theorem bX4_nextWalk_28 {x1 x2 y0 : Int32} {D : zM} {P : Option Int32 → zM → Prop}  (k1 : ¬ y0 = (-9) → P (some y0) (z_up D 46 13 (-9))) (k2 : y0 = (-9) → P (some y0) (z_up D 46 13 3)) : z_Ok mX4_nextWalk 28 [some (.ref 46), some (.int x1), some (.int x2), none] [.int y0] D P := z_istore_n 3 dX4_nextWalk_28 rfl rfl <| z_aload_n 0 dX4_nextWalk_29 rfl rfl <| z_iload_n 3 dX4_nextWalk_30 rfl rfl <| z_bipush (v := (-9)) dX4_nextWalk_31 (by decide) <| z_icmp_ne (x := y0) (y := (-9)) 40 dX4_nextWalk_33 (by decide) (fun c1 => z_bipush (v := (-9)) dX4_nextWalk_40 (by decide) <| z_put 13 dX4_nextWalk_42 pRX4_101 rfl rfl <| z_iload_n 3 dX4_nextWalk_45 rfl rfl <| z_ret (ty := .int) dX4_nextWalk_46 rfl rfl (k1 c1)) (fun c2 => z_iconst (v := 3) dX4_nextWalk_36 (by decide) <| z_goto 42 dX4_nextWalk_37 (by decide) <| z_put 13 dX4_nextWalk_42 pRX4_101 rfl rfl <| z_iload_n 3 dX4_nextWalk_45 rfl rfl <| z_ret (ty := .int) dX4_nextWalk_46 rfl rfl (k2 c2))
set_option maxRecDepth 20000 in
theorem sX4_nextWalk_50 {lv : List (Option Value)} {v0 v1 : Int32} {D : zM} {P : Option Int32 → zM → Prop} {Q : Int32 → zM → Prop} (hC : z_Ci mX4_onlyWalk [.ref 46, .int v0, .int v1] D Q) (kk : ∀ r D1, Q r D1 → z_Ok mX4_nextWalk 53 lv [.int r] D1 P) : z_Ok mX4_nextWalk 50 lv [.int v1, .int v0, .ref 46] D P := z_callV (n := 2) [.int v0, .int v1] [] dX4_nextWalk_50 tX4_onlyWalk kRX4_104 (by decide) pnX4_onlyWalk rfl rfl rfl rfl (Nat.le_of_ble_eq_true rfl) (by simp [Value.category]) (by simp [Value.category]) hC (fun r D1 q1 => z_intr q1 (fun r q => kk r D1 q))
set_option maxRecDepth 20000 in
theorem bX4_nextWalk_53 {x1 x2 y0 : Int32} {D : zM} {P : Option Int32 → zM → Prop}  (k1 : ¬ y0 = (-9) → 0 ≤ y0 → P (some y0) (z_up D 46 13 (-9))) (k2 : ¬ y0 = (-9) → ¬ 0 ≤ y0 → P (some y0) (z_up D 46 13 1)) (k3 : y0 = (-9) → P (some y0) (z_up D 46 13 2)) : z_Ok mX4_nextWalk 53 [some (.ref 46), some (.int x1), some (.int x2), none] [.int y0] D P := z_istore_n 3 dX4_nextWalk_53 rfl rfl <| z_aload_n 0 dX4_nextWalk_54 rfl rfl <| z_iload_n 3 dX4_nextWalk_55 rfl rfl <| z_bipush (v := (-9)) dX4_nextWalk_56 (by decide) <| z_icmp_ne (x := y0) (y := (-9)) 65 dX4_nextWalk_58 (by decide) (fun c1 => z_iload_n 3 dX4_nextWalk_65 rfl rfl <| z_if_ge (x := y0) 73 dX4_nextWalk_66 (by decide) (fun c2 => z_bipush (v := (-9)) dX4_nextWalk_73 (by decide) <| z_put 13 dX4_nextWalk_75 pRX4_101 rfl rfl <| z_iload_n 3 dX4_nextWalk_78 rfl rfl <| z_ret (ty := .int) dX4_nextWalk_79 rfl rfl (k1 c1 c2)) (fun c3 => z_iconst (v := 1) dX4_nextWalk_69 (by decide) <| z_goto 75 dX4_nextWalk_70 (by decide) <| z_put 13 dX4_nextWalk_75 pRX4_101 rfl rfl <| z_iload_n 3 dX4_nextWalk_78 rfl rfl <| z_ret (ty := .int) dX4_nextWalk_79 rfl rfl (k2 c1 c3))) (fun c4 => z_iconst (v := 2) dX4_nextWalk_61 (by decide) <| z_goto 75 dX4_nextWalk_62 (by decide) <| z_put 13 dX4_nextWalk_75 pRX4_101 rfl rfl <| z_iload_n 3 dX4_nextWalk_78 rfl rfl <| z_ret (ty := .int) dX4_nextWalk_79 rfl rfl (k3 c4))
set_option maxRecDepth 20000 in
theorem bX4_follows_0 {x1 x2 : Int32} {D : zM} {P : Option Int32 → zM → Prop}  (k1 : z_Ok mX4_follows 2 [some (.ref 46), some (.int x1), some (.int x2), some (.int 0), none, none] [] D P) : z_Ok mX4_follows 0 [some (.ref 46), some (.int x1), some (.int x2), none, none, none] [] D P := z_iconst (v := 0) dX4_follows_0 (by decide) <| z_istore_n 3 dX4_follows_1 rfl rfl <| k1
set_option maxRecDepth 20000 in
theorem bX4_follows_2 {x1 x2 x3 : Int32} {D : zM} {P : Option Int32 → zM → Prop}  (h1 : 140 ≤ x3 → vp_in 0 41) (h2 : ¬ 140 ≤ x3 → vp_in x3 140) (k1 : 140 ≤ x3 → z_Ok mX4_follows 51 [some (.ref 46), some (.int x1), some (.int x2), some (.int x1), some (.int (-9)), none] [] (z_up (z_up (z_up (z_up D 46 14 0) 46 15 0) 56 (0 : Int32).toNatClampNeg x1) 46 13 (-9)) P) (k2 : ¬ 140 ≤ x3 → z_Ok mX4_follows 2 [some (.ref 46), some (.int x1), some (.int x2), some (.int (x3 + 1)), none, none] [] (z_up D 55 x3.toNatClampNeg 0) P) : z_Ok mX4_follows 2 [some (.ref 46), some (.int x1), some (.int x2), some (.int x3), none, none] [] D P := z_iload_n 3 dX4_follows_2 rfl rfl <| z_sipush (v := 140) dX4_follows_3 (by decide) <| z_icmp_ge (x := x3) (y := 140) 22 dX4_follows_6 (by decide) (fun c1 => z_aload_n 0 dX4_follows_22 rfl rfl <| z_iconst (v := 0) dX4_follows_23 (by decide) <| z_put 14 dX4_follows_24 pRX4_107 rfl rfl <| z_aload_n 0 dX4_follows_27 rfl rfl <| z_iconst (v := 0) dX4_follows_28 (by decide) <| z_put 15 dX4_follows_29 pRX4_110 rfl rfl <| z_aload_n 0 dX4_follows_32 rfl rfl <| z_getr 16 56 dX4_follows_33 fRX4_38 rfl rfl <| z_iconst (v := 0) dX4_follows_36 (by decide) <| z_iload_n 1 dX4_follows_37 rfl rfl <| z_iast dX4_follows_38 rfl (h1 c1) <| z_iload_n 1 dX4_follows_39 rfl rfl <| z_istore_n 3 dX4_follows_40 rfl rfl <| z_bipush (v := (-9)) dX4_follows_41 (by decide) <| z_istore dX4_follows_43 rfl <| z_aload_n 0 dX4_follows_45 rfl rfl <| z_bipush (v := (-9)) dX4_follows_46 (by decide) <| z_put 13 dX4_follows_48 pRX4_101 rfl rfl <| k1 c1) (fun c2 => z_aload_n 0 dX4_follows_9 rfl rfl <| z_getr 12 55 dX4_follows_10 fRX4_35 rfl rfl <| z_iload_n 3 dX4_follows_13 rfl rfl <| z_iconst (v := 0) dX4_follows_14 (by decide) <| z_bast dX4_follows_15 rfl (h2 c2) rfl <| z_iinc (v := x3 + 1) dX4_follows_16 rfl rfl rfl <| z_goto 2 dX4_follows_19 (by decide) <| k2 c2)
set_option maxRecDepth 20000 in
theorem bX4_follows_51 {x1 x2 x3 x4 : Int32} {o5 : Option Value} {D : zM} {P : Option Int32 → zM → Prop}  (h1 : (D 46 13) = (-9) → vp_in x2 5) (k1 : ¬ (D 46 13) = (-9) → P none D) (k2 : (D 46 13) = (-9) → ¬ x3 = (D 51 x2.toNatClampNeg) → z_Ok mX4_follows 80 [some (.ref 46), some (.int x1), some (.int x2), some (.int x3), some (.int x4), o5] [.int x4, .int x3, .ref 46] D P) (k3 : (D 46 13) = (-9) → x3 = (D 51 x2.toNatClampNeg) → P none (z_up D 46 13 0)) : z_Ok mX4_follows 51 [some (.ref 46), some (.int x1), some (.int x2), some (.int x3), some (.int x4), o5] [] D P := z_aload_n 0 dX4_follows_51 rfl rfl <| z_geti 13 dX4_follows_52 fRX4_101 rfl rfl <| z_bipush (v := (-9)) dX4_follows_55 (by decide) <| z_icmp_ne (x := D 46 13) (y := (-9)) 205 dX4_follows_57 (by decide) (fun c1 => z_vret dX4_follows_205 rfl (k1 c1)) (fun c2 => z_iload_n 3 dX4_follows_60 rfl rfl <| z_aload_n 0 dX4_follows_61 rfl rfl <| z_getr 6 51 dX4_follows_62 fRX4_23 rfl rfl <| z_iload_n 2 dX4_follows_65 rfl rfl <| z_iald dX4_follows_66 rfl (h1 c2) <| z_icmp_ne (x := x3) (y := D 51 x2.toNatClampNeg) 76 dX4_follows_67 (by decide) (fun c3 => z_aload_n 0 dX4_follows_76 rfl rfl <| z_iload_n 3 dX4_follows_77 rfl rfl <| z_iload dX4_follows_78 rfl <| k2 c2 c3) (fun c4 => z_aload_n 0 dX4_follows_70 rfl rfl <| z_iconst (v := 0) dX4_follows_71 (by decide) <| z_put 13 dX4_follows_72 pRX4_101 rfl rfl <| z_vret dX4_follows_75 rfl (k3 c2 c4)))
set_option maxRecDepth 20000 in
theorem sX4_follows_80 {lv : List (Option Value)} {v0 v1 : Int32} {D : zM} {P : Option Int32 → zM → Prop} {Q : Int32 → zM → Prop} (hC : z_Ci mX4_nextWalk [.ref 46, .int v0, .int v1] D Q) (kk : ∀ r D1, Q r D1 → z_Ok mX4_follows 83 lv [.int r] D1 P) : z_Ok mX4_follows 80 lv [.int v1, .int v0, .ref 46] D P := z_callV (n := 2) [.int v0, .int v1] [] dX4_follows_80 tX4_nextWalk kRX4_113 (by decide) pnX4_nextWalk rfl rfl rfl rfl (Nat.le_of_ble_eq_true rfl) (by simp [Value.category]) (by simp [Value.category]) hC (fun r D1 q1 => z_intr q1 (fun r q => kk r D1 q))
set_option maxRecDepth 20000 in
theorem bX4_follows_83 {x1 x2 x3 x4 y0 : Int32} {o5 : Option Value} {D : zM} {P : Option Int32 → zM → Prop}  (h1 : (D 46 13) = (-9) → vp_in y0 14) (h2 : (D 46 13) = (-9) → ¬ (D 47 y0.toNatClampNeg) = x3 → vp_in ((D 46 14) + 1) 41) (h3 : (D 46 13) = (-9) → ¬ (D 47 y0.toNatClampNeg) = x3 → vp_in ((14 * (D 47 y0.toNatClampNeg)) + y0) 140) (h4 : (D 46 13) = (-9) → (D 47 y0.toNatClampNeg) = x3 → vp_in ((D 46 14) + 1) 41) (h5 : (D 46 13) = (-9) → (D 47 y0.toNatClampNeg) = x3 → vp_in ((14 * (D 48 y0.toNatClampNeg)) + y0) 140) (k1 : (D 46 13) = (-9) → ¬ (D 47 y0.toNatClampNeg) = x3 → (D 55 ((14 * (D 47 y0.toNatClampNeg)) + y0).toNatClampNeg) = 0 → z_Ok mX4_follows 51 [some (.ref 46), some (.int x1), some (.int x2), some (.int (D 47 y0.toNatClampNeg)), some (.int y0), some (.int y0)] [] (z_up (z_up (z_up (z_up (z_up D 46 14 ((D 46 14) + 1)) 46 15 ((D 46 15) + (D 49 y0.toNatClampNeg))) 56 ((D 46 14) + 1).toNatClampNeg (D 47 y0.toNatClampNeg)) 46 13 (-9)) 55 ((14 * (D 47 y0.toNatClampNeg)) + y0).toNatClampNeg 1) P) (k2 : (D 46 13) = (-9) → ¬ (D 47 y0.toNatClampNeg) = x3 → ¬ (D 55 ((14 * (D 47 y0.toNatClampNeg)) + y0).toNatClampNeg) = 0 → z_Ok mX4_follows 51 [some (.ref 46), some (.int x1), some (.int x2), some (.int (D 47 y0.toNatClampNeg)), some (.int y0), some (.int y0)] [] (z_up (z_up (z_up (z_up (z_up D 46 14 ((D 46 14) + 1)) 46 15 ((D 46 15) + (D 49 y0.toNatClampNeg))) 56 ((D 46 14) + 1).toNatClampNeg (D 47 y0.toNatClampNeg)) 46 13 4) 55 ((14 * (D 47 y0.toNatClampNeg)) + y0).toNatClampNeg 1) P) (k3 : (D 46 13) = (-9) → (D 47 y0.toNatClampNeg) = x3 → (D 55 ((14 * (D 48 y0.toNatClampNeg)) + y0).toNatClampNeg) = 0 → z_Ok mX4_follows 51 [some (.ref 46), some (.int x1), some (.int x2), some (.int (D 48 y0.toNatClampNeg)), some (.int y0), some (.int y0)] [] (z_up (z_up (z_up (z_up (z_up D 46 14 ((D 46 14) + 1)) 46 15 ((D 46 15) + (D 49 y0.toNatClampNeg))) 56 ((D 46 14) + 1).toNatClampNeg (D 48 y0.toNatClampNeg)) 46 13 (-9)) 55 ((14 * (D 48 y0.toNatClampNeg)) + y0).toNatClampNeg 1) P) (k4 : (D 46 13) = (-9) → (D 47 y0.toNatClampNeg) = x3 → ¬ (D 55 ((14 * (D 48 y0.toNatClampNeg)) + y0).toNatClampNeg) = 0 → z_Ok mX4_follows 51 [some (.ref 46), some (.int x1), some (.int x2), some (.int (D 48 y0.toNatClampNeg)), some (.int y0), some (.int y0)] [] (z_up (z_up (z_up (z_up (z_up D 46 14 ((D 46 14) + 1)) 46 15 ((D 46 15) + (D 49 y0.toNatClampNeg))) 56 ((D 46 14) + 1).toNatClampNeg (D 48 y0.toNatClampNeg)) 46 13 4) 55 ((14 * (D 48 y0.toNatClampNeg)) + y0).toNatClampNeg 1) P) (k5 : ¬ (D 46 13) = (-9) → P none D) : z_Ok mX4_follows 83 [some (.ref 46), some (.int x1), some (.int x2), some (.int x3), some (.int x4), o5] [.int y0] D P := z_istore dX4_follows_83 rfl <| z_aload_n 0 dX4_follows_85 rfl rfl <| z_geti 13 dX4_follows_86 fRX4_101 rfl rfl <| z_bipush (v := (-9)) dX4_follows_89 (by decide) <| z_icmp_eq (x := D 46 13) (y := (-9)) 95 dX4_follows_91 (by decide) (fun c1 => z_aload_n 0 dX4_follows_95 rfl rfl <| z_getr 1 47 dX4_follows_96 fRX4_7 rfl rfl <| z_iload dX4_follows_99 rfl <| z_iald dX4_follows_101 rfl (h1 c1) <| z_iload_n 3 dX4_follows_102 rfl rfl <| z_icmp_ne (x := D 47 y0.toNatClampNeg) (y := x3) 116 dX4_follows_103 (by decide) (fun c2 => z_aload_n 0 dX4_follows_116 rfl rfl <| z_getr 1 47 dX4_follows_117 fRX4_7 rfl rfl <| z_iload dX4_follows_120 rfl <| z_iald dX4_follows_122 rfl (h1 c1) <| z_istore_n 3 dX4_follows_123 rfl rfl <| z_iload dX4_follows_124 rfl <| z_istore dX4_follows_126 rfl <| z_aload_n 0 dX4_follows_128 rfl rfl <| z_dup dX4_follows_129 rfl <| z_geti 14 dX4_follows_130 fRX4_107 rfl rfl <| z_iconst (v := 1) dX4_follows_133 (by decide) <| z_iadd dX4_follows_134 <| z_put 14 dX4_follows_135 pRX4_107 rfl rfl <| z_aload_n 0 dX4_follows_138 rfl rfl <| z_dup dX4_follows_139 rfl <| z_geti 15 dX4_follows_140 fRX4_110 rfl rfl <| z_aload_n 0 dX4_follows_143 rfl rfl <| z_getr 3 49 dX4_follows_144 fRX4_16 rfl rfl <| z_iload dX4_follows_147 rfl <| z_iald dX4_follows_149 rfl (h1 c1) <| z_iadd dX4_follows_150 <| z_put 15 dX4_follows_151 pRX4_110 rfl rfl <| z_aload_n 0 dX4_follows_154 rfl rfl <| z_getr 16 56 dX4_follows_155 fRX4_38 rfl rfl <| z_aload_n 0 dX4_follows_158 rfl rfl <| z_geti 14 dX4_follows_159 fRX4_107 rfl rfl <| z_iload_n 3 dX4_follows_162 rfl rfl <| z_iast dX4_follows_163 rfl (h2 c1 c2) <| z_aload_n 0 dX4_follows_164 rfl rfl <| z_aload_n 0 dX4_follows_165 rfl rfl <| z_getr 12 55 dX4_follows_166 fRX4_35 rfl rfl <| z_bipush (v := 14) dX4_follows_169 (by decide) <| z_iload_n 3 dX4_follows_171 rfl rfl <| z_imul dX4_follows_172 <| z_iload dX4_follows_173 rfl <| z_iadd dX4_follows_175 <| z_bald dX4_follows_176 rfl (h3 c1 c2) <| z_if_eq (x := D 55 ((14 * (D 47 y0.toNatClampNeg)) + y0).toNatClampNeg) 184 dX4_follows_177 (by decide) (fun c3 => z_bipush (v := (-9)) dX4_follows_184 (by decide) <| z_put 13 dX4_follows_186 pRX4_101 rfl rfl <| z_aload_n 0 dX4_follows_189 rfl rfl <| z_getr 12 55 dX4_follows_190 fRX4_35 rfl rfl <| z_bipush (v := 14) dX4_follows_193 (by decide) <| z_iload_n 3 dX4_follows_195 rfl rfl <| z_imul dX4_follows_196 <| z_iload dX4_follows_197 rfl <| z_iadd dX4_follows_199 <| z_iconst (v := 1) dX4_follows_200 (by decide) <| z_bast dX4_follows_201 rfl (h3 c1 c2) rfl <| z_goto 51 dX4_follows_202 (by decide) <| k1 c1 c2 c3) (fun c4 => z_iconst (v := 4) dX4_follows_180 (by decide) <| z_goto 186 dX4_follows_181 (by decide) <| z_put 13 dX4_follows_186 pRX4_101 rfl rfl <| z_aload_n 0 dX4_follows_189 rfl rfl <| z_getr 12 55 dX4_follows_190 fRX4_35 rfl rfl <| z_bipush (v := 14) dX4_follows_193 (by decide) <| z_iload_n 3 dX4_follows_195 rfl rfl <| z_imul dX4_follows_196 <| z_iload dX4_follows_197 rfl <| z_iadd dX4_follows_199 <| z_iconst (v := 1) dX4_follows_200 (by decide) <| z_bast dX4_follows_201 rfl (h3 c1 c2) rfl <| z_goto 51 dX4_follows_202 (by decide) <| k2 c1 c2 c4)) (fun c5 => z_aload_n 0 dX4_follows_106 rfl rfl <| z_getr 2 48 dX4_follows_107 fRX4_13 rfl rfl <| z_iload dX4_follows_110 rfl <| z_iald dX4_follows_112 rfl (h1 c1) <| z_goto 123 dX4_follows_113 (by decide) <| z_istore_n 3 dX4_follows_123 rfl rfl <| z_iload dX4_follows_124 rfl <| z_istore dX4_follows_126 rfl <| z_aload_n 0 dX4_follows_128 rfl rfl <| z_dup dX4_follows_129 rfl <| z_geti 14 dX4_follows_130 fRX4_107 rfl rfl <| z_iconst (v := 1) dX4_follows_133 (by decide) <| z_iadd dX4_follows_134 <| z_put 14 dX4_follows_135 pRX4_107 rfl rfl <| z_aload_n 0 dX4_follows_138 rfl rfl <| z_dup dX4_follows_139 rfl <| z_geti 15 dX4_follows_140 fRX4_110 rfl rfl <| z_aload_n 0 dX4_follows_143 rfl rfl <| z_getr 3 49 dX4_follows_144 fRX4_16 rfl rfl <| z_iload dX4_follows_147 rfl <| z_iald dX4_follows_149 rfl (h1 c1) <| z_iadd dX4_follows_150 <| z_put 15 dX4_follows_151 pRX4_110 rfl rfl <| z_aload_n 0 dX4_follows_154 rfl rfl <| z_getr 16 56 dX4_follows_155 fRX4_38 rfl rfl <| z_aload_n 0 dX4_follows_158 rfl rfl <| z_geti 14 dX4_follows_159 fRX4_107 rfl rfl <| z_iload_n 3 dX4_follows_162 rfl rfl <| z_iast dX4_follows_163 rfl (h4 c1 c5) <| z_aload_n 0 dX4_follows_164 rfl rfl <| z_aload_n 0 dX4_follows_165 rfl rfl <| z_getr 12 55 dX4_follows_166 fRX4_35 rfl rfl <| z_bipush (v := 14) dX4_follows_169 (by decide) <| z_iload_n 3 dX4_follows_171 rfl rfl <| z_imul dX4_follows_172 <| z_iload dX4_follows_173 rfl <| z_iadd dX4_follows_175 <| z_bald dX4_follows_176 rfl (h5 c1 c5) <| z_if_eq (x := D 55 ((14 * (D 48 y0.toNatClampNeg)) + y0).toNatClampNeg) 184 dX4_follows_177 (by decide) (fun c6 => z_bipush (v := (-9)) dX4_follows_184 (by decide) <| z_put 13 dX4_follows_186 pRX4_101 rfl rfl <| z_aload_n 0 dX4_follows_189 rfl rfl <| z_getr 12 55 dX4_follows_190 fRX4_35 rfl rfl <| z_bipush (v := 14) dX4_follows_193 (by decide) <| z_iload_n 3 dX4_follows_195 rfl rfl <| z_imul dX4_follows_196 <| z_iload dX4_follows_197 rfl <| z_iadd dX4_follows_199 <| z_iconst (v := 1) dX4_follows_200 (by decide) <| z_bast dX4_follows_201 rfl (h5 c1 c5) rfl <| z_goto 51 dX4_follows_202 (by decide) <| k3 c1 c5 c6) (fun c7 => z_iconst (v := 4) dX4_follows_180 (by decide) <| z_goto 186 dX4_follows_181 (by decide) <| z_put 13 dX4_follows_186 pRX4_101 rfl rfl <| z_aload_n 0 dX4_follows_189 rfl rfl <| z_getr 12 55 dX4_follows_190 fRX4_35 rfl rfl <| z_bipush (v := 14) dX4_follows_193 (by decide) <| z_iload_n 3 dX4_follows_195 rfl rfl <| z_imul dX4_follows_196 <| z_iload dX4_follows_197 rfl <| z_iadd dX4_follows_199 <| z_iconst (v := 1) dX4_follows_200 (by decide) <| z_bast dX4_follows_201 rfl (h5 c1 c5) rfl <| z_goto 51 dX4_follows_202 (by decide) <| k4 c1 c5 c7))) (fun c8 => z_vret dX4_follows_94 rfl (k5 c8))
set_option maxRecDepth 20000 in
theorem bX4_follow_0 {x1 x2 x3 : Int32} {D : zM} {P : Option Int32 → zM → Prop}  (k1 : vp_in x1 10 → z_wi x2 0 (D 46 5 - 1) → z_wi x3 0 3 → z_Ok mX4_follow 42 [some (.ref 46), some (.int x1), some (.int x2), some (.int x3)] [.int x2, .ref 46] D P) (k2 : vp_in x1 10 → z_wi x2 0 (D 46 5 - 1) → ¬ z_wi x3 0 3 → z_wi x3 10 50 → z_Ok mX4_follow 42 [some (.ref 46), some (.int x1), some (.int x2), some (.int x3)] [.int x2, .ref 46] D P) (k3 : vp_in x1 10 → z_wi x2 0 (D 46 5 - 1) → ¬ z_wi x3 0 3 → ¬ z_wi x3 10 50 → P (some (-2)) D) (k4 : vp_in x1 10 → ¬ z_wi x2 0 (D 46 5 - 1) → P (some (-1)) D) (k5 : ¬ vp_in x1 10 → P (some (-1)) D) : z_Ok mX4_follow 0 [some (.ref 46), some (.int x1), some (.int x2), some (.int x3)] [] D P := z_iload_n 1 dX4_follow_0 rfl rfl <| z_callS (n := 1) [.int x1] [] dX4_follow_1 tX4_isPlace kRX4_62 (by decide) pnX4_isPlace rfl rfl (Nat.le_of_ble_eq_true rfl) (by simp [Value.category]) (by simp [Value.category]) (uX4_isPlace x1 D) (fun r D1 q1 => z_bool q1 (fun c1 => z_if_eq (x := 1) 15 dX4_follow_4 (by decide) (fun h => absurd h (by decide)) (fun _ => z_aload_n 0 dX4_follow_7 rfl rfl <| z_iload_n 2 dX4_follow_8 rfl rfl <| z_callV (n := 1) [.int x2] [] dX4_follow_9 tX4_isName kRX4_69 (by decide) pnX4_isName rfl rfl rfl rfl (Nat.le_of_ble_eq_true rfl) (by simp [Value.category]) (by simp [Value.category]) (uX4_isName x2 D) (fun r D1 q1 => z_bool q1 (fun c2 => z_if_ne (x := 1) 17 dX4_follow_12 (by decide) (fun _ => z_iload_n 3 dX4_follow_17 rfl rfl <| z_iconst (v := 0) dX4_follow_18 (by decide) <| z_iconst (v := 3) dX4_follow_19 (by decide) <| z_callS (n := 3) [.int x3, .int 0, .int 3] [] dX4_follow_20 tX4_within kRX4_47 (by decide) pnX4_within rfl rfl (Nat.le_of_ble_eq_true rfl) (by simp [Value.category]) (by simp [Value.category]) (uX4_within x3 0 3 D) (fun r D1 q1 => z_bool q1 (fun c3 => z_if_ne (x := 1) 40 dX4_follow_23 (by decide) (fun _ => z_aload_n 0 dX4_follow_40 rfl rfl <| z_iload_n 2 dX4_follow_41 rfl rfl <| k1 c1 c2 c3) (fun h => absurd h (by decide))) (fun c4 => z_if_ne (x := 0) 40 dX4_follow_23 (by decide) (fun h => absurd h (by decide)) (fun _ => z_iload_n 3 dX4_follow_26 rfl rfl <| z_bipush (v := 10) dX4_follow_27 (by decide) <| z_bipush (v := 50) dX4_follow_29 (by decide) <| z_callS (n := 3) [.int x3, .int 10, .int 50] [] dX4_follow_31 tX4_within kRX4_47 (by decide) pnX4_within rfl rfl (Nat.le_of_ble_eq_true rfl) (by simp [Value.category]) (by simp [Value.category]) (uX4_within x3 10 50 D) (fun r D1 q1 => z_bool q1 (fun c5 => z_if_ne (x := 1) 40 dX4_follow_34 (by decide) (fun _ => z_aload_n 0 dX4_follow_40 rfl rfl <| z_iload_n 2 dX4_follow_41 rfl rfl <| k2 c1 c2 c4 c5) (fun h => absurd h (by decide))) (fun c6 => z_if_ne (x := 0) 40 dX4_follow_34 (by decide) (fun h => absurd h (by decide)) (fun _ => z_bipush (v := (-2)) dX4_follow_37 (by decide) <| z_ret (ty := .int) dX4_follow_39 rfl rfl (k3 c1 c2 c4 c6)))))))) (fun h => absurd h (by decide))) (fun c7 => z_if_ne (x := 0) 17 dX4_follow_12 (by decide) (fun h => absurd h (by decide)) (fun _ => z_iconst (v := (-1)) dX4_follow_15 (by decide) <| z_ret (ty := .int) dX4_follow_16 rfl rfl (k4 c1 c7)))))) (fun c8 => z_if_eq (x := 0) 15 dX4_follow_4 (by decide) (fun _ => z_iconst (v := (-1)) dX4_follow_15 (by decide) <| z_ret (ty := .int) dX4_follow_16 rfl rfl (k5 c8)) (fun h => absurd h (by decide))))
set_option maxRecDepth 20000 in
theorem sX4_follow_42 {lv : List (Option Value)} {v0 : Int32} {D : zM} {P : Option Int32 → zM → Prop} {Q : zM → Prop} (hC : z_Cv mX4_laysArrows [.ref 46, .int v0] D Q) (kk : ∀ D1, Q D1 → z_Ok mX4_follow 45 lv [] D1 P) : z_Ok mX4_follow 42 lv [.int v0, .ref 46] D P := z_callV (n := 1) [.int v0] [] dX4_follow_42 tX4_laysArrows kRX4_116 (by decide) pnX4_laysArrows rfl rfl rfl rfl (Nat.le_of_ble_eq_true rfl) (by simp [Value.category]) (by simp [Value.category]) hC (fun r D1 q1 => z_void q1 (fun q => kk D1 q))
set_option maxRecDepth 20000 in
theorem bX4_follow_45 {x1 x2 x3 : Int32} {D : zM} {P : Option Int32 → zM → Prop}  (k1 : z_Ok mX4_follow 48 [some (.ref 46), some (.int x1), some (.int x2), some (.int x3)] [.int x2, .int x1, .ref 46] D P) : z_Ok mX4_follow 45 [some (.ref 46), some (.int x1), some (.int x2), some (.int x3)] [] D P := z_aload_n 0 dX4_follow_45 rfl rfl <| z_iload_n 1 dX4_follow_46 rfl rfl <| z_iload_n 2 dX4_follow_47 rfl rfl <| k1
set_option maxRecDepth 20000 in
theorem sX4_follow_48 {lv : List (Option Value)} {v0 v1 : Int32} {D : zM} {P : Option Int32 → zM → Prop} {Q : zM → Prop} (hC : z_Cv mX4_follows [.ref 46, .int v0, .int v1] D Q) (kk : ∀ D1, Q D1 → z_Ok mX4_follow 51 lv [] D1 P) : z_Ok mX4_follow 48 lv [.int v1, .int v0, .ref 46] D P := z_callV (n := 2) [.int v0, .int v1] [] dX4_follow_48 tX4_follows kRX4_119 (by decide) pnX4_follows rfl rfl rfl rfl (Nat.le_of_ble_eq_true rfl) (by simp [Value.category]) (by simp [Value.category]) hC (fun r D1 q1 => z_void q1 (fun q => kk D1 q))
set_option maxRecDepth 20000 in
theorem bX4_follow_51 {x1 x2 x3 : Int32} {D : zM} {P : Option Int32 → zM → Prop}  (h1 : ¬ x3 = 0 → ¬ x3 = 1 → ¬ x3 = 2 → x3 = 3 → vp_in (D 46 14) 41) (h2 : ¬ x3 = 0 → ¬ x3 = 1 → ¬ x3 = 2 → ¬ x3 = 3 → ¬ (D 46 14) < (x3 - 10) → vp_in (x3 - 10) 41) (k1 : x3 = 0 → P (some (D 46 13)) D) (k2 : ¬ x3 = 0 → x3 = 1 → P (some (D 46 14)) D) (k3 : ¬ x3 = 0 → ¬ x3 = 1 → x3 = 2 → P (some (D 46 15)) D) (k4 : ¬ x3 = 0 → ¬ x3 = 1 → ¬ x3 = 2 → x3 = 3 → P (some (D 56 (D 46 14).toNatClampNeg)) D) (k5 : ¬ x3 = 0 → ¬ x3 = 1 → ¬ x3 = 2 → ¬ x3 = 3 → (D 46 14) < (x3 - 10) → P (some (-9)) D) (k6 : ¬ x3 = 0 → ¬ x3 = 1 → ¬ x3 = 2 → ¬ x3 = 3 → ¬ (D 46 14) < (x3 - 10) → P (some (D 56 (x3 - 10).toNatClampNeg)) D) : z_Ok mX4_follow 51 [some (.ref 46), some (.int x1), some (.int x2), some (.int x3)] [] D P := z_iload_n 3 dX4_follow_51 rfl rfl <| z_case (x3 = 0) (fun c1 => z_tabIn 84 dX4_follow_52 (by rw [c1]; decide) (by rw [c1]; decide) (by rw [c1]; rfl) (by decide) <| z_aload_n 0 dX4_follow_84 rfl rfl <| z_geti 13 dX4_follow_85 fRX4_101 rfl rfl <| z_ret (ty := .int) dX4_follow_88 rfl rfl (k1 c1)) (fun c2 => z_case (x3 = 1) (fun c3 => z_tabIn 89 dX4_follow_52 (by rw [c3]; decide) (by rw [c3]; decide) (by rw [c3]; rfl) (by decide) <| z_aload_n 0 dX4_follow_89 rfl rfl <| z_geti 14 dX4_follow_90 fRX4_107 rfl rfl <| z_ret (ty := .int) dX4_follow_93 rfl rfl (k2 c2 c3)) (fun c4 => z_case (x3 = 2) (fun c5 => z_tabIn 94 dX4_follow_52 (by rw [c5]; decide) (by rw [c5]; decide) (by rw [c5]; rfl) (by decide) <| z_aload_n 0 dX4_follow_94 rfl rfl <| z_geti 15 dX4_follow_95 fRX4_110 rfl rfl <| z_ret (ty := .int) dX4_follow_98 rfl rfl (k3 c2 c4 c5)) (fun c6 => z_case (x3 = 3) (fun c7 => z_tabIn 99 dX4_follow_52 (by rw [c7]; decide) (by rw [c7]; decide) (by rw [c7]; rfl) (by decide) <| z_aload_n 0 dX4_follow_99 rfl rfl <| z_getr 16 56 dX4_follow_100 fRX4_38 rfl rfl <| z_aload_n 0 dX4_follow_103 rfl rfl <| z_geti 14 dX4_follow_104 fRX4_107 rfl rfl <| z_iald dX4_follow_107 rfl (h1 c2 c4 c6 c7) <| z_ret (ty := .int) dX4_follow_108 rfl rfl (k4 c2 c4 c6 c7)) (fun c8 => z_tabOut 109 dX4_follow_52 (z_sw0_3 c2 c4 c6 c8) (by decide) <| z_iload_n 3 dX4_follow_109 rfl rfl <| z_bipush (v := 10) dX4_follow_110 (by decide) <| z_isub dX4_follow_112 <| z_aload_n 0 dX4_follow_113 rfl rfl <| z_geti 14 dX4_follow_114 fRX4_107 rfl rfl <| z_icmp_gt (x := x3 - 10) (y := D 46 14) 132 dX4_follow_117 (by decide) (fun c9 => z_bipush (v := (-9)) dX4_follow_132 (by decide) <| z_ret (ty := .int) dX4_follow_134 rfl rfl (k5 c2 c4 c6 c8 c9)) (fun c10 => z_aload_n 0 dX4_follow_120 rfl rfl <| z_getr 16 56 dX4_follow_121 fRX4_38 rfl rfl <| z_iload_n 3 dX4_follow_124 rfl rfl <| z_bipush (v := 10) dX4_follow_125 (by decide) <| z_isub dX4_follow_127 <| z_iald dX4_follow_128 rfl (h2 c2 c4 c6 c8 c10) <| z_goto 134 dX4_follow_129 (by decide) <| z_ret (ty := .int) dX4_follow_134 rfl rfl (k6 c2 c4 c6 c8 c10))))))
set_option maxRecDepth 20000 in
theorem bX4_manyEnd_0 {x1 x2 : Int32} {D : zM} {P : Option Int32 → zM → Prop}  (k1 : z_Ok mX4_manyEnd 5 [some (.ref 46), some (.int x1), some (.int x2), some (.int 0), some (.int 0)] [] D P) : z_Ok mX4_manyEnd 0 [some (.ref 46), some (.int x1), some (.int x2), none, none] [] D P := z_iconst (v := 0) dX4_manyEnd_0 (by decide) <| z_istore_n 3 dX4_manyEnd_1 rfl rfl <| z_iconst (v := 0) dX4_manyEnd_2 (by decide) <| z_istore dX4_manyEnd_3 rfl <| k1
set_option maxRecDepth 20000 in
theorem bX4_manyEnd_5 {x1 x2 x3 x4 : Int32} {D : zM} {P : Option Int32 → zM → Prop}  (k1 : 10 ≤ x4 → P (some x3) D) (k2 : ¬ 10 ≤ x4 → zb (D 46 7) x4 → z_Ok mX4_manyEnd 28 [some (.ref 46), some (.int x1), some (.int x2), some (.int x3), some (.int x4)] [.int x1, .int x4, .ref 46] D P) (k3 : ¬ 10 ≤ x4 → ¬ zb (D 46 7) x4 → z_Ok mX4_manyEnd 5 [some (.ref 46), some (.int x1), some (.int x2), some (.int x3), some (.int (x4 + 1))] [] D P) : z_Ok mX4_manyEnd 5 [some (.ref 46), some (.int x1), some (.int x2), some (.int x3), some (.int x4)] [] D P := z_iload dX4_manyEnd_5 rfl <| z_bipush (v := 10) dX4_manyEnd_7 (by decide) <| z_icmp_ge (x := x4) (y := 10) 53 dX4_manyEnd_9 (by decide) (fun c1 => z_iload_n 3 dX4_manyEnd_53 rfl rfl <| z_ret (ty := .int) dX4_manyEnd_54 rfl rfl (k1 c1)) (fun c2 => z_aload_n 0 dX4_manyEnd_12 rfl rfl <| z_geti 7 dX4_manyEnd_13 fRX4_72 rfl rfl <| z_iload dX4_manyEnd_16 rfl <| z_callS (n := 2) [.int (D 46 7), .int x4] [] dX4_manyEnd_18 tX4_isIn kRX4_75 (by decide) pnX4_isIn rfl rfl (Nat.le_of_ble_eq_true rfl) (by simp [Value.category]) (by simp [Value.category]) (uX4_isIn (D 46 7) x4 D) (fun r D1 q1 => z_bool q1 (fun c3 => z_if_eq (x := 1) 47 dX4_manyEnd_21 (by decide) (fun h => absurd h (by decide)) (fun _ => z_aload_n 0 dX4_manyEnd_24 rfl rfl <| z_iload dX4_manyEnd_25 rfl <| z_iload_n 1 dX4_manyEnd_27 rfl rfl <| k2 c2 c3)) (fun c4 => z_if_eq (x := 0) 47 dX4_manyEnd_21 (by decide) (fun _ => z_iinc (v := x4 + 1) dX4_manyEnd_47 rfl rfl rfl <| z_goto 5 dX4_manyEnd_50 (by decide) <| k3 c2 c4) (fun h => absurd h (by decide)))))
set_option maxRecDepth 20000 in
theorem sX4_manyEnd_28 {lv : List (Option Value)} {v0 v1 : Int32} {D : zM} {P : Option Int32 → zM → Prop} {Q : zM → Prop} (hC : z_Cv mX4_follows [.ref 46, .int v0, .int v1] D Q) (kk : ∀ D1, Q D1 → z_Ok mX4_manyEnd 31 lv [] D1 P) : z_Ok mX4_manyEnd 28 lv [.int v1, .int v0, .ref 46] D P := z_callV (n := 2) [.int v0, .int v1] [] dX4_manyEnd_28 tX4_follows kRX4_119 (by decide) pnX4_follows rfl rfl rfl rfl (Nat.le_of_ble_eq_true rfl) (by simp [Value.category]) (by simp [Value.category]) hC (fun r D1 q1 => z_void q1 (fun q => kk D1 q))
set_option maxRecDepth 20000 in
theorem bX4_manyEnd_31 {x1 x2 x3 x4 : Int32} {D : zM} {P : Option Int32 → zM → Prop}  (k1 : ¬ (D 46 13) = x2 → z_Ok mX4_manyEnd 5 [some (.ref 46), some (.int x1), some (.int x2), some (.int (x3 + 0)), some (.int (x4 + 1))] [] D P) (k2 : (D 46 13) = x2 → z_Ok mX4_manyEnd 5 [some (.ref 46), some (.int x1), some (.int x2), some (.int (x3 + 1)), some (.int (x4 + 1))] [] D P) : z_Ok mX4_manyEnd 31 [some (.ref 46), some (.int x1), some (.int x2), some (.int x3), some (.int x4)] [] D P := z_iload_n 3 dX4_manyEnd_31 rfl rfl <| z_aload_n 0 dX4_manyEnd_32 rfl rfl <| z_geti 13 dX4_manyEnd_33 fRX4_101 rfl rfl <| z_iload_n 2 dX4_manyEnd_36 rfl rfl <| z_icmp_ne (x := D 46 13) (y := x2) 44 dX4_manyEnd_37 (by decide) (fun c1 => z_iconst (v := 0) dX4_manyEnd_44 (by decide) <| z_iadd dX4_manyEnd_45 <| z_istore_n 3 dX4_manyEnd_46 rfl rfl <| z_iinc (v := x4 + 1) dX4_manyEnd_47 rfl rfl rfl <| z_goto 5 dX4_manyEnd_50 (by decide) <| k1 c1) (fun c2 => z_iconst (v := 1) dX4_manyEnd_40 (by decide) <| z_goto 45 dX4_manyEnd_41 (by decide) <| z_iadd dX4_manyEnd_45 <| z_istore_n 3 dX4_manyEnd_46 rfl rfl <| z_iinc (v := x4 + 1) dX4_manyEnd_47 rfl rfl rfl <| z_goto 5 dX4_manyEnd_50 (by decide) <| k2 c2)
set_option maxRecDepth 20000 in
theorem bX4_ends_0 {x1 : Int32} {D : zM} {P : Option Int32 → zM → Prop}  (k1 : z_wi x1 0 4 → z_Ok mX4_ends 16 [some (.ref 46), some (.int x1), some (.int 0), some (.int 0)] [] D P) (k2 : ¬ z_wi x1 0 4 → P (some (-2)) D) : z_Ok mX4_ends 0 [some (.ref 46), some (.int x1), none, none] [] D P := z_iload_n 1 dX4_ends_0 rfl rfl <| z_iconst (v := 0) dX4_ends_1 (by decide) <| z_iconst (v := 4) dX4_ends_2 (by decide) <| z_callS (n := 3) [.int x1, .int 0, .int 4] [] dX4_ends_3 tX4_within kRX4_47 (by decide) pnX4_within rfl rfl (Nat.le_of_ble_eq_true rfl) (by simp [Value.category]) (by simp [Value.category]) (uX4_within x1 0 4 D) (fun r D1 q1 => z_bool q1 (fun c1 => z_if_ne (x := 1) 12 dX4_ends_6 (by decide) (fun _ => z_iconst (v := 0) dX4_ends_12 (by decide) <| z_istore_n 2 dX4_ends_13 rfl rfl <| z_iconst (v := 0) dX4_ends_14 (by decide) <| z_istore_n 3 dX4_ends_15 rfl rfl <| k1 c1) (fun h => absurd h (by decide))) (fun c2 => z_if_ne (x := 0) 12 dX4_ends_6 (by decide) (fun h => absurd h (by decide)) (fun _ => z_bipush (v := (-2)) dX4_ends_9 (by decide) <| z_ret (ty := .int) dX4_ends_11 rfl rfl (k2 c2))))
set_option maxRecDepth 20000 in
theorem bX4_ends_16 {x1 x2 x3 : Int32} {D : zM} {P : Option Int32 → zM → Prop}  (k1 : (D 46 5) ≤ x3 → P (some x2) D) (k2 : ¬ (D 46 5) ≤ x3 → z_Ok mX4_ends 26 [some (.ref 46), some (.int x1), some (.int x2), some (.int x3)] [.int x3, .ref 46] D P) : z_Ok mX4_ends 16 [some (.ref 46), some (.int x1), some (.int x2), some (.int x3)] [] D P := z_iload_n 3 dX4_ends_16 rfl rfl <| z_aload_n 0 dX4_ends_17 rfl rfl <| z_geti 5 dX4_ends_18 fRX4_55 rfl rfl <| z_icmp_ge (x := x3) (y := D 46 5) 44 dX4_ends_21 (by decide) (fun c1 => z_iload_n 2 dX4_ends_44 rfl rfl <| z_ret (ty := .int) dX4_ends_45 rfl rfl (k1 c1)) (fun c2 => z_aload_n 0 dX4_ends_24 rfl rfl <| z_iload_n 3 dX4_ends_25 rfl rfl <| k2 c2)
set_option maxRecDepth 20000 in
theorem sX4_ends_26 {lv : List (Option Value)} {v0 : Int32} {D : zM} {P : Option Int32 → zM → Prop} {Q : zM → Prop} (hC : z_Cv mX4_laysArrows [.ref 46, .int v0] D Q) (kk : ∀ D1, Q D1 → z_Ok mX4_ends 29 lv [] D1 P) : z_Ok mX4_ends 26 lv [.int v0, .ref 46] D P := z_callV (n := 1) [.int v0] [] dX4_ends_26 tX4_laysArrows kRX4_116 (by decide) pnX4_laysArrows rfl rfl rfl rfl (Nat.le_of_ble_eq_true rfl) (by simp [Value.category]) (by simp [Value.category]) hC (fun r D1 q1 => z_void q1 (fun q => kk D1 q))
set_option maxRecDepth 20000 in
theorem bX4_ends_29 {x1 x2 x3 : Int32} {D : zM} {P : Option Int32 → zM → Prop}  (k1 : z_Ok mX4_ends 33 [some (.ref 46), some (.int x1), some (.int x2), some (.int x3)] [.int x1, .int x3, .ref 46, .int x2] D P) : z_Ok mX4_ends 29 [some (.ref 46), some (.int x1), some (.int x2), some (.int x3)] [] D P := z_iload_n 2 dX4_ends_29 rfl rfl <| z_aload_n 0 dX4_ends_30 rfl rfl <| z_iload_n 3 dX4_ends_31 rfl rfl <| z_iload_n 1 dX4_ends_32 rfl rfl <| k1
set_option maxRecDepth 20000 in
theorem sX4_ends_33 {lv : List (Option Value)} {v0 v1 w0 : Int32} {D : zM} {P : Option Int32 → zM → Prop} {Q : Int32 → zM → Prop} (hC : z_Ci mX4_manyEnd [.ref 46, .int v0, .int v1] D Q) (kk : ∀ r D1, Q r D1 → z_Ok mX4_ends 36 lv [.int r, .int w0] D1 P) : z_Ok mX4_ends 33 lv [.int v1, .int v0, .ref 46, .int w0] D P := z_callV (n := 2) [.int v0, .int v1] [.int w0] dX4_ends_33 tX4_manyEnd kRX4_123 (by decide) pnX4_manyEnd rfl rfl rfl rfl (Nat.le_of_ble_eq_true rfl) (by simp [Value.category]) (by simp [Value.category]) hC (fun r D1 q1 => z_intr q1 (fun r q => kk r D1 q))
set_option maxRecDepth 20000 in
theorem bX4_ends_36 {x1 x2 x3 y0 y1 : Int32} {D : zM} {P : Option Int32 → zM → Prop}  (k1 : z_Ok mX4_ends 16 [some (.ref 46), some (.int x1), some (.int (y1 + y0)), some (.int (x3 + 1))] [] D P) : z_Ok mX4_ends 36 [some (.ref 46), some (.int x1), some (.int x2), some (.int x3)] [.int y0, .int y1] D P := z_iadd dX4_ends_36 <| z_istore_n 2 dX4_ends_37 rfl rfl <| z_iinc (v := x3 + 1) dX4_ends_38 rfl rfl rfl <| z_goto 16 dX4_ends_41 (by decide) <| k1
set_option maxRecDepth 20000 in
theorem bX4_those_0 {x1 x2 : Int32} {D : zM} {P : Option Int32 → zM → Prop}  (k1 : z_wi x1 0 (D 46 5 - 1) → z_wi x2 0 4 → z_Ok mX4_those 24 [some (.ref 46), some (.int x1), some (.int x2), none, none] [.int x1, .ref 46] D P) (k2 : z_wi x1 0 (D 46 5 - 1) → ¬ z_wi x2 0 4 → P (some (-2)) D) (k3 : ¬ z_wi x1 0 (D 46 5 - 1) → P (some (-1)) D) : z_Ok mX4_those 0 [some (.ref 46), some (.int x1), some (.int x2), none, none] [] D P := z_aload_n 0 dX4_those_0 rfl rfl <| z_iload_n 1 dX4_those_1 rfl rfl <| z_callV (n := 1) [.int x1] [] dX4_those_2 tX4_isName kRX4_69 (by decide) pnX4_isName rfl rfl rfl rfl (Nat.le_of_ble_eq_true rfl) (by simp [Value.category]) (by simp [Value.category]) (uX4_isName x1 D) (fun r D1 q1 => z_bool q1 (fun c1 => z_if_ne (x := 1) 10 dX4_those_5 (by decide) (fun _ => z_iload_n 2 dX4_those_10 rfl rfl <| z_iconst (v := 0) dX4_those_11 (by decide) <| z_iconst (v := 4) dX4_those_12 (by decide) <| z_callS (n := 3) [.int x2, .int 0, .int 4] [] dX4_those_13 tX4_within kRX4_47 (by decide) pnX4_within rfl rfl (Nat.le_of_ble_eq_true rfl) (by simp [Value.category]) (by simp [Value.category]) (uX4_within x2 0 4 D) (fun r D1 q1 => z_bool q1 (fun c2 => z_if_ne (x := 1) 22 dX4_those_16 (by decide) (fun _ => z_aload_n 0 dX4_those_22 rfl rfl <| z_iload_n 1 dX4_those_23 rfl rfl <| k1 c1 c2) (fun h => absurd h (by decide))) (fun c3 => z_if_ne (x := 0) 22 dX4_those_16 (by decide) (fun h => absurd h (by decide)) (fun _ => z_bipush (v := (-2)) dX4_those_19 (by decide) <| z_ret (ty := .int) dX4_those_21 rfl rfl (k2 c1 c3))))) (fun h => absurd h (by decide))) (fun c4 => z_if_ne (x := 0) 10 dX4_those_5 (by decide) (fun h => absurd h (by decide)) (fun _ => z_iconst (v := (-1)) dX4_those_8 (by decide) <| z_ret (ty := .int) dX4_those_9 rfl rfl (k3 c4))))
set_option maxRecDepth 20000 in
theorem sX4_those_24 {lv : List (Option Value)} {v0 : Int32} {D : zM} {P : Option Int32 → zM → Prop} {Q : zM → Prop} (hC : z_Cv mX4_laysArrows [.ref 46, .int v0] D Q) (kk : ∀ D1, Q D1 → z_Ok mX4_those 27 lv [] D1 P) : z_Ok mX4_those 24 lv [.int v0, .ref 46] D P := z_callV (n := 1) [.int v0] [] dX4_those_24 tX4_laysArrows kRX4_116 (by decide) pnX4_laysArrows rfl rfl rfl rfl (Nat.le_of_ble_eq_true rfl) (by simp [Value.category]) (by simp [Value.category]) hC (fun r D1 q1 => z_void q1 (fun q => kk D1 q))
set_option maxRecDepth 20000 in
theorem bX4_those_27 {x1 x2 : Int32} {D : zM} {P : Option Int32 → zM → Prop}  (k1 : z_Ok mX4_those 32 [some (.ref 46), some (.int x1), some (.int x2), some (.int 0), some (.int 0)] [] D P) : z_Ok mX4_those 27 [some (.ref 46), some (.int x1), some (.int x2), none, none] [] D P := z_iconst (v := 0) dX4_those_27 (by decide) <| z_istore_n 3 dX4_those_28 rfl rfl <| z_iconst (v := 0) dX4_those_29 (by decide) <| z_istore dX4_those_30 rfl <| k1
set_option maxRecDepth 20000 in
theorem bX4_those_32 {x1 x2 x3 x4 : Int32} {D : zM} {P : Option Int32 → zM → Prop}  (k1 : 10 ≤ x4 → P (some x3) D) (k2 : ¬ 10 ≤ x4 → z_Ok mX4_those 43 [some (.ref 46), some (.int x1), some (.int x2), some (.int x3), some (.int x4)] [.int x1, .int x4, .ref 46] D P) : z_Ok mX4_those 32 [some (.ref 46), some (.int x1), some (.int x2), some (.int x3), some (.int x4)] [] D P := z_iload dX4_those_32 rfl <| z_bipush (v := 10) dX4_those_34 (by decide) <| z_icmp_ge (x := x4) (y := 10) 71 dX4_those_36 (by decide) (fun c1 => z_iload_n 3 dX4_those_71 rfl rfl <| z_ret (ty := .int) dX4_those_72 rfl rfl (k1 c1)) (fun c2 => z_aload_n 0 dX4_those_39 rfl rfl <| z_iload dX4_those_40 rfl <| z_iload_n 1 dX4_those_42 rfl rfl <| k2 c2)
set_option maxRecDepth 20000 in
theorem sX4_those_43 {lv : List (Option Value)} {v0 v1 : Int32} {D : zM} {P : Option Int32 → zM → Prop} {Q : zM → Prop} (hC : z_Cv mX4_follows [.ref 46, .int v0, .int v1] D Q) (kk : ∀ D1, Q D1 → z_Ok mX4_those 46 lv [] D1 P) : z_Ok mX4_those 43 lv [.int v1, .int v0, .ref 46] D P := z_callV (n := 2) [.int v0, .int v1] [] dX4_those_43 tX4_follows kRX4_119 (by decide) pnX4_follows rfl rfl rfl rfl (Nat.le_of_ble_eq_true rfl) (by simp [Value.category]) (by simp [Value.category]) hC (fun r D1 q1 => z_void q1 (fun q => kk D1 q))
set_option maxRecDepth 20000 in
theorem bX4_those_46 {x1 x2 x3 x4 : Int32} {D : zM} {P : Option Int32 → zM → Prop}  (k1 : ¬ (D 46 13) = x2 → z_Ok mX4_those 32 [some (.ref 46), some (.int x1), some (.int x2), some (.int (x3 ||| 0)), some (.int (x4 + 1))] [] D P) (k2 : (D 46 13) = x2 → z_Ok mX4_those 32 [some (.ref 46), some (.int x1), some (.int x2), some (.int (x3 ||| ((1 : Int32) <<< (x4 &&& 31)))), some (.int (x4 + 1))] [] D P) : z_Ok mX4_those 46 [some (.ref 46), some (.int x1), some (.int x2), some (.int x3), some (.int x4)] [] D P := z_iload_n 3 dX4_those_46 rfl rfl <| z_aload_n 0 dX4_those_47 rfl rfl <| z_geti 13 dX4_those_48 fRX4_101 rfl rfl <| z_iload_n 2 dX4_those_51 rfl rfl <| z_icmp_ne (x := D 46 13) (y := x2) 62 dX4_those_52 (by decide) (fun c1 => z_iconst (v := 0) dX4_those_62 (by decide) <| z_ior dX4_those_63 <| z_istore_n 3 dX4_those_64 rfl rfl <| z_iinc (v := x4 + 1) dX4_those_65 rfl rfl rfl <| z_goto 32 dX4_those_68 (by decide) <| k1 c1) (fun c2 => z_iconst (v := 1) dX4_those_55 (by decide) <| z_iload dX4_those_56 rfl <| z_ishl dX4_those_58 <| z_goto 63 dX4_those_59 (by decide) <| z_ior dX4_those_63 <| z_istore_n 3 dX4_those_64 rfl rfl <| z_iinc (v := x4 + 1) dX4_those_65 rfl rfl rfl <| z_goto 32 dX4_those_68 (by decide) <| k2 c2)
set_option maxRecDepth 20000 in
theorem bX4_keeps_0 {D : zM} {P : Option Int32 → zM → Prop}  (k1 : z_Ok mX4_keeps 18 [some (.ref 46), some (.int 0)] [] (z_up (z_up D 46 17 (D 46 14)) 46 18 (D 46 13)) P) : z_Ok mX4_keeps 0 [some (.ref 46), none] [] D P := z_aload_n 0 dX4_keeps_0 rfl rfl <| z_aload_n 0 dX4_keeps_1 rfl rfl <| z_geti 14 dX4_keeps_2 fRX4_107 rfl rfl <| z_put 17 dX4_keeps_5 pRX4_126 rfl rfl <| z_aload_n 0 dX4_keeps_8 rfl rfl <| z_aload_n 0 dX4_keeps_9 rfl rfl <| z_geti 13 dX4_keeps_10 fRX4_101 rfl rfl <| z_put 18 dX4_keeps_13 pRX4_129 rfl rfl <| z_iconst (v := 0) dX4_keeps_16 (by decide) <| z_istore_n 1 dX4_keeps_17 rfl rfl <| k1
set_option maxRecDepth 20000 in
theorem bX4_keeps_18 {x1 : Int32} {D : zM} {P : Option Int32 → zM → Prop}  (h1 : ¬ (D 46 14) < x1 → vp_in x1 41) (k1 : (D 46 14) < x1 → P none D) (k2 : ¬ (D 46 14) < x1 → z_Ok mX4_keeps 18 [some (.ref 46), some (.int (x1 + 1))] [] (z_up D 57 x1.toNatClampNeg (D 56 x1.toNatClampNeg)) P) : z_Ok mX4_keeps 18 [some (.ref 46), some (.int x1)] [] D P := z_iload_n 1 dX4_keeps_18 rfl rfl <| z_aload_n 0 dX4_keeps_19 rfl rfl <| z_geti 14 dX4_keeps_20 fRX4_107 rfl rfl <| z_icmp_gt (x := x1) (y := D 46 14) 44 dX4_keeps_23 (by decide) (fun c1 => z_vret dX4_keeps_44 rfl (k1 c1)) (fun c2 => z_aload_n 0 dX4_keeps_26 rfl rfl <| z_getr 19 57 dX4_keeps_27 fRX4_41 rfl rfl <| z_iload_n 1 dX4_keeps_30 rfl rfl <| z_aload_n 0 dX4_keeps_31 rfl rfl <| z_getr 16 56 dX4_keeps_32 fRX4_38 rfl rfl <| z_iload_n 1 dX4_keeps_35 rfl rfl <| z_iald dX4_keeps_36 rfl (h1 c2) <| z_iast dX4_keeps_37 rfl (h1 c2) <| z_iinc (v := x1 + 1) dX4_keeps_38 rfl rfl rfl <| z_goto 18 dX4_keeps_41 (by decide) <| k2 c2)
set_option maxRecDepth 20000 in
theorem bX4_isAsKept_0 {D : zM} {P : Option Int32 → zM → Prop}  (k1 : ¬ (D 46 14) = (D 46 17) → z_Ok mX4_isAsKept 30 [some (.ref 46), some (.int 0), some (.int 0)] [] D P) (k2 : (D 46 14) = (D 46 17) → ¬ (D 46 13) = (D 46 18) → z_Ok mX4_isAsKept 30 [some (.ref 46), some (.int 0), some (.int 0)] [] D P) (k3 : (D 46 14) = (D 46 17) → (D 46 13) = (D 46 18) → z_Ok mX4_isAsKept 30 [some (.ref 46), some (.int 1), some (.int 0)] [] D P) : z_Ok mX4_isAsKept 0 [some (.ref 46), none, none] [] D P := z_aload_n 0 dX4_isAsKept_0 rfl rfl <| z_geti 14 dX4_isAsKept_1 fRX4_107 rfl rfl <| z_aload_n 0 dX4_isAsKept_4 rfl rfl <| z_geti 17 dX4_isAsKept_5 fRX4_126 rfl rfl <| z_icmp_ne (x := D 46 14) (y := D 46 17) 26 dX4_isAsKept_8 (by decide) (fun c1 => z_iconst (v := 0) dX4_isAsKept_26 (by decide) <| z_istore_n 1 dX4_isAsKept_27 rfl rfl <| z_iconst (v := 0) dX4_isAsKept_28 (by decide) <| z_istore_n 2 dX4_isAsKept_29 rfl rfl <| k1 c1) (fun c2 => z_aload_n 0 dX4_isAsKept_11 rfl rfl <| z_geti 13 dX4_isAsKept_12 fRX4_101 rfl rfl <| z_aload_n 0 dX4_isAsKept_15 rfl rfl <| z_geti 18 dX4_isAsKept_16 fRX4_129 rfl rfl <| z_icmp_ne (x := D 46 13) (y := D 46 18) 26 dX4_isAsKept_19 (by decide) (fun c3 => z_iconst (v := 0) dX4_isAsKept_26 (by decide) <| z_istore_n 1 dX4_isAsKept_27 rfl rfl <| z_iconst (v := 0) dX4_isAsKept_28 (by decide) <| z_istore_n 2 dX4_isAsKept_29 rfl rfl <| k2 c2 c3) (fun c4 => z_iconst (v := 1) dX4_isAsKept_22 (by decide) <| z_goto 27 dX4_isAsKept_23 (by decide) <| z_istore_n 1 dX4_isAsKept_27 rfl rfl <| z_iconst (v := 0) dX4_isAsKept_28 (by decide) <| z_istore_n 2 dX4_isAsKept_29 rfl rfl <| k3 c2 c4))
set_option maxRecDepth 20000 in
theorem bX4_isAsKept_30 {x1 x2 : Int32} {D : zM} {P : Option Int32 → zM → Prop}  (h1 : (D 46 14) < x2 → narrow .boolean (.int x1) = .int x1) (h2 : ¬ (D 46 14) < x2 → x1 = 0 → narrow .boolean (.int x1) = .int x1) (h3 : ¬ (D 46 14) < x2 → ¬ x1 = 0 → vp_in x2 41) (k1 : (D 46 14) < x2 → P (some x1) D) (k2 : ¬ (D 46 14) < x2 → x1 = 0 → P (some x1) D) (k3 : ¬ (D 46 14) < x2 → ¬ x1 = 0 → ¬ (D 56 x2.toNatClampNeg) = (D 57 x2.toNatClampNeg) → z_Ok mX4_isAsKept 30 [some (.ref 46), some (.int 0), some (.int (x2 + 1))] [] D P) (k4 : ¬ (D 46 14) < x2 → ¬ x1 = 0 → (D 56 x2.toNatClampNeg) = (D 57 x2.toNatClampNeg) → z_Ok mX4_isAsKept 30 [some (.ref 46), some (.int 1), some (.int (x2 + 1))] [] D P) : z_Ok mX4_isAsKept 30 [some (.ref 46), some (.int x1), some (.int x2)] [] D P := z_iload_n 2 dX4_isAsKept_30 rfl rfl <| z_aload_n 0 dX4_isAsKept_31 rfl rfl <| z_geti 14 dX4_isAsKept_32 fRX4_107 rfl rfl <| z_icmp_gt (x := x2) (y := D 46 14) 69 dX4_isAsKept_35 (by decide) (fun c1 => z_iload_n 1 dX4_isAsKept_69 rfl rfl <| z_ret (ty := .boolean) dX4_isAsKept_70 rfl (h1 c1) (k1 c1)) (fun c2 => z_iload_n 1 dX4_isAsKept_38 rfl rfl <| z_if_eq (x := x1) 69 dX4_isAsKept_39 (by decide) (fun c3 => z_iload_n 1 dX4_isAsKept_69 rfl rfl <| z_ret (ty := .boolean) dX4_isAsKept_70 rfl (h2 c2 c3) (k2 c2 c3)) (fun c4 => z_aload_n 0 dX4_isAsKept_42 rfl rfl <| z_getr 16 56 dX4_isAsKept_43 fRX4_38 rfl rfl <| z_iload_n 2 dX4_isAsKept_46 rfl rfl <| z_iald dX4_isAsKept_47 rfl (h3 c2 c4) <| z_aload_n 0 dX4_isAsKept_48 rfl rfl <| z_getr 19 57 dX4_isAsKept_49 fRX4_41 rfl rfl <| z_iload_n 2 dX4_isAsKept_52 rfl rfl <| z_iald dX4_isAsKept_53 rfl (h3 c2 c4) <| z_icmp_ne (x := D 56 x2.toNatClampNeg) (y := D 57 x2.toNatClampNeg) 61 dX4_isAsKept_54 (by decide) (fun c5 => z_iconst (v := 0) dX4_isAsKept_61 (by decide) <| z_istore_n 1 dX4_isAsKept_62 rfl rfl <| z_iinc (v := x2 + 1) dX4_isAsKept_63 rfl rfl rfl <| z_goto 30 dX4_isAsKept_66 (by decide) <| k3 c2 c4 c5) (fun c6 => z_iconst (v := 1) dX4_isAsKept_57 (by decide) <| z_goto 62 dX4_isAsKept_58 (by decide) <| z_istore_n 1 dX4_isAsKept_62 rfl rfl <| z_iinc (v := x2 + 1) dX4_isAsKept_63 rfl rfl rfl <| z_goto 30 dX4_isAsKept_66 (by decide) <| k4 c2 c4 c6)))
end
section
set_option maxRecDepth 20000 in
theorem bX4_isIdle_0 {x1 x2 : Int32} {D : zM} {P : Option Int32 → zM → Prop}  (h1 : vp_in ((5 * x1) + x2) 50) (k1 : (D 52 ((5 * x1) + x2).toNatClampNeg) = (-9) → z_Ok mX4_isIdle 26 [some (.ref 46), some (.int x1), some (.int x2), some (.int (D 52 ((5 * x1) + x2).toNatClampNeg)), some (.int 0), none] [.int x2, .ref 46] D P) (k2 : ¬ (D 52 ((5 * x1) + x2).toNatClampNeg) = (-9) → z_Ok mX4_isIdle 26 [some (.ref 46), some (.int x1), some (.int x2), some (.int (D 52 ((5 * x1) + x2).toNatClampNeg)), some (.int 1), none] [.int x2, .ref 46] D P) : z_Ok mX4_isIdle 0 [some (.ref 46), some (.int x1), some (.int x2), none, none, none] [] D P := z_aload_n 0 dX4_isIdle_0 rfl rfl <| z_getr 9 52 dX4_isIdle_1 fRX4_26 rfl rfl <| z_iconst (v := 5) dX4_isIdle_4 (by decide) <| z_iload_n 1 dX4_isIdle_5 rfl rfl <| z_imul dX4_isIdle_6 <| z_iload_n 2 dX4_isIdle_7 rfl rfl <| z_iadd dX4_isIdle_8 <| z_iald dX4_isIdle_9 rfl h1 <| z_istore_n 3 dX4_isIdle_10 rfl rfl <| z_iload_n 3 dX4_isIdle_11 rfl rfl <| z_bipush (v := (-9)) dX4_isIdle_12 (by decide) <| z_icmp_eq (x := D 52 ((5 * x1) + x2).toNatClampNeg) (y := (-9)) 21 dX4_isIdle_14 (by decide) (fun c1 => z_iconst (v := 0) dX4_isIdle_21 (by decide) <| z_istore dX4_isIdle_22 rfl <| z_aload_n 0 dX4_isIdle_24 rfl rfl <| z_iload_n 2 dX4_isIdle_25 rfl rfl <| k1 c1) (fun c2 => z_iconst (v := 1) dX4_isIdle_17 (by decide) <| z_goto 22 dX4_isIdle_18 (by decide) <| z_istore dX4_isIdle_22 rfl <| z_aload_n 0 dX4_isIdle_24 rfl rfl <| z_iload_n 2 dX4_isIdle_25 rfl rfl <| k2 c2)
set_option maxRecDepth 20000 in
theorem sX4_isIdle_26 {lv : List (Option Value)} {v0 : Int32} {D : zM} {P : Option Int32 → zM → Prop} {Q : zM → Prop} (hC : z_Cv mX4_laysArrows [.ref 46, .int v0] D Q) (kk : ∀ D1, Q D1 → z_Ok mX4_isIdle 29 lv [] D1 P) : z_Ok mX4_isIdle 26 lv [.int v0, .ref 46] D P := z_callV (n := 1) [.int v0] [] dX4_isIdle_26 tX4_laysArrows kRX4_116 (by decide) pnX4_laysArrows rfl rfl rfl rfl (Nat.le_of_ble_eq_true rfl) (by simp [Value.category]) (by simp [Value.category]) hC (fun r D1 q1 => z_void q1 (fun q => kk D1 q))
set_option maxRecDepth 20000 in
theorem bX4_isIdle_29 {x1 x2 x3 x4 : Int32} {D : zM} {P : Option Int32 → zM → Prop}  (k1 : z_Ok mX4_isIdle 32 [some (.ref 46), some (.int x1), some (.int x2), some (.int x3), some (.int x4), some (.int 0)] [] D P) : z_Ok mX4_isIdle 29 [some (.ref 46), some (.int x1), some (.int x2), some (.int x3), some (.int x4), none] [] D P := z_iconst (v := 0) dX4_isIdle_29 (by decide) <| z_istore dX4_isIdle_30 rfl <| k1
set_option maxRecDepth 20000 in
theorem bX4_isIdle_32 {x1 x2 x3 x4 x5 : Int32} {D : zM} {P : Option Int32 → zM → Prop}  (h1 : 10 ≤ x5 → narrow .boolean (.int x4) = .int x4) (h2 : ¬ 10 ≤ x5 → x4 = 0 → narrow .boolean (.int x4) = .int x4) (h3 : ¬ 10 ≤ x5 → ¬ x4 = 0 → zb (D 46 7) x5 → vp_in x1 10) (k1 : 10 ≤ x5 → P (some x4) D) (k2 : ¬ 10 ≤ x5 → x4 = 0 → P (some x4) D) (k3 : ¬ 10 ≤ x5 → ¬ x4 = 0 → zb (D 46 7) x5 → z_Ok mX4_isIdle 67 [some (.ref 46), some (.int x1), some (.int x2), some (.int x3), some (.int x4), some (.int x5)] [.int x2, .int x5, .ref 46] (z_up D 54 x1.toNatClampNeg x3) P) (k4 : ¬ 10 ≤ x5 → ¬ x4 = 0 → ¬ zb (D 46 7) x5 → z_Ok mX4_isIdle 32 [some (.ref 46), some (.int x1), some (.int x2), some (.int x3), some (.int x4), some (.int (x5 + 1))] [] D P) : z_Ok mX4_isIdle 32 [some (.ref 46), some (.int x1), some (.int x2), some (.int x3), some (.int x4), some (.int x5)] [] D P := z_iload dX4_isIdle_32 rfl <| z_bipush (v := 10) dX4_isIdle_34 (by decide) <| z_icmp_ge (x := x5) (y := 10) 101 dX4_isIdle_36 (by decide) (fun c1 => z_iload dX4_isIdle_101 rfl <| z_ret (ty := .boolean) dX4_isIdle_103 rfl (h1 c1) (k1 c1)) (fun c2 => z_iload dX4_isIdle_39 rfl <| z_if_eq (x := x4) 101 dX4_isIdle_41 (by decide) (fun c3 => z_iload dX4_isIdle_101 rfl <| z_ret (ty := .boolean) dX4_isIdle_103 rfl (h2 c2 c3) (k2 c2 c3)) (fun c4 => z_aload_n 0 dX4_isIdle_44 rfl rfl <| z_geti 7 dX4_isIdle_45 fRX4_72 rfl rfl <| z_iload dX4_isIdle_48 rfl <| z_callS (n := 2) [.int (D 46 7), .int x5] [] dX4_isIdle_50 tX4_isIn kRX4_75 (by decide) pnX4_isIn rfl rfl (Nat.le_of_ble_eq_true rfl) (by simp [Value.category]) (by simp [Value.category]) (uX4_isIn (D 46 7) x5 D) (fun r D1 q1 => z_bool q1 (fun c5 => z_if_eq (x := 1) 95 dX4_isIdle_53 (by decide) (fun h => absurd h (by decide)) (fun _ => z_aload_n 0 dX4_isIdle_56 rfl rfl <| z_getr 11 54 dX4_isIdle_57 fRX4_32 rfl rfl <| z_iload_n 1 dX4_isIdle_60 rfl rfl <| z_iload_n 3 dX4_isIdle_61 rfl rfl <| z_iast dX4_isIdle_62 rfl (h3 c2 c4 c5) <| z_aload_n 0 dX4_isIdle_63 rfl rfl <| z_iload dX4_isIdle_64 rfl <| z_iload_n 2 dX4_isIdle_66 rfl rfl <| k3 c2 c4 c5)) (fun c6 => z_if_eq (x := 0) 95 dX4_isIdle_53 (by decide) (fun _ => z_iinc (v := x5 + 1) dX4_isIdle_95 rfl rfl rfl <| z_goto 32 dX4_isIdle_98 (by decide) <| k4 c2 c4 c6) (fun h => absurd h (by decide))))))
set_option maxRecDepth 20000 in
theorem sX4_isIdle_67 {lv : List (Option Value)} {v0 v1 : Int32} {D : zM} {P : Option Int32 → zM → Prop} {Q : zM → Prop} (hC : z_Cv mX4_follows [.ref 46, .int v0, .int v1] D Q) (kk : ∀ D1, Q D1 → z_Ok mX4_isIdle 70 lv [] D1 P) : z_Ok mX4_isIdle 67 lv [.int v1, .int v0, .ref 46] D P := z_callV (n := 2) [.int v0, .int v1] [] dX4_isIdle_67 tX4_follows kRX4_119 (by decide) pnX4_follows rfl rfl rfl rfl (Nat.le_of_ble_eq_true rfl) (by simp [Value.category]) (by simp [Value.category]) hC (fun r D1 q1 => z_void q1 (fun q => kk D1 q))
set_option maxRecDepth 20000 in
theorem bX4_isIdle_70 {x1 x2 x3 x4 x5 : Int32} {D : zM} {P : Option Int32 → zM → Prop}  (k1 : z_Ok mX4_isIdle 71 [some (.ref 46), some (.int x1), some (.int x2), some (.int x3), some (.int x4), some (.int x5)] [.ref 46] D P) : z_Ok mX4_isIdle 70 [some (.ref 46), some (.int x1), some (.int x2), some (.int x3), some (.int x4), some (.int x5)] [] D P := z_aload_n 0 dX4_isIdle_70 rfl rfl <| k1
set_option maxRecDepth 20000 in
theorem sX4_isIdle_71 {lv : List (Option Value)} {D : zM} {P : Option Int32 → zM → Prop} {Q : zM → Prop} (hC : z_Cv mX4_keeps [.ref 46] D Q) (kk : ∀ D1, Q D1 → z_Ok mX4_isIdle 74 lv [] D1 P) : z_Ok mX4_isIdle 71 lv [.ref 46] D P := z_callV (n := 0) [] [] dX4_isIdle_71 tX4_keeps kRX4_132 (by decide) pnX4_keeps rfl rfl rfl rfl (Nat.le_of_ble_eq_true rfl) (by simp [Value.category]) (by simp [Value.category]) hC (fun r D1 q1 => z_void q1 (fun q => kk D1 q))
set_option maxRecDepth 20000 in
theorem bX4_isIdle_74 {x1 x2 x3 x4 x5 : Int32} {D : zM} {P : Option Int32 → zM → Prop}  (h1 : vp_in x1 10) (k1 : z_Ok mX4_isIdle 86 [some (.ref 46), some (.int x1), some (.int x2), some (.int x3), some (.int x4), some (.int x5)] [.int x2, .int x5, .ref 46] (z_up D 54 x1.toNatClampNeg (-9)) P) : z_Ok mX4_isIdle 74 [some (.ref 46), some (.int x1), some (.int x2), some (.int x3), some (.int x4), some (.int x5)] [] D P := z_aload_n 0 dX4_isIdle_74 rfl rfl <| z_getr 11 54 dX4_isIdle_75 fRX4_32 rfl rfl <| z_iload_n 1 dX4_isIdle_78 rfl rfl <| z_bipush (v := (-9)) dX4_isIdle_79 (by decide) <| z_iast dX4_isIdle_81 rfl h1 <| z_aload_n 0 dX4_isIdle_82 rfl rfl <| z_iload dX4_isIdle_83 rfl <| z_iload_n 2 dX4_isIdle_85 rfl rfl <| k1
set_option maxRecDepth 20000 in
theorem sX4_isIdle_86 {lv : List (Option Value)} {v0 v1 : Int32} {D : zM} {P : Option Int32 → zM → Prop} {Q : zM → Prop} (hC : z_Cv mX4_follows [.ref 46, .int v0, .int v1] D Q) (kk : ∀ D1, Q D1 → z_Ok mX4_isIdle 89 lv [] D1 P) : z_Ok mX4_isIdle 86 lv [.int v1, .int v0, .ref 46] D P := z_callV (n := 2) [.int v0, .int v1] [] dX4_isIdle_86 tX4_follows kRX4_119 (by decide) pnX4_follows rfl rfl rfl rfl (Nat.le_of_ble_eq_true rfl) (by simp [Value.category]) (by simp [Value.category]) hC (fun r D1 q1 => z_void q1 (fun q => kk D1 q))
set_option maxRecDepth 20000 in
theorem bX4_isIdle_89 {x1 x2 x3 x4 x5 : Int32} {D : zM} {P : Option Int32 → zM → Prop}  (k1 : z_Ok mX4_isIdle 90 [some (.ref 46), some (.int x1), some (.int x2), some (.int x3), some (.int x4), some (.int x5)] [.ref 46] D P) : z_Ok mX4_isIdle 89 [some (.ref 46), some (.int x1), some (.int x2), some (.int x3), some (.int x4), some (.int x5)] [] D P := z_aload_n 0 dX4_isIdle_89 rfl rfl <| k1
set_option maxRecDepth 20000 in
theorem sX4_isIdle_90 {lv : List (Option Value)} {D : zM} {P : Option Int32 → zM → Prop} {Q : Int32 → zM → Prop} (hC : z_Ci mX4_isAsKept [.ref 46] D Q) (kk : ∀ r D1, Q r D1 → z_Ok mX4_isIdle 93 lv [.int r] D1 P) : z_Ok mX4_isIdle 90 lv [.ref 46] D P := z_callV (n := 0) [] [] dX4_isIdle_90 tX4_isAsKept kRX4_135 (by decide) pnX4_isAsKept rfl rfl rfl rfl (Nat.le_of_ble_eq_true rfl) (by simp [Value.category]) (by simp [Value.category]) hC (fun r D1 q1 => z_intr q1 (fun r q => kk r D1 q))
set_option maxRecDepth 20000 in
theorem bX4_isIdle_93 {x1 x2 x3 x4 x5 y0 : Int32} {D : zM} {P : Option Int32 → zM → Prop}  (k1 : z_Ok mX4_isIdle 32 [some (.ref 46), some (.int x1), some (.int x2), some (.int x3), some (.int y0), some (.int (x5 + 1))] [] D P) : z_Ok mX4_isIdle 93 [some (.ref 46), some (.int x1), some (.int x2), some (.int x3), some (.int x4), some (.int x5)] [.int y0] D P := z_istore dX4_isIdle_93 rfl <| z_iinc (v := x5 + 1) dX4_isIdle_95 rfl rfl rfl <| z_goto 32 dX4_isIdle_98 (by decide) <| k1
set_option maxRecDepth 20000 in
theorem bX4_idle_0 {x1 : Int32} {D : zM} {P : Option Int32 → zM → Prop}  (k1 : vp_in x1 10 → z_Ok mX4_idle 13 [some (.ref 46), some (.int x1), some (.int 0), some (.int 0)] [] D P) (k2 : ¬ vp_in x1 10 → P (some (-1)) D) : z_Ok mX4_idle 0 [some (.ref 46), some (.int x1), none, none] [] D P := z_iload_n 1 dX4_idle_0 rfl rfl <| z_callS (n := 1) [.int x1] [] dX4_idle_1 tX4_isPlace kRX4_62 (by decide) pnX4_isPlace rfl rfl (Nat.le_of_ble_eq_true rfl) (by simp [Value.category]) (by simp [Value.category]) (uX4_isPlace x1 D) (fun r D1 q1 => z_bool q1 (fun c1 => z_if_ne (x := 1) 9 dX4_idle_4 (by decide) (fun _ => z_iconst (v := 0) dX4_idle_9 (by decide) <| z_istore_n 2 dX4_idle_10 rfl rfl <| z_iconst (v := 0) dX4_idle_11 (by decide) <| z_istore_n 3 dX4_idle_12 rfl rfl <| k1 c1) (fun h => absurd h (by decide))) (fun c2 => z_if_ne (x := 0) 9 dX4_idle_4 (by decide) (fun h => absurd h (by decide)) (fun _ => z_iconst (v := (-1)) dX4_idle_7 (by decide) <| z_ret (ty := .int) dX4_idle_8 rfl rfl (k2 c2))))
set_option maxRecDepth 20000 in
theorem bX4_idle_13 {x1 x2 x3 : Int32} {D : zM} {P : Option Int32 → zM → Prop}  (k1 : (D 46 5) ≤ x3 → P (some x2) D) (k2 : ¬ (D 46 5) ≤ x3 → z_Ok mX4_idle 25 [some (.ref 46), some (.int x1), some (.int x2), some (.int x3)] [.int x3, .int x1, .ref 46, .int x2] D P) : z_Ok mX4_idle 13 [some (.ref 46), some (.int x1), some (.int x2), some (.int x3)] [] D P := z_iload_n 3 dX4_idle_13 rfl rfl <| z_aload_n 0 dX4_idle_14 rfl rfl <| z_geti 5 dX4_idle_15 fRX4_55 rfl rfl <| z_icmp_ge (x := x3) (y := D 46 5) 46 dX4_idle_18 (by decide) (fun c1 => z_iload_n 2 dX4_idle_46 rfl rfl <| z_ret (ty := .int) dX4_idle_47 rfl rfl (k1 c1)) (fun c2 => z_iload_n 2 dX4_idle_21 rfl rfl <| z_aload_n 0 dX4_idle_22 rfl rfl <| z_iload_n 1 dX4_idle_23 rfl rfl <| z_iload_n 3 dX4_idle_24 rfl rfl <| k2 c2)
set_option maxRecDepth 20000 in
theorem sX4_idle_25 {lv : List (Option Value)} {v0 v1 w0 : Int32} {D : zM} {P : Option Int32 → zM → Prop} {Q : Int32 → zM → Prop} (hC : z_Ci mX4_isIdle [.ref 46, .int v0, .int v1] D Q) (kk : ∀ r D1, Q r D1 → z_Ok mX4_idle 28 lv [.int r, .int w0] D1 P) : z_Ok mX4_idle 25 lv [.int v1, .int v0, .ref 46, .int w0] D P := z_callV (n := 2) [.int v0, .int v1] [.int w0] dX4_idle_25 tX4_isIdle kRX4_139 (by decide) pnX4_isIdle rfl rfl rfl rfl (Nat.le_of_ble_eq_true rfl) (by simp [Value.category]) (by simp [Value.category]) hC (fun r D1 q1 => z_intr q1 (fun r q => kk r D1 q))
set_option maxRecDepth 20000 in
theorem bX4_idle_28 {x1 x2 x3 y0 y1 : Int32} {D : zM} {P : Option Int32 → zM → Prop}  (k1 : y0 = 0 → z_Ok mX4_idle 13 [some (.ref 46), some (.int x1), some (.int (y1 ||| 0)), some (.int (x3 + 1))] [] D P) (k2 : ¬ y0 = 0 → z_Ok mX4_idle 13 [some (.ref 46), some (.int x1), some (.int (y1 ||| ((1 : Int32) <<< (x3 &&& 31)))), some (.int (x3 + 1))] [] D P) : z_Ok mX4_idle 28 [some (.ref 46), some (.int x1), some (.int x2), some (.int x3)] [.int y0, .int y1] D P := z_if_eq (x := y0) 37 dX4_idle_28 (by decide) (fun c1 => z_iconst (v := 0) dX4_idle_37 (by decide) <| z_ior dX4_idle_38 <| z_istore_n 2 dX4_idle_39 rfl rfl <| z_iinc (v := x3 + 1) dX4_idle_40 rfl rfl rfl <| z_goto 13 dX4_idle_43 (by decide) <| k1 c1) (fun c2 => z_iconst (v := 1) dX4_idle_31 (by decide) <| z_iload_n 3 dX4_idle_32 rfl rfl <| z_ishl dX4_idle_33 <| z_goto 38 dX4_idle_34 (by decide) <| z_ior dX4_idle_38 <| z_istore_n 2 dX4_idle_39 rfl rfl <| z_iinc (v := x3 + 1) dX4_idle_40 rfl rfl rfl <| z_goto 13 dX4_idle_43 (by decide) <| k2 c2)
set_option maxRecDepth 20000 in
theorem bX4_moreBy_0 {x1 x2 : Int32} {D : zM} {P : Option Int32 → zM → Prop}  (k1 : z_Ok mX4_moreBy 2 [some (.ref 46), some (.int x1), some (.int x2), none, none] [.int x2, .ref 46] D P) : z_Ok mX4_moreBy 0 [some (.ref 46), some (.int x1), some (.int x2), none, none] [] D P := z_aload_n 0 dX4_moreBy_0 rfl rfl <| z_iload_n 2 dX4_moreBy_1 rfl rfl <| k1
set_option maxRecDepth 20000 in
theorem sX4_moreBy_2 {lv : List (Option Value)} {v0 : Int32} {D : zM} {P : Option Int32 → zM → Prop} {Q : zM → Prop} (hC : z_Cv mX4_findFar [.ref 46, .int v0] D Q) (kk : ∀ D1, Q D1 → z_Ok mX4_moreBy 5 lv [] D1 P) : z_Ok mX4_moreBy 2 lv [.int v0, .ref 46] D P := z_callV (n := 1) [.int v0] [] dX4_moreBy_2 tX4_findFar kRX4_90 (by decide) pnX4_findFar rfl rfl rfl rfl (Nat.le_of_ble_eq_true rfl) (by simp [Value.category]) (by simp [Value.category]) hC (fun r D1 q1 => z_void q1 (fun q => kk D1 q))
set_option maxRecDepth 20000 in
theorem bX4_moreBy_5 {x1 x2 : Int32} {D : zM} {P : Option Int32 → zM → Prop}  (k1 : z_Ok mX4_moreBy 7 [some (.ref 46), some (.int x1), some (.int x2), none, none] [.int x1, .ref 46] D P) : z_Ok mX4_moreBy 5 [some (.ref 46), some (.int x1), some (.int x2), none, none] [] D P := z_aload_n 0 dX4_moreBy_5 rfl rfl <| z_iload_n 1 dX4_moreBy_6 rfl rfl <| k1
set_option maxRecDepth 20000 in
theorem sX4_moreBy_7 {lv : List (Option Value)} {v0 : Int32} {D : zM} {P : Option Int32 → zM → Prop} {Q : Int32 → zM → Prop} (hC : z_Ci mX4_bestAt [.ref 46, .int v0] D Q) (kk : ∀ r D1, Q r D1 → z_Ok mX4_moreBy 10 lv [.int r] D1 P) : z_Ok mX4_moreBy 7 lv [.int v0, .ref 46] D P := z_callV (n := 1) [.int v0] [] dX4_moreBy_7 tX4_bestAt kRX4_94 (by decide) pnX4_bestAt rfl rfl rfl rfl (Nat.le_of_ble_eq_true rfl) (by simp [Value.category]) (by simp [Value.category]) hC (fun r D1 q1 => z_intr q1 (fun r q => kk r D1 q))
set_option maxRecDepth 20000 in
theorem bX4_moreBy_10 {x1 x2 y0 : Int32} {D : zM} {P : Option Int32 → zM → Prop}  (h1 : vp_in ((5 * x1) + x2) 50) (k1 : ¬ (D 52 ((5 * x1) + x2).toNatClampNeg) = (-9) → P (some (-9)) D) (k2 : (D 52 ((5 * x1) + x2).toNatClampNeg) = (-9) → ¬ y0 = (-9) → z_Ok mX4_moreBy 37 [some (.ref 46), some (.int x1), some (.int x2), some (.int y0), none] [.int x2, .ref 46] D P) (k3 : (D 52 ((5 * x1) + x2).toNatClampNeg) = (-9) → y0 = (-9) → P (some (-9)) D) : z_Ok mX4_moreBy 10 [some (.ref 46), some (.int x1), some (.int x2), none, none] [.int y0] D P := z_istore_n 3 dX4_moreBy_10 rfl rfl <| z_aload_n 0 dX4_moreBy_11 rfl rfl <| z_getr 9 52 dX4_moreBy_12 fRX4_26 rfl rfl <| z_iconst (v := 5) dX4_moreBy_15 (by decide) <| z_iload_n 1 dX4_moreBy_16 rfl rfl <| z_imul dX4_moreBy_17 <| z_iload_n 2 dX4_moreBy_18 rfl rfl <| z_iadd dX4_moreBy_19 <| z_iald dX4_moreBy_20 rfl h1 <| z_bipush (v := (-9)) dX4_moreBy_21 (by decide) <| z_icmp_ne (x := D 52 ((5 * x1) + x2).toNatClampNeg) (y := (-9)) 32 dX4_moreBy_23 (by decide) (fun c1 => z_bipush (v := (-9)) dX4_moreBy_32 (by decide) <| z_ret (ty := .int) dX4_moreBy_34 rfl rfl (k1 c1)) (fun c2 => z_iload_n 3 dX4_moreBy_26 rfl rfl <| z_bipush (v := (-9)) dX4_moreBy_27 (by decide) <| z_icmp_ne (x := y0) (y := (-9)) 35 dX4_moreBy_29 (by decide) (fun c3 => z_aload_n 0 dX4_moreBy_35 rfl rfl <| z_iload_n 2 dX4_moreBy_36 rfl rfl <| k2 c2 c3) (fun c4 => z_bipush (v := (-9)) dX4_moreBy_32 (by decide) <| z_ret (ty := .int) dX4_moreBy_34 rfl rfl (k3 c2 c4)))
set_option maxRecDepth 20000 in
theorem sX4_moreBy_37 {lv : List (Option Value)} {v0 : Int32} {D : zM} {P : Option Int32 → zM → Prop} {Q : zM → Prop} (hC : z_Cv mX4_laysArrows [.ref 46, .int v0] D Q) (kk : ∀ D1, Q D1 → z_Ok mX4_moreBy 40 lv [] D1 P) : z_Ok mX4_moreBy 37 lv [.int v0, .ref 46] D P := z_callV (n := 1) [.int v0] [] dX4_moreBy_37 tX4_laysArrows kRX4_116 (by decide) pnX4_laysArrows rfl rfl rfl rfl (Nat.le_of_ble_eq_true rfl) (by simp [Value.category]) (by simp [Value.category]) hC (fun r D1 q1 => z_void q1 (fun q => kk D1 q))
set_option maxRecDepth 20000 in
theorem bX4_moreBy_40 {x1 x2 x3 : Int32} {D : zM} {P : Option Int32 → zM → Prop}  (k1 : z_Ok mX4_moreBy 43 [some (.ref 46), some (.int x1), some (.int x2), some (.int x3), none] [.int 0, .int x2, .ref 46] D P) : z_Ok mX4_moreBy 40 [some (.ref 46), some (.int x1), some (.int x2), some (.int x3), none] [] D P := z_aload_n 0 dX4_moreBy_40 rfl rfl <| z_iload_n 2 dX4_moreBy_41 rfl rfl <| z_iconst (v := 0) dX4_moreBy_42 (by decide) <| k1
set_option maxRecDepth 20000 in
theorem sX4_moreBy_43 {lv : List (Option Value)} {v0 v1 : Int32} {D : zM} {P : Option Int32 → zM → Prop} {Q : Int32 → zM → Prop} (hC : z_Ci mX4_manyEnd [.ref 46, .int v0, .int v1] D Q) (kk : ∀ r D1, Q r D1 → z_Ok mX4_moreBy 46 lv [.int r] D1 P) : z_Ok mX4_moreBy 43 lv [.int v1, .int v0, .ref 46] D P := z_callV (n := 2) [.int v0, .int v1] [] dX4_moreBy_43 tX4_manyEnd kRX4_123 (by decide) pnX4_manyEnd rfl rfl rfl rfl (Nat.le_of_ble_eq_true rfl) (by simp [Value.category]) (by simp [Value.category]) hC (fun r D1 q1 => z_intr q1 (fun r q => kk r D1 q))
set_option maxRecDepth 20000 in
theorem bX4_moreBy_46 {x1 x2 x3 y0 : Int32} {D : zM} {P : Option Int32 → zM → Prop}  (h1 : vp_in x1 10) (k1 : z_Ok mX4_moreBy 58 [some (.ref 46), some (.int x1), some (.int x2), some (.int x3), some (.int y0)] [.int 0, .int x2, .ref 46] (z_up D 54 x1.toNatClampNeg x3) P) : z_Ok mX4_moreBy 46 [some (.ref 46), some (.int x1), some (.int x2), some (.int x3), none] [.int y0] D P := z_istore dX4_moreBy_46 rfl <| z_aload_n 0 dX4_moreBy_48 rfl rfl <| z_getr 11 54 dX4_moreBy_49 fRX4_32 rfl rfl <| z_iload_n 1 dX4_moreBy_52 rfl rfl <| z_iload_n 3 dX4_moreBy_53 rfl rfl <| z_iast dX4_moreBy_54 rfl h1 <| z_aload_n 0 dX4_moreBy_55 rfl rfl <| z_iload_n 2 dX4_moreBy_56 rfl rfl <| z_iconst (v := 0) dX4_moreBy_57 (by decide) <| k1
set_option maxRecDepth 20000 in
theorem sX4_moreBy_58 {lv : List (Option Value)} {v0 v1 : Int32} {D : zM} {P : Option Int32 → zM → Prop} {Q : Int32 → zM → Prop} (hC : z_Ci mX4_manyEnd [.ref 46, .int v0, .int v1] D Q) (kk : ∀ r D1, Q r D1 → z_Ok mX4_moreBy 61 lv [.int r] D1 P) : z_Ok mX4_moreBy 58 lv [.int v1, .int v0, .ref 46] D P := z_callV (n := 2) [.int v0, .int v1] [] dX4_moreBy_58 tX4_manyEnd kRX4_123 (by decide) pnX4_manyEnd rfl rfl rfl rfl (Nat.le_of_ble_eq_true rfl) (by simp [Value.category]) (by simp [Value.category]) hC (fun r D1 q1 => z_intr q1 (fun r q => kk r D1 q))
set_option maxRecDepth 20000 in
theorem bX4_moreBy_61 {x1 x2 x3 x4 y0 : Int32} {D : zM} {P : Option Int32 → zM → Prop}  (k1 : P (some (y0 - x4)) D) : z_Ok mX4_moreBy 61 [some (.ref 46), some (.int x1), some (.int x2), some (.int x3), some (.int x4)] [.int y0] D P := z_iload dX4_moreBy_61 rfl <| z_isub dX4_moreBy_63 <| z_ret (ty := .int) dX4_moreBy_64 rfl rfl (k1)
set_option maxRecDepth 20000 in
theorem bX4_mend_0 {x1 : Int32} {D : zM} {P : Option Int32 → zM → Prop}  (k1 : z_wi x1 0 2 → z_Ok mX4_mend 14 [some (.ref 46), some (.int x1), none, none, none, none, none] [.int 0, .ref 46] D P) (k2 : ¬ z_wi x1 0 2 → P (some (-2)) D) : z_Ok mX4_mend 0 [some (.ref 46), some (.int x1), none, none, none, none, none] [] D P := z_iload_n 1 dX4_mend_0 rfl rfl <| z_iconst (v := 0) dX4_mend_1 (by decide) <| z_iconst (v := 2) dX4_mend_2 (by decide) <| z_callS (n := 3) [.int x1, .int 0, .int 2] [] dX4_mend_3 tX4_within kRX4_47 (by decide) pnX4_within rfl rfl (Nat.le_of_ble_eq_true rfl) (by simp [Value.category]) (by simp [Value.category]) (uX4_within x1 0 2 D) (fun r D1 q1 => z_bool q1 (fun c1 => z_if_ne (x := 1) 12 dX4_mend_6 (by decide) (fun _ => z_aload_n 0 dX4_mend_12 rfl rfl <| z_iconst (v := 0) dX4_mend_13 (by decide) <| k1 c1) (fun h => absurd h (by decide))) (fun c2 => z_if_ne (x := 0) 12 dX4_mend_6 (by decide) (fun h => absurd h (by decide)) (fun _ => z_bipush (v := (-2)) dX4_mend_9 (by decide) <| z_ret (ty := .int) dX4_mend_11 rfl rfl (k2 c2))))
set_option maxRecDepth 20000 in
theorem sX4_mend_14 {lv : List (Option Value)} {v0 : Int32} {D : zM} {P : Option Int32 → zM → Prop} {Q : Int32 → zM → Prop} (hC : z_Ci mX4_ends [.ref 46, .int v0] D Q) (kk : ∀ r D1, Q r D1 → z_Ok mX4_mend 17 lv [.int r] D1 P) : z_Ok mX4_mend 14 lv [.int v0, .ref 46] D P := z_callV (n := 1) [.int v0] [] dX4_mend_14 tX4_ends kRX4_142 (by decide) pnX4_ends rfl rfl rfl rfl (Nat.le_of_ble_eq_true rfl) (by simp [Value.category]) (by simp [Value.category]) hC (fun r D1 q1 => z_intr q1 (fun r q => kk r D1 q))
set_option maxRecDepth 20000 in
theorem bX4_mend_17 {x1 y0 : Int32} {D : zM} {P : Option Int32 → zM → Prop}  (k1 : z_Ok mX4_mend 27 [some (.ref 46), some (.int x1), some (.int y0), some (.int 0), some (.int (-9)), some (.int 0), none] [] D P) : z_Ok mX4_mend 17 [some (.ref 46), some (.int x1), none, none, none, none, none] [.int y0] D P := z_istore_n 2 dX4_mend_17 rfl rfl <| z_iconst (v := 0) dX4_mend_18 (by decide) <| z_istore_n 3 dX4_mend_19 rfl rfl <| z_bipush (v := (-9)) dX4_mend_20 (by decide) <| z_istore dX4_mend_22 rfl <| z_iconst (v := 0) dX4_mend_24 (by decide) <| z_istore dX4_mend_25 rfl <| k1
set_option maxRecDepth 20000 in
theorem bX4_mend_27 {x1 x2 x3 x4 x5 : Int32} {o6 : Option Value} {D : zM} {P : Option Int32 → zM → Prop}  (k1 : 50 ≤ x5 → ¬ x4 = (-9) → ¬ x1 = 0 → ¬ x1 = 1 → P (some (x2 + x3)) D) (k2 : 50 ≤ x5 → ¬ x4 = (-9) → ¬ x1 = 0 → x1 = 1 → P (some (x4 - x4 / 5 * 5)) D) (k3 : 50 ≤ x5 → ¬ x4 = (-9) → x1 = 0 → P (some (x4 / 5)) D) (k4 : 50 ≤ x5 → x4 = (-9) → P (some (-9)) D) (k5 : ¬ 50 ≤ x5 → (D 46 5) ≤ (x5 - x5 / 5 * 5) → (-9) ≤ x3 → z_Ok mX4_mend 27 [some (.ref 46), some (.int x1), some (.int x2), some (.int x3), some (.int x4), some (.int (x5 + 1)), some (.int (-9))] [] D P) (k6 : ¬ 50 ≤ x5 → (D 46 5) ≤ (x5 - x5 / 5 * 5) → ¬ (-9) ≤ x3 → z_Ok mX4_mend 27 [some (.ref 46), some (.int x1), some (.int x2), some (.int (-9)), some (.int x5), some (.int (x5 + 1)), some (.int (-9))] [] D P) (k7 : ¬ 50 ≤ x5 → ¬ (D 46 5) ≤ (x5 - x5 / 5 * 5) → z_Ok mX4_mend 54 [some (.ref 46), some (.int x1), some (.int x2), some (.int x3), some (.int x4), some (.int x5), o6] [.int (x5 - x5 / 5 * 5), .int (x5 / 5), .ref 46] D P) : z_Ok mX4_mend 27 [some (.ref 46), some (.int x1), some (.int x2), some (.int x3), some (.int x4), some (.int x5), o6] [] D P := z_iload dX4_mend_27 rfl <| z_bipush (v := 50) dX4_mend_29 (by decide) <| z_icmp_ge (x := x5) (y := 50) 83 dX4_mend_31 (by decide) (fun c1 => z_iload dX4_mend_83 rfl <| z_bipush (v := (-9)) dX4_mend_85 (by decide) <| z_icmp_ne (x := x4) (y := (-9)) 93 dX4_mend_87 (by decide) (fun c2 => z_iload_n 1 dX4_mend_93 rfl rfl <| z_if_ne (x := x1) 104 dX4_mend_94 (by decide) (fun c3 => z_iload_n 1 dX4_mend_104 rfl rfl <| z_iconst (v := 1) dX4_mend_105 (by decide) <| z_icmp_ne (x := x1) (y := 1) 116 dX4_mend_106 (by decide) (fun c4 => z_iload_n 2 dX4_mend_116 rfl rfl <| z_iload_n 3 dX4_mend_117 rfl rfl <| z_iadd dX4_mend_118 <| z_ret (ty := .int) dX4_mend_119 rfl rfl (k1 c1 c2 c3 c4)) (fun c5 => z_iload dX4_mend_109 rfl <| z_iconst (v := 5) dX4_mend_111 (by decide) <| z_irem dX4_mend_112 (by decide) <| z_goto 119 dX4_mend_113 (by decide) <| z_ret (ty := .int) dX4_mend_119 rfl rfl (k2 c1 c2 c3 c5))) (fun c6 => z_iload dX4_mend_97 rfl <| z_iconst (v := 5) dX4_mend_99 (by decide) <| z_idiv dX4_mend_100 (by decide) <| z_goto 119 dX4_mend_101 (by decide) <| z_ret (ty := .int) dX4_mend_119 rfl rfl (k3 c1 c2 c6))) (fun c7 => z_bipush (v := (-9)) dX4_mend_90 (by decide) <| z_ret (ty := .int) dX4_mend_92 rfl rfl (k4 c1 c7))) (fun c8 => z_iload dX4_mend_34 rfl <| z_iconst (v := 5) dX4_mend_36 (by decide) <| z_irem dX4_mend_37 (by decide) <| z_aload_n 0 dX4_mend_38 rfl rfl <| z_geti 5 dX4_mend_39 fRX4_55 rfl rfl <| z_icmp_ge (x := x5 - x5 / 5 * 5) (y := D 46 5) 60 dX4_mend_42 (by decide) (fun c9 => z_bipush (v := (-9)) dX4_mend_60 (by decide) <| z_istore dX4_mend_62 rfl <| z_iload dX4_mend_64 rfl <| z_iload_n 3 dX4_mend_66 rfl rfl <| z_icmp_le (x := (-9)) (y := x3) 77 dX4_mend_67 (by decide) (fun c10 => z_iinc (v := x5 + 1) dX4_mend_77 rfl rfl rfl <| z_goto 27 dX4_mend_80 (by decide) <| k5 c8 c9 c10) (fun c11 => z_iload dX4_mend_70 rfl <| z_istore_n 3 dX4_mend_72 rfl rfl <| z_iload dX4_mend_73 rfl <| z_istore dX4_mend_75 rfl <| z_iinc (v := x5 + 1) dX4_mend_77 rfl rfl rfl <| z_goto 27 dX4_mend_80 (by decide) <| k6 c8 c9 c11)) (fun c12 => z_aload_n 0 dX4_mend_45 rfl rfl <| z_iload dX4_mend_46 rfl <| z_iconst (v := 5) dX4_mend_48 (by decide) <| z_idiv dX4_mend_49 (by decide) <| z_iload dX4_mend_50 rfl <| z_iconst (v := 5) dX4_mend_52 (by decide) <| z_irem dX4_mend_53 (by decide) <| k7 c8 c12))
set_option maxRecDepth 20000 in
theorem sX4_mend_54 {lv : List (Option Value)} {v0 v1 : Int32} {D : zM} {P : Option Int32 → zM → Prop} {Q : Int32 → zM → Prop} (hC : z_Ci mX4_moreBy [.ref 46, .int v0, .int v1] D Q) (kk : ∀ r D1, Q r D1 → z_Ok mX4_mend 57 lv [.int r] D1 P) : z_Ok mX4_mend 54 lv [.int v1, .int v0, .ref 46] D P := z_callV (n := 2) [.int v0, .int v1] [] dX4_mend_54 tX4_moreBy kRX4_145 (by decide) pnX4_moreBy rfl rfl rfl rfl (Nat.le_of_ble_eq_true rfl) (by simp [Value.category]) (by simp [Value.category]) hC (fun r D1 q1 => z_intr q1 (fun r q => kk r D1 q))
set_option maxRecDepth 20000 in
theorem bX4_mend_57 {x1 x2 x3 x4 x5 y0 : Int32} {o6 : Option Value} {D : zM} {P : Option Int32 → zM → Prop}  (k1 : y0 ≤ x3 → z_Ok mX4_mend 27 [some (.ref 46), some (.int x1), some (.int x2), some (.int x3), some (.int x4), some (.int (x5 + 1)), some (.int y0)] [] D P) (k2 : ¬ y0 ≤ x3 → z_Ok mX4_mend 27 [some (.ref 46), some (.int x1), some (.int x2), some (.int y0), some (.int x5), some (.int (x5 + 1)), some (.int y0)] [] D P) : z_Ok mX4_mend 57 [some (.ref 46), some (.int x1), some (.int x2), some (.int x3), some (.int x4), some (.int x5), o6] [.int y0] D P := z_goto 62 dX4_mend_57 (by decide) <| z_istore dX4_mend_62 rfl <| z_iload dX4_mend_64 rfl <| z_iload_n 3 dX4_mend_66 rfl rfl <| z_icmp_le (x := y0) (y := x3) 77 dX4_mend_67 (by decide) (fun c1 => z_iinc (v := x5 + 1) dX4_mend_77 rfl rfl rfl <| z_goto 27 dX4_mend_80 (by decide) <| k1 c1) (fun c2 => z_iload dX4_mend_70 rfl <| z_istore_n 3 dX4_mend_72 rfl rfl <| z_iload dX4_mend_73 rfl <| z_istore dX4_mend_75 rfl <| z_iinc (v := x5 + 1) dX4_mend_77 rfl rfl rfl <| z_goto 27 dX4_mend_80 (by decide) <| k2 c2)
set_option maxRecDepth 20000 in
theorem bX4_haveBest_0 {x1 : Int32} {D : zM} {P : Option Int32 → zM → Prop}  (k1 : z_Ok mX4_haveBest 2 [some (.ref 46), some (.int x1), none, none] [.int x1, .ref 46] D P) : z_Ok mX4_haveBest 0 [some (.ref 46), some (.int x1), none, none] [] D P := z_aload_n 0 dX4_haveBest_0 rfl rfl <| z_iload_n 1 dX4_haveBest_1 rfl rfl <| k1
set_option maxRecDepth 20000 in
theorem sX4_haveBest_2 {lv : List (Option Value)} {v0 : Int32} {D : zM} {P : Option Int32 → zM → Prop} {Q : zM → Prop} (hC : z_Cv mX4_findFar [.ref 46, .int v0] D Q) (kk : ∀ D1, Q D1 → z_Ok mX4_haveBest 5 lv [] D1 P) : z_Ok mX4_haveBest 2 lv [.int v0, .ref 46] D P := z_callV (n := 1) [.int v0] [] dX4_haveBest_2 tX4_findFar kRX4_90 (by decide) pnX4_findFar rfl rfl rfl rfl (Nat.le_of_ble_eq_true rfl) (by simp [Value.category]) (by simp [Value.category]) hC (fun r D1 q1 => z_void q1 (fun q => kk D1 q))
set_option maxRecDepth 20000 in
theorem bX4_haveBest_5 {x1 : Int32} {D : zM} {P : Option Int32 → zM → Prop}  (k1 : z_Ok mX4_haveBest 9 [some (.ref 46), some (.int x1), some (.int 0), some (.int 0)] [] D P) : z_Ok mX4_haveBest 5 [some (.ref 46), some (.int x1), none, none] [] D P := z_iconst (v := 0) dX4_haveBest_5 (by decide) <| z_istore_n 2 dX4_haveBest_6 rfl rfl <| z_iconst (v := 0) dX4_haveBest_7 (by decide) <| z_istore_n 3 dX4_haveBest_8 rfl rfl <| k1
set_option maxRecDepth 20000 in
theorem bX4_haveBest_9 {x1 x2 x3 : Int32} {D : zM} {P : Option Int32 → zM → Prop}  (k1 : 10 ≤ x3 → P (some x2) D) (k2 : ¬ 10 ≤ x3 → z_Ok mX4_haveBest 18 [some (.ref 46), some (.int x1), some (.int x2), some (.int x3)] [.int x3, .ref 46, .int x2] D P) : z_Ok mX4_haveBest 9 [some (.ref 46), some (.int x1), some (.int x2), some (.int x3)] [] D P := z_iload_n 3 dX4_haveBest_9 rfl rfl <| z_bipush (v := 10) dX4_haveBest_10 (by decide) <| z_icmp_ge (x := x3) (y := 10) 41 dX4_haveBest_12 (by decide) (fun c1 => z_iload_n 2 dX4_haveBest_41 rfl rfl <| z_ret (ty := .int) dX4_haveBest_42 rfl rfl (k1 c1)) (fun c2 => z_iload_n 2 dX4_haveBest_15 rfl rfl <| z_aload_n 0 dX4_haveBest_16 rfl rfl <| z_iload_n 3 dX4_haveBest_17 rfl rfl <| k2 c2)
set_option maxRecDepth 20000 in
theorem sX4_haveBest_18 {lv : List (Option Value)} {v0 w0 : Int32} {D : zM} {P : Option Int32 → zM → Prop} {Q : Int32 → zM → Prop} (hC : z_Ci mX4_bestAt [.ref 46, .int v0] D Q) (kk : ∀ r D1, Q r D1 → z_Ok mX4_haveBest 21 lv [.int r, .int w0] D1 P) : z_Ok mX4_haveBest 18 lv [.int v0, .ref 46, .int w0] D P := z_callV (n := 1) [.int v0] [.int w0] dX4_haveBest_18 tX4_bestAt kRX4_94 (by decide) pnX4_bestAt rfl rfl rfl rfl (Nat.le_of_ble_eq_true rfl) (by simp [Value.category]) (by simp [Value.category]) hC (fun r D1 q1 => z_intr q1 (fun r q => kk r D1 q))
set_option maxRecDepth 20000 in
theorem bX4_haveBest_21 {x1 x2 x3 y0 y1 : Int32} {D : zM} {P : Option Int32 → zM → Prop}  (k1 : y0 = (-9) → z_Ok mX4_haveBest 9 [some (.ref 46), some (.int x1), some (.int (y1 ||| 0)), some (.int (x3 + 1))] [] D P) (k2 : ¬ y0 = (-9) → z_Ok mX4_haveBest 9 [some (.ref 46), some (.int x1), some (.int (y1 ||| ((1 : Int32) <<< (x3 &&& 31)))), some (.int (x3 + 1))] [] D P) : z_Ok mX4_haveBest 21 [some (.ref 46), some (.int x1), some (.int x2), some (.int x3)] [.int y0, .int y1] D P := z_bipush (v := (-9)) dX4_haveBest_21 (by decide) <| z_icmp_eq (x := y0) (y := (-9)) 32 dX4_haveBest_23 (by decide) (fun c1 => z_iconst (v := 0) dX4_haveBest_32 (by decide) <| z_ior dX4_haveBest_33 <| z_istore_n 2 dX4_haveBest_34 rfl rfl <| z_iinc (v := x3 + 1) dX4_haveBest_35 rfl rfl rfl <| z_goto 9 dX4_haveBest_38 (by decide) <| k1 c1) (fun c2 => z_iconst (v := 1) dX4_haveBest_26 (by decide) <| z_iload_n 3 dX4_haveBest_27 rfl rfl <| z_ishl dX4_haveBest_28 <| z_goto 33 dX4_haveBest_29 (by decide) <| z_ior dX4_haveBest_33 <| z_istore_n 2 dX4_haveBest_34 rfl rfl <| z_iinc (v := x3 + 1) dX4_haveBest_35 rfl rfl rfl <| z_goto 9 dX4_haveBest_38 (by decide) <| k2 c2)
set_option maxRecDepth 20000 in
theorem bX4_doLead_0 {x1 x2 : Int32} {D : zM} {P : Option Int32 → zM → Prop}  (k1 : z_Ok mX4_doLead 2 [some (.ref 46), some (.int x1), some (.int x2), some (.int 0)] [] D P) : z_Ok mX4_doLead 0 [some (.ref 46), some (.int x1), some (.int x2), none] [] D P := z_iconst (v := 0) dX4_doLead_0 (by decide) <| z_istore_n 3 dX4_doLead_1 rfl rfl <| k1
set_option maxRecDepth 20000 in
theorem bX4_doLead_2 {x1 x2 x3 : Int32} {D : zM} {P : Option Int32 → zM → Prop}  (h1 : ¬ 10 ≤ x3 → ¬ zb x1 x3 → vp_in x3 10) (k1 : 10 ≤ x3 → z_Ok mX4_doLead 40 [some (.ref 46), some (.int x1), some (.int x2), some (.int 0)] [] D P) (k2 : ¬ 10 ≤ x3 → zb x1 x3 → z_Ok mX4_doLead 23 [some (.ref 46), some (.int x1), some (.int x2), some (.int x3)] [.int x3, .ref 46, .int x3, .ref 54] D P) (k3 : ¬ 10 ≤ x3 → ¬ zb x1 x3 → z_Ok mX4_doLead 2 [some (.ref 46), some (.int x1), some (.int x2), some (.int (x3 + 1))] [] (z_up D 54 x3.toNatClampNeg (-9)) P) : z_Ok mX4_doLead 2 [some (.ref 46), some (.int x1), some (.int x2), some (.int x3)] [] D P := z_iload_n 3 dX4_doLead_2 rfl rfl <| z_bipush (v := 10) dX4_doLead_3 (by decide) <| z_icmp_ge (x := x3) (y := 10) 38 dX4_doLead_5 (by decide) (fun c1 => z_iconst (v := 0) dX4_doLead_38 (by decide) <| z_istore_n 3 dX4_doLead_39 rfl rfl <| k1 c1) (fun c2 => z_aload_n 0 dX4_doLead_8 rfl rfl <| z_getr 11 54 dX4_doLead_9 fRX4_32 rfl rfl <| z_iload_n 3 dX4_doLead_12 rfl rfl <| z_iload_n 1 dX4_doLead_13 rfl rfl <| z_iload_n 3 dX4_doLead_14 rfl rfl <| z_callS (n := 2) [.int x1, .int x3] [.int x3, .ref 54] dX4_doLead_15 tX4_isIn kRX4_75 (by decide) pnX4_isIn rfl rfl (Nat.le_of_ble_eq_true rfl) (by simp [Value.category]) (by simp [Value.category]) (uX4_isIn x1 x3 D) (fun r D1 q1 => z_bool q1 (fun c3 => z_if_eq (x := 1) 29 dX4_doLead_18 (by decide) (fun h => absurd h (by decide)) (fun _ => z_aload_n 0 dX4_doLead_21 rfl rfl <| z_iload_n 3 dX4_doLead_22 rfl rfl <| k2 c2 c3)) (fun c4 => z_if_eq (x := 0) 29 dX4_doLead_18 (by decide) (fun _ => z_bipush (v := (-9)) dX4_doLead_29 (by decide) <| z_iast dX4_doLead_31 rfl (h1 c2 c4) <| z_iinc (v := x3 + 1) dX4_doLead_32 rfl rfl rfl <| z_goto 2 dX4_doLead_35 (by decide) <| k3 c2 c4) (fun h => absurd h (by decide)))))
set_option maxRecDepth 20000 in
theorem sX4_doLead_23 {lv : List (Option Value)} {v0 w0 : Int32} {D : zM} {P : Option Int32 → zM → Prop} {Q : Int32 → zM → Prop} (hC : z_Ci mX4_bestAt [.ref 46, .int v0] D Q) (kk : ∀ r D1, Q r D1 → z_Ok mX4_doLead 26 lv [.int r, .int w0, .ref 54] D1 P) : z_Ok mX4_doLead 23 lv [.int v0, .ref 46, .int w0, .ref 54] D P := z_callV (n := 1) [.int v0] [.int w0, .ref 54] dX4_doLead_23 tX4_bestAt kRX4_94 (by decide) pnX4_bestAt rfl rfl rfl rfl (Nat.le_of_ble_eq_true rfl) (by simp [Value.category]) (by simp [Value.category]) hC (fun r D1 q1 => z_intr q1 (fun r q => kk r D1 q))
set_option maxRecDepth 20000 in
theorem bX4_doLead_26 {x1 x2 x3 y0 y1 : Int32} {D : zM} {P : Option Int32 → zM → Prop}  (h1 : vp_in y1 10) (k1 : z_Ok mX4_doLead 2 [some (.ref 46), some (.int x1), some (.int x2), some (.int (x3 + 1))] [] (z_up D 54 y1.toNatClampNeg y0) P) : z_Ok mX4_doLead 26 [some (.ref 46), some (.int x1), some (.int x2), some (.int x3)] [.int y0, .int y1, .ref 54] D P := z_goto 31 dX4_doLead_26 (by decide) <| z_iast dX4_doLead_31 rfl h1 <| z_iinc (v := x3 + 1) dX4_doLead_32 rfl rfl rfl <| z_goto 2 dX4_doLead_35 (by decide) <| k1
set_option maxRecDepth 20000 in
theorem bX4_doLead_40 {x1 x2 x3 : Int32} {D : zM} {P : Option Int32 → zM → Prop}  (k1 : 10 ≤ x3 → P (some 1) D) (k2 : ¬ 10 ≤ x3 → zb (D 46 7) x3 → z_Ok mX4_doLead 60 [some (.ref 46), some (.int x1), some (.int x2), some (.int x3)] [.int x2, .int x3, .ref 46] D P) (k3 : ¬ 10 ≤ x3 → ¬ zb (D 46 7) x3 → z_Ok mX4_doLead 40 [some (.ref 46), some (.int x1), some (.int x2), some (.int (x3 + 1))] [] D P) : z_Ok mX4_doLead 40 [some (.ref 46), some (.int x1), some (.int x2), some (.int x3)] [] D P := z_iload_n 3 dX4_doLead_40 rfl rfl <| z_bipush (v := 10) dX4_doLead_41 (by decide) <| z_icmp_ge (x := x3) (y := 10) 96 dX4_doLead_43 (by decide) (fun c1 => z_iconst (v := 1) dX4_doLead_96 (by decide) <| z_ret (ty := .boolean) dX4_doLead_97 rfl rfl (k1 c1)) (fun c2 => z_aload_n 0 dX4_doLead_46 rfl rfl <| z_geti 7 dX4_doLead_47 fRX4_72 rfl rfl <| z_iload_n 3 dX4_doLead_50 rfl rfl <| z_callS (n := 2) [.int (D 46 7), .int x3] [] dX4_doLead_51 tX4_isIn kRX4_75 (by decide) pnX4_isIn rfl rfl (Nat.le_of_ble_eq_true rfl) (by simp [Value.category]) (by simp [Value.category]) (uX4_isIn (D 46 7) x3 D) (fun r D1 q1 => z_bool q1 (fun c3 => z_if_eq (x := 1) 90 dX4_doLead_54 (by decide) (fun h => absurd h (by decide)) (fun _ => z_aload_n 0 dX4_doLead_57 rfl rfl <| z_iload_n 3 dX4_doLead_58 rfl rfl <| z_iload_n 2 dX4_doLead_59 rfl rfl <| k2 c2 c3)) (fun c4 => z_if_eq (x := 0) 90 dX4_doLead_54 (by decide) (fun _ => z_iinc (v := x3 + 1) dX4_doLead_90 rfl rfl rfl <| z_goto 40 dX4_doLead_93 (by decide) <| k3 c2 c4) (fun h => absurd h (by decide)))))
set_option maxRecDepth 20000 in
theorem sX4_doLead_60 {lv : List (Option Value)} {v0 v1 : Int32} {D : zM} {P : Option Int32 → zM → Prop} {Q : zM → Prop} (hC : z_Cv mX4_follows [.ref 46, .int v0, .int v1] D Q) (kk : ∀ D1, Q D1 → z_Ok mX4_doLead 63 lv [] D1 P) : z_Ok mX4_doLead 60 lv [.int v1, .int v0, .ref 46] D P := z_callV (n := 2) [.int v0, .int v1] [] dX4_doLead_60 tX4_follows kRX4_119 (by decide) pnX4_follows rfl rfl rfl rfl (Nat.le_of_ble_eq_true rfl) (by simp [Value.category]) (by simp [Value.category]) hC (fun r D1 q1 => z_void q1 (fun q => kk D1 q))
set_option maxRecDepth 20000 in
theorem bX4_doLead_63 {x1 x2 x3 : Int32} {D : zM} {P : Option Int32 → zM → Prop}  (h1 : (D 46 13) = 0 → vp_in x3 10) (k1 : ¬ (D 46 13) = 0 → P (some 0) D) (k2 : (D 46 13) = 0 → (D 46 15) ≤ ((D 53 x3.toNatClampNeg) + (D 46 8)) → z_Ok mX4_doLead 40 [some (.ref 46), some (.int x1), some (.int x2), some (.int (x3 + 1))] [] D P) (k3 : (D 46 13) = 0 → ¬ (D 46 15) ≤ ((D 53 x3.toNatClampNeg) + (D 46 8)) → P (some 0) D) : z_Ok mX4_doLead 63 [some (.ref 46), some (.int x1), some (.int x2), some (.int x3)] [] D P := z_aload_n 0 dX4_doLead_63 rfl rfl <| z_geti 13 dX4_doLead_64 fRX4_101 rfl rfl <| z_if_ne (x := D 46 13) 88 dX4_doLead_67 (by decide) (fun c1 => z_iconst (v := 0) dX4_doLead_88 (by decide) <| z_ret (ty := .boolean) dX4_doLead_89 rfl rfl (k1 c1)) (fun c2 => z_aload_n 0 dX4_doLead_70 rfl rfl <| z_geti 15 dX4_doLead_71 fRX4_110 rfl rfl <| z_aload_n 0 dX4_doLead_74 rfl rfl <| z_getr 10 53 dX4_doLead_75 fRX4_29 rfl rfl <| z_iload_n 3 dX4_doLead_78 rfl rfl <| z_iald dX4_doLead_79 rfl (h1 c2) <| z_aload_n 0 dX4_doLead_80 rfl rfl <| z_geti 8 dX4_doLead_81 fRX4_79 rfl rfl <| z_iadd dX4_doLead_84 <| z_icmp_le (x := D 46 15) (y := (D 53 x3.toNatClampNeg) + (D 46 8)) 90 dX4_doLead_85 (by decide) (fun c3 => z_iinc (v := x3 + 1) dX4_doLead_90 rfl rfl rfl <| z_goto 40 dX4_doLead_93 (by decide) <| k2 c2 c3) (fun c4 => z_iconst (v := 0) dX4_doLead_88 (by decide) <| z_ret (ty := .boolean) dX4_doLead_89 rfl rfl (k3 c2 c4)))
set_option maxRecDepth 20000 in
theorem bX4_leadsTo_0 {x1 x2 : Int32} {D : zM} {P : Option Int32 → zM → Prop}  (k1 : z_Ok mX4_leadsTo 3 [some (.ref 46), some (.int x1), some (.int x2)] [.int x2, .ref 46, .int x1] D P) : z_Ok mX4_leadsTo 0 [some (.ref 46), some (.int x1), some (.int x2)] [] D P := z_iload_n 1 dX4_leadsTo_0 rfl rfl <| z_aload_n 0 dX4_leadsTo_1 rfl rfl <| z_iload_n 2 dX4_leadsTo_2 rfl rfl <| k1
set_option maxRecDepth 20000 in
theorem sX4_leadsTo_3 {lv : List (Option Value)} {v0 w0 : Int32} {D : zM} {P : Option Int32 → zM → Prop} {Q : Int32 → zM → Prop} (hC : z_Ci mX4_haveBest [.ref 46, .int v0] D Q) (kk : ∀ r D1, Q r D1 → z_Ok mX4_leadsTo 6 lv [.int r, .int w0] D1 P) : z_Ok mX4_leadsTo 3 lv [.int v0, .ref 46, .int w0] D P := z_callV (n := 1) [.int v0] [.int w0] dX4_leadsTo_3 tX4_haveBest kRX4_148 (by decide) pnX4_haveBest rfl rfl rfl rfl (Nat.le_of_ble_eq_true rfl) (by simp [Value.category]) (by simp [Value.category]) hC (fun r D1 q1 => z_intr q1 (fun r q => kk r D1 q))
set_option maxRecDepth 20000 in
theorem bX4_leadsTo_6 {x1 x2 y0 y1 : Int32} {D : zM} {P : Option Int32 → zM → Prop}  (k1 : ¬ (y1 &&& (y0 ^^^ (-1))) = 0 → P (some 0) D) (k2 : (y1 &&& (y0 ^^^ (-1))) = 0 → z_Ok mX4_leadsTo 15 [some (.ref 46), some (.int x1), some (.int x2)] [.int x2, .int x1, .ref 46] D P) : z_Ok mX4_leadsTo 6 [some (.ref 46), some (.int x1), some (.int x2)] [.int y0, .int y1] D P := z_iconst (v := (-1)) dX4_leadsTo_6 (by decide) <| z_ixor dX4_leadsTo_7 <| z_iand dX4_leadsTo_8 <| z_if_ne (x := y1 &&& (y0 ^^^ (-1))) 25 dX4_leadsTo_9 (by decide) (fun c1 => z_iconst (v := 0) dX4_leadsTo_25 (by decide) <| z_ret (ty := .boolean) dX4_leadsTo_26 rfl rfl (k1 c1)) (fun c2 => z_aload_n 0 dX4_leadsTo_12 rfl rfl <| z_iload_n 1 dX4_leadsTo_13 rfl rfl <| z_iload_n 2 dX4_leadsTo_14 rfl rfl <| k2 c2)
set_option maxRecDepth 20000 in
theorem sX4_leadsTo_15 {lv : List (Option Value)} {v0 v1 : Int32} {D : zM} {P : Option Int32 → zM → Prop} {Q : Int32 → zM → Prop} (hC : z_Ci mX4_doLead [.ref 46, .int v0, .int v1] D Q) (kk : ∀ r D1, Q r D1 → z_Ok mX4_leadsTo 18 lv [.int r] D1 P) : z_Ok mX4_leadsTo 15 lv [.int v1, .int v0, .ref 46] D P := z_callV (n := 2) [.int v0, .int v1] [] dX4_leadsTo_15 tX4_doLead kRX4_151 (by decide) pnX4_doLead rfl rfl rfl rfl (Nat.le_of_ble_eq_true rfl) (by simp [Value.category]) (by simp [Value.category]) hC (fun r D1 q1 => z_intr q1 (fun r q => kk r D1 q))
set_option maxRecDepth 20000 in
theorem bX4_leadsTo_18 {x1 x2 y0 : Int32} {D : zM} {P : Option Int32 → zM → Prop}  (k1 : y0 = 0 → P (some 0) D) (k2 : ¬ y0 = 0 → P (some 1) D) : z_Ok mX4_leadsTo 18 [some (.ref 46), some (.int x1), some (.int x2)] [.int y0] D P := z_if_eq (x := y0) 25 dX4_leadsTo_18 (by decide) (fun c1 => z_iconst (v := 0) dX4_leadsTo_25 (by decide) <| z_ret (ty := .boolean) dX4_leadsTo_26 rfl rfl (k1 c1)) (fun c2 => z_iconst (v := 1) dX4_leadsTo_21 (by decide) <| z_goto 26 dX4_leadsTo_22 (by decide) <| z_ret (ty := .boolean) dX4_leadsTo_26 rfl rfl (k2 c2))
set_option maxRecDepth 20000 in
theorem bX4_leads_0 {x1 x2 : Int32} {D : zM} {P : Option Int32 → zM → Prop}  (k1 : z_wi x2 0 (D 46 5 - 1) → z_wi x1 0 1023 → z_Ok mX4_leads 27 [some (.ref 46), some (.int x1), some (.int x2)] [.int x2, .int x1, .ref 46] D P) (k2 : z_wi x2 0 (D 46 5 - 1) → ¬ z_wi x1 0 1023 → P (some (-2)) D) (k3 : ¬ z_wi x2 0 (D 46 5 - 1) → P (some (-1)) D) : z_Ok mX4_leads 0 [some (.ref 46), some (.int x1), some (.int x2)] [] D P := z_aload_n 0 dX4_leads_0 rfl rfl <| z_iload_n 2 dX4_leads_1 rfl rfl <| z_callV (n := 1) [.int x2] [] dX4_leads_2 tX4_isName kRX4_69 (by decide) pnX4_isName rfl rfl rfl rfl (Nat.le_of_ble_eq_true rfl) (by simp [Value.category]) (by simp [Value.category]) (uX4_isName x2 D) (fun r D1 q1 => z_bool q1 (fun c1 => z_if_ne (x := 1) 10 dX4_leads_5 (by decide) (fun _ => z_iload_n 1 dX4_leads_10 rfl rfl <| z_iconst (v := 0) dX4_leads_11 (by decide) <| z_sipush (v := 1023) dX4_leads_12 (by decide) <| z_callS (n := 3) [.int x1, .int 0, .int 1023] [] dX4_leads_15 tX4_within kRX4_47 (by decide) pnX4_within rfl rfl (Nat.le_of_ble_eq_true rfl) (by simp [Value.category]) (by simp [Value.category]) (uX4_within x1 0 1023 D) (fun r D1 q1 => z_bool q1 (fun c2 => z_if_ne (x := 1) 24 dX4_leads_18 (by decide) (fun _ => z_aload_n 0 dX4_leads_24 rfl rfl <| z_iload_n 1 dX4_leads_25 rfl rfl <| z_iload_n 2 dX4_leads_26 rfl rfl <| k1 c1 c2) (fun h => absurd h (by decide))) (fun c3 => z_if_ne (x := 0) 24 dX4_leads_18 (by decide) (fun h => absurd h (by decide)) (fun _ => z_bipush (v := (-2)) dX4_leads_21 (by decide) <| z_ret (ty := .int) dX4_leads_23 rfl rfl (k2 c1 c3))))) (fun h => absurd h (by decide))) (fun c4 => z_if_ne (x := 0) 10 dX4_leads_5 (by decide) (fun h => absurd h (by decide)) (fun _ => z_iconst (v := (-1)) dX4_leads_8 (by decide) <| z_ret (ty := .int) dX4_leads_9 rfl rfl (k3 c4))))
set_option maxRecDepth 20000 in
theorem sX4_leads_27 {lv : List (Option Value)} {v0 v1 : Int32} {D : zM} {P : Option Int32 → zM → Prop} {Q : Int32 → zM → Prop} (hC : z_Ci mX4_leadsTo [.ref 46, .int v0, .int v1] D Q) (kk : ∀ r D1, Q r D1 → z_Ok mX4_leads 30 lv [.int r] D1 P) : z_Ok mX4_leads 27 lv [.int v1, .int v0, .ref 46] D P := z_callV (n := 2) [.int v0, .int v1] [] dX4_leads_27 tX4_leadsTo kRX4_154 (by decide) pnX4_leadsTo rfl rfl rfl rfl (Nat.le_of_ble_eq_true rfl) (by simp [Value.category]) (by simp [Value.category]) hC (fun r D1 q1 => z_intr q1 (fun r q => kk r D1 q))
set_option maxRecDepth 20000 in
theorem bX4_leads_30 {x1 x2 y0 : Int32} {D : zM} {P : Option Int32 → zM → Prop}  (k1 : y0 = 0 → P (some 0) D) (k2 : ¬ y0 = 0 → P (some 1) D) : z_Ok mX4_leads 30 [some (.ref 46), some (.int x1), some (.int x2)] [.int y0] D P := z_if_eq (x := y0) 37 dX4_leads_30 (by decide) (fun c1 => z_iconst (v := 0) dX4_leads_37 (by decide) <| z_ret (ty := .int) dX4_leads_38 rfl rfl (k1 c1)) (fun c2 => z_iconst (v := 1) dX4_leads_33 (by decide) <| z_goto 38 dX4_leads_34 (by decide) <| z_ret (ty := .int) dX4_leads_38 rfl rfl (k2 c2))
set_option maxRecDepth 20000 in
theorem bX4_manyOf_0 {x0 : Int32} {D : zM} {P : Option Int32 → zM → Prop}  (k1 : z_Ok mX4_manyOf 4 [some (.int x0), some (.int 0), some (.int x0)] [] D P) : z_Ok mX4_manyOf 0 [some (.int x0), none, none] [] D P := z_iconst (v := 0) dX4_manyOf_0 (by decide) <| z_istore_n 1 dX4_manyOf_1 rfl rfl <| z_iload_n 0 dX4_manyOf_2 rfl rfl <| z_istore_n 2 dX4_manyOf_3 rfl rfl <| k1
set_option maxRecDepth 20000 in
theorem bX4_manyOf_4 {x0 x1 x2 : Int32} {D : zM} {P : Option Int32 → zM → Prop}  (k1 : x2 ≤ 0 → P (some x1) D) (k2 : ¬ x2 ≤ 0 → z_Ok mX4_manyOf 4 [some (.int x0), some (.int (x1 + (x2 &&& 1))), some (.int (x2 >>> (1 &&& 31)))] [] D P) : z_Ok mX4_manyOf 4 [some (.int x0), some (.int x1), some (.int x2)] [] D P := z_iload_n 2 dX4_manyOf_4 rfl rfl <| z_if_le (x := x2) 21 dX4_manyOf_5 (by decide) (fun c1 => z_iload_n 1 dX4_manyOf_21 rfl rfl <| z_ret (ty := .int) dX4_manyOf_22 rfl rfl (k1 c1)) (fun c2 => z_iload_n 1 dX4_manyOf_8 rfl rfl <| z_iload_n 2 dX4_manyOf_9 rfl rfl <| z_iconst (v := 1) dX4_manyOf_10 (by decide) <| z_iand dX4_manyOf_11 <| z_iadd dX4_manyOf_12 <| z_istore_n 1 dX4_manyOf_13 rfl rfl <| z_iload_n 2 dX4_manyOf_14 rfl rfl <| z_iconst (v := 1) dX4_manyOf_15 (by decide) <| z_ishr dX4_manyOf_16 <| z_istore_n 2 dX4_manyOf_17 rfl rfl <| z_goto 4 dX4_manyOf_18 (by decide) <| k2 c2)
set_option maxRecDepth 20000 in
theorem bX4_fewest_0 {x1 : Int32} {D : zM} {P : Option Int32 → zM → Prop}  (k1 : z_wi x1 0 (D 46 5 - 1) → z_Ok mX4_fewest 12 [some (.ref 46), some (.int x1), none, none, none, none] [.int x1, .ref 46] D P) (k2 : ¬ z_wi x1 0 (D 46 5 - 1) → P (some (-1)) D) : z_Ok mX4_fewest 0 [some (.ref 46), some (.int x1), none, none, none, none] [] D P := z_aload_n 0 dX4_fewest_0 rfl rfl <| z_iload_n 1 dX4_fewest_1 rfl rfl <| z_callV (n := 1) [.int x1] [] dX4_fewest_2 tX4_isName kRX4_69 (by decide) pnX4_isName rfl rfl rfl rfl (Nat.le_of_ble_eq_true rfl) (by simp [Value.category]) (by simp [Value.category]) (uX4_isName x1 D) (fun r D1 q1 => z_bool q1 (fun c1 => z_if_ne (x := 1) 10 dX4_fewest_5 (by decide) (fun _ => z_aload_n 0 dX4_fewest_10 rfl rfl <| z_iload_n 1 dX4_fewest_11 rfl rfl <| k1 c1) (fun h => absurd h (by decide))) (fun c2 => z_if_ne (x := 0) 10 dX4_fewest_5 (by decide) (fun h => absurd h (by decide)) (fun _ => z_iconst (v := (-1)) dX4_fewest_8 (by decide) <| z_ret (ty := .int) dX4_fewest_9 rfl rfl (k2 c2))))
set_option maxRecDepth 20000 in
theorem sX4_fewest_12 {lv : List (Option Value)} {v0 : Int32} {D : zM} {P : Option Int32 → zM → Prop} {Q : Int32 → zM → Prop} (hC : z_Ci mX4_haveBest [.ref 46, .int v0] D Q) (kk : ∀ r D1, Q r D1 → z_Ok mX4_fewest 15 lv [.int r] D1 P) : z_Ok mX4_fewest 12 lv [.int v0, .ref 46] D P := z_callV (n := 1) [.int v0] [] dX4_fewest_12 tX4_haveBest kRX4_148 (by decide) pnX4_haveBest rfl rfl rfl rfl (Nat.le_of_ble_eq_true rfl) (by simp [Value.category]) (by simp [Value.category]) hC (fun r D1 q1 => z_intr q1 (fun r q => kk r D1 q))
set_option maxRecDepth 20000 in
theorem bX4_fewest_15 {x1 y0 : Int32} {D : zM} {P : Option Int32 → zM → Prop}  (k1 : z_Ok mX4_fewest 22 [some (.ref 46), some (.int x1), some (.int y0), some (.int (-9)), some (.int 0), none] [] D P) : z_Ok mX4_fewest 15 [some (.ref 46), some (.int x1), none, none, none, none] [.int y0] D P := z_istore_n 2 dX4_fewest_15 rfl rfl <| z_bipush (v := (-9)) dX4_fewest_16 (by decide) <| z_istore_n 3 dX4_fewest_18 rfl rfl <| z_iconst (v := 0) dX4_fewest_19 (by decide) <| z_istore dX4_fewest_20 rfl <| k1
set_option maxRecDepth 20000 in
theorem bX4_fewest_22 {x1 x2 x3 x4 : Int32} {o5 : Option Value} {D : zM} {P : Option Int32 → zM → Prop}  (k1 : 1024 ≤ x4 → P (some x3) D) (k2 : ¬ 1024 ≤ x4 → ¬ (x4 &&& (x2 ^^^ (-1))) = 0 → z_Ok mX4_fewest 22 [some (.ref 46), some (.int x1), some (.int x2), some (.int x3), some (.int (x4 + 1)), some (.int 0)] [] D P) (k3 : ¬ 1024 ≤ x4 → (x4 &&& (x2 ^^^ (-1))) = 0 → x3 = (-9) → z_Ok mX4_fewest 73 [some (.ref 46), some (.int x1), some (.int x2), some (.int x3), some (.int x4), some (.int 1)] [.int x1, .int x4, .ref 46] D P) (k4 : ¬ 1024 ≤ x4 → (x4 &&& (x2 ^^^ (-1))) = 0 → ¬ x3 = (-9) → z_Ok mX4_fewest 47 [some (.ref 46), some (.int x1), some (.int x2), some (.int x3), some (.int x4), o5] [.int x4] D P) : z_Ok mX4_fewest 22 [some (.ref 46), some (.int x1), some (.int x2), some (.int x3), some (.int x4), o5] [] D P := z_iload dX4_fewest_22 rfl <| z_sipush (v := 1024) dX4_fewest_24 (by decide) <| z_icmp_ge (x := x4) (y := 1024) 92 dX4_fewest_27 (by decide) (fun c1 => z_iload_n 3 dX4_fewest_92 rfl rfl <| z_ret (ty := .int) dX4_fewest_93 rfl rfl (k1 c1)) (fun c2 => z_iload dX4_fewest_30 rfl <| z_iload_n 2 dX4_fewest_32 rfl rfl <| z_iconst (v := (-1)) dX4_fewest_33 (by decide) <| z_ixor dX4_fewest_34 <| z_iand dX4_fewest_35 <| z_if_ne (x := x4 &&& (x2 ^^^ (-1))) 61 dX4_fewest_36 (by decide) (fun c3 => z_iconst (v := 0) dX4_fewest_61 (by decide) <| z_istore dX4_fewest_62 rfl <| z_iload dX4_fewest_64 rfl <| z_if_eq (x := 0) 84 dX4_fewest_66 (by decide) (fun _ => z_iload_n 3 dX4_fewest_84 rfl rfl <| z_istore_n 3 dX4_fewest_85 rfl rfl <| z_iinc (v := x4 + 1) dX4_fewest_86 rfl rfl rfl <| z_goto 22 dX4_fewest_89 (by decide) <| k2 c2 c3) (fun h => absurd h (by decide))) (fun c4 => z_iload_n 3 dX4_fewest_39 rfl rfl <| z_bipush (v := (-9)) dX4_fewest_40 (by decide) <| z_icmp_eq (x := x3) (y := (-9)) 57 dX4_fewest_42 (by decide) (fun c5 => z_iconst (v := 1) dX4_fewest_57 (by decide) <| z_goto 62 dX4_fewest_58 (by decide) <| z_istore dX4_fewest_62 rfl <| z_iload dX4_fewest_64 rfl <| z_if_eq (x := 1) 84 dX4_fewest_66 (by decide) (fun h => absurd h (by decide)) (fun _ => z_aload_n 0 dX4_fewest_69 rfl rfl <| z_iload dX4_fewest_70 rfl <| z_iload_n 1 dX4_fewest_72 rfl rfl <| k3 c2 c4 c5)) (fun c6 => z_iload dX4_fewest_45 rfl <| k4 c2 c4 c6)))
set_option maxRecDepth 20000 in
theorem sX4_fewest_47 {lv : List (Option Value)} {v0 : Int32} {D : zM} {P : Option Int32 → zM → Prop} {Q : Int32 → zM → Prop} (hC : z_Ci mX4_manyOf [.int v0] D Q) (kk : ∀ r D1, Q r D1 → z_Ok mX4_fewest 50 lv [.int r] D1 P) : z_Ok mX4_fewest 47 lv [.int v0] D P := z_callS (n := 1) [.int v0] [] dX4_fewest_47 tX4_manyOf kRX4_157 (by decide) pnX4_manyOf rfl rfl (Nat.le_of_ble_eq_true rfl) (by simp [Value.category]) (by simp [Value.category]) hC (fun r D1 q1 => z_intr q1 (fun r q => kk r D1 q))
set_option maxRecDepth 20000 in
theorem bX4_fewest_50 {x1 x2 x3 x4 y0 : Int32} {o5 : Option Value} {D : zM} {P : Option Int32 → zM → Prop}  (k1 : z_Ok mX4_fewest 51 [some (.ref 46), some (.int x1), some (.int x2), some (.int x3), some (.int x4), o5] [.int x3, .int y0] D P) : z_Ok mX4_fewest 50 [some (.ref 46), some (.int x1), some (.int x2), some (.int x3), some (.int x4), o5] [.int y0] D P := z_iload_n 3 dX4_fewest_50 rfl rfl <| k1
set_option maxRecDepth 20000 in
theorem sX4_fewest_51 {lv : List (Option Value)} {v0 w0 : Int32} {D : zM} {P : Option Int32 → zM → Prop} {Q : Int32 → zM → Prop} (hC : z_Ci mX4_manyOf [.int v0] D Q) (kk : ∀ r D1, Q r D1 → z_Ok mX4_fewest 54 lv [.int r, .int w0] D1 P) : z_Ok mX4_fewest 51 lv [.int v0, .int w0] D P := z_callS (n := 1) [.int v0] [.int w0] dX4_fewest_51 tX4_manyOf kRX4_157 (by decide) pnX4_manyOf rfl rfl (Nat.le_of_ble_eq_true rfl) (by simp [Value.category]) (by simp [Value.category]) hC (fun r D1 q1 => z_intr q1 (fun r q => kk r D1 q))
set_option maxRecDepth 20000 in
theorem bX4_fewest_54 {x1 x2 x3 x4 y0 y1 : Int32} {o5 : Option Value} {D : zM} {P : Option Int32 → zM → Prop}  (k1 : y0 ≤ y1 → z_Ok mX4_fewest 22 [some (.ref 46), some (.int x1), some (.int x2), some (.int x3), some (.int (x4 + 1)), some (.int 0)] [] D P) (k2 : ¬ y0 ≤ y1 → z_Ok mX4_fewest 73 [some (.ref 46), some (.int x1), some (.int x2), some (.int x3), some (.int x4), some (.int 1)] [.int x1, .int x4, .ref 46] D P) : z_Ok mX4_fewest 54 [some (.ref 46), some (.int x1), some (.int x2), some (.int x3), some (.int x4), o5] [.int y0, .int y1] D P := z_icmp_ge (x := y1) (y := y0) 61 dX4_fewest_54 (by decide) (fun c1 => z_iconst (v := 0) dX4_fewest_61 (by decide) <| z_istore dX4_fewest_62 rfl <| z_iload dX4_fewest_64 rfl <| z_if_eq (x := 0) 84 dX4_fewest_66 (by decide) (fun _ => z_iload_n 3 dX4_fewest_84 rfl rfl <| z_istore_n 3 dX4_fewest_85 rfl rfl <| z_iinc (v := x4 + 1) dX4_fewest_86 rfl rfl rfl <| z_goto 22 dX4_fewest_89 (by decide) <| k1 c1) (fun h => absurd h (by decide))) (fun c2 => z_iconst (v := 1) dX4_fewest_57 (by decide) <| z_goto 62 dX4_fewest_58 (by decide) <| z_istore dX4_fewest_62 rfl <| z_iload dX4_fewest_64 rfl <| z_if_eq (x := 1) 84 dX4_fewest_66 (by decide) (fun h => absurd h (by decide)) (fun _ => z_aload_n 0 dX4_fewest_69 rfl rfl <| z_iload dX4_fewest_70 rfl <| z_iload_n 1 dX4_fewest_72 rfl rfl <| k2 c2))
set_option maxRecDepth 20000 in
theorem sX4_fewest_73 {lv : List (Option Value)} {v0 v1 : Int32} {D : zM} {P : Option Int32 → zM → Prop} {Q : Int32 → zM → Prop} (hC : z_Ci mX4_doLead [.ref 46, .int v0, .int v1] D Q) (kk : ∀ r D1, Q r D1 → z_Ok mX4_fewest 76 lv [.int r] D1 P) : z_Ok mX4_fewest 73 lv [.int v1, .int v0, .ref 46] D P := z_callV (n := 2) [.int v0, .int v1] [] dX4_fewest_73 tX4_doLead kRX4_151 (by decide) pnX4_doLead rfl rfl rfl rfl (Nat.le_of_ble_eq_true rfl) (by simp [Value.category]) (by simp [Value.category]) hC (fun r D1 q1 => z_intr q1 (fun r q => kk r D1 q))
set_option maxRecDepth 20000 in
theorem bX4_fewest_76 {x1 x2 x3 x4 x5 y0 : Int32} {D : zM} {P : Option Int32 → zM → Prop}  (k1 : y0 = 0 → z_Ok mX4_fewest 22 [some (.ref 46), some (.int x1), some (.int x2), some (.int x3), some (.int (x4 + 1)), some (.int x5)] [] D P) (k2 : ¬ y0 = 0 → z_Ok mX4_fewest 22 [some (.ref 46), some (.int x1), some (.int x2), some (.int x4), some (.int (x4 + 1)), some (.int x5)] [] D P) : z_Ok mX4_fewest 76 [some (.ref 46), some (.int x1), some (.int x2), some (.int x3), some (.int x4), some (.int x5)] [.int y0] D P := z_if_eq (x := y0) 84 dX4_fewest_76 (by decide) (fun c1 => z_iload_n 3 dX4_fewest_84 rfl rfl <| z_istore_n 3 dX4_fewest_85 rfl rfl <| z_iinc (v := x4 + 1) dX4_fewest_86 rfl rfl rfl <| z_goto 22 dX4_fewest_89 (by decide) <| k1 c1) (fun c2 => z_iload dX4_fewest_79 rfl <| z_goto 85 dX4_fewest_81 (by decide) <| z_istore_n 3 dX4_fewest_85 rfl rfl <| z_iinc (v := x4 + 1) dX4_fewest_86 rfl rfl rfl <| z_goto 22 dX4_fewest_89 (by decide) <| k2 c2)
set_option maxRecDepth 20000 in
theorem bX4_posts_0 {D : zM} {P : Option Int32 → zM → Prop}  (k1 : z_Ok mX4_posts 2 [some (.ref 46), some (.int 0), none, none] [] D P) : z_Ok mX4_posts 0 [some (.ref 46), none, none, none] [] D P := z_iconst (v := 0) dX4_posts_0 (by decide) <| z_istore_n 1 dX4_posts_1 rfl rfl <| k1
set_option maxRecDepth 20000 in
theorem bX4_posts_2 {x1 : Int32} {D : zM} {P : Option Int32 → zM → Prop}  (h1 : ¬ 1024 ≤ x1 → vp_in x1 1024) (k1 : 1024 ≤ x1 → z_Ok mX4_posts 24 [some (.ref 46), some (.int 0), none, none] [] D P) (k2 : ¬ 1024 ≤ x1 → z_Ok mX4_posts 2 [some (.ref 46), some (.int (x1 + 1)), none, none] [] (z_up D 58 x1.toNatClampNeg 1) P) : z_Ok mX4_posts 2 [some (.ref 46), some (.int x1), none, none] [] D P := z_iload_n 1 dX4_posts_2 rfl rfl <| z_sipush (v := 1024) dX4_posts_3 (by decide) <| z_icmp_ge (x := x1) (y := 1024) 22 dX4_posts_6 (by decide) (fun c1 => z_iconst (v := 0) dX4_posts_22 (by decide) <| z_istore_n 1 dX4_posts_23 rfl rfl <| k1 c1) (fun c2 => z_aload_n 0 dX4_posts_9 rfl rfl <| z_getr 20 58 dX4_posts_10 fRX4_44 rfl rfl <| z_iload_n 1 dX4_posts_13 rfl rfl <| z_iconst (v := 1) dX4_posts_14 (by decide) <| z_bast dX4_posts_15 rfl (h1 c2) rfl <| z_iinc (v := x1 + 1) dX4_posts_16 rfl rfl rfl <| z_goto 2 dX4_posts_19 (by decide) <| k2 c2)
set_option maxRecDepth 20000 in
theorem bX4_posts_24 {x1 : Int32} {o2 o3 : Option Value} {D : zM} {P : Option Int32 → zM → Prop}  (k1 : (D 46 5) ≤ x1 → z_Ok mX4_posts 95 [some (.ref 46), some (.int (-9)), some (.int 0), o3] [] D P) (k2 : ¬ (D 46 5) ≤ x1 → z_Ok mX4_posts 34 [some (.ref 46), some (.int x1), o2, o3] [.int x1, .ref 46] D P) : z_Ok mX4_posts 24 [some (.ref 46), some (.int x1), o2, o3] [] D P := z_iload_n 1 dX4_posts_24 rfl rfl <| z_aload_n 0 dX4_posts_25 rfl rfl <| z_geti 5 dX4_posts_26 fRX4_55 rfl rfl <| z_icmp_ge (x := x1) (y := D 46 5) 90 dX4_posts_29 (by decide) (fun c1 => z_bipush (v := (-9)) dX4_posts_90 (by decide) <| z_istore_n 1 dX4_posts_92 rfl rfl <| z_iconst (v := 0) dX4_posts_93 (by decide) <| z_istore_n 2 dX4_posts_94 rfl rfl <| k1 c1) (fun c2 => z_aload_n 0 dX4_posts_32 rfl rfl <| z_iload_n 1 dX4_posts_33 rfl rfl <| k2 c2)
set_option maxRecDepth 20000 in
theorem sX4_posts_34 {lv : List (Option Value)} {v0 : Int32} {D : zM} {P : Option Int32 → zM → Prop} {Q : Int32 → zM → Prop} (hC : z_Ci mX4_haveBest [.ref 46, .int v0] D Q) (kk : ∀ r D1, Q r D1 → z_Ok mX4_posts 37 lv [.int r] D1 P) : z_Ok mX4_posts 34 lv [.int v0, .ref 46] D P := z_callV (n := 1) [.int v0] [] dX4_posts_34 tX4_haveBest kRX4_148 (by decide) pnX4_haveBest rfl rfl rfl rfl (Nat.le_of_ble_eq_true rfl) (by simp [Value.category]) (by simp [Value.category]) hC (fun r D1 q1 => z_intr q1 (fun r q => kk r D1 q))
set_option maxRecDepth 20000 in
theorem bX4_posts_37 {x1 y0 : Int32} {o2 o3 : Option Value} {D : zM} {P : Option Int32 → zM → Prop}  (k1 : z_Ok mX4_posts 40 [some (.ref 46), some (.int x1), some (.int y0), some (.int 0)] [] D P) : z_Ok mX4_posts 37 [some (.ref 46), some (.int x1), o2, o3] [.int y0] D P := z_istore_n 2 dX4_posts_37 rfl rfl <| z_iconst (v := 0) dX4_posts_38 (by decide) <| z_istore_n 3 dX4_posts_39 rfl rfl <| k1
set_option maxRecDepth 20000 in
theorem bX4_posts_40 {x1 x2 x3 : Int32} {D : zM} {P : Option Int32 → zM → Prop}  (h1 : ¬ 1024 ≤ x3 → vp_in x3 1024) (k1 : 1024 ≤ x3 → z_Ok mX4_posts 24 [some (.ref 46), some (.int (x1 + 1)), some (.int x2), some (.int x3)] [] D P) (k2 : ¬ 1024 ≤ x3 → (D 58 x3.toNatClampNeg) = 0 → z_Ok mX4_posts 40 [some (.ref 46), some (.int x1), some (.int x2), some (.int (x3 + 1))] [] (z_up D 58 x3.toNatClampNeg 0) P) (k3 : ¬ 1024 ≤ x3 → ¬ (D 58 x3.toNatClampNeg) = 0 → z_Ok mX4_posts 66 [some (.ref 46), some (.int x1), some (.int x2), some (.int x3)] [.int x1, .int (x3 &&& x2), .ref 46, .int x3, .ref 58] D P) : z_Ok mX4_posts 40 [some (.ref 46), some (.int x1), some (.int x2), some (.int x3)] [] D P := z_iload_n 3 dX4_posts_40 rfl rfl <| z_sipush (v := 1024) dX4_posts_41 (by decide) <| z_icmp_ge (x := x3) (y := 1024) 84 dX4_posts_44 (by decide) (fun c1 => z_iinc (v := x1 + 1) dX4_posts_84 rfl rfl rfl <| z_goto 24 dX4_posts_87 (by decide) <| k1 c1) (fun c2 => z_aload_n 0 dX4_posts_47 rfl rfl <| z_getr 20 58 dX4_posts_48 fRX4_44 rfl rfl <| z_iload_n 3 dX4_posts_51 rfl rfl <| z_aload_n 0 dX4_posts_52 rfl rfl <| z_getr 20 58 dX4_posts_53 fRX4_44 rfl rfl <| z_iload_n 3 dX4_posts_56 rfl rfl <| z_bald dX4_posts_57 rfl (h1 c2) <| z_if_eq (x := D 58 x3.toNatClampNeg) 76 dX4_posts_58 (by decide) (fun c3 => z_iconst (v := 0) dX4_posts_76 (by decide) <| z_bast dX4_posts_77 rfl (h1 c2) rfl <| z_iinc (v := x3 + 1) dX4_posts_78 rfl rfl rfl <| z_goto 40 dX4_posts_81 (by decide) <| k2 c2 c3) (fun c4 => z_aload_n 0 dX4_posts_61 rfl rfl <| z_iload_n 3 dX4_posts_62 rfl rfl <| z_iload_n 2 dX4_posts_63 rfl rfl <| z_iand dX4_posts_64 <| z_iload_n 1 dX4_posts_65 rfl rfl <| k3 c2 c4))
set_option maxRecDepth 20000 in
theorem sX4_posts_66 {lv : List (Option Value)} {v0 v1 w0 : Int32} {D : zM} {P : Option Int32 → zM → Prop} {Q : Int32 → zM → Prop} (hC : z_Ci mX4_doLead [.ref 46, .int v0, .int v1] D Q) (kk : ∀ r D1, Q r D1 → z_Ok mX4_posts 69 lv [.int r, .int w0, .ref 58] D1 P) : z_Ok mX4_posts 66 lv [.int v1, .int v0, .ref 46, .int w0, .ref 58] D P := z_callV (n := 2) [.int v0, .int v1] [.int w0, .ref 58] dX4_posts_66 tX4_doLead kRX4_151 (by decide) pnX4_doLead rfl rfl rfl rfl (Nat.le_of_ble_eq_true rfl) (by simp [Value.category]) (by simp [Value.category]) hC (fun r D1 q1 => z_intr q1 (fun r q => kk r D1 q))
set_option maxRecDepth 20000 in
theorem bX4_posts_69 {x1 x2 x3 y0 y1 : Int32} {D : zM} {P : Option Int32 → zM → Prop}  (h1 : y0 = 0 → vp_in y1 1024) (h2 : ¬ y0 = 0 → vp_in y1 1024) (k1 : y0 = 0 → z_Ok mX4_posts 40 [some (.ref 46), some (.int x1), some (.int x2), some (.int (x3 + 1))] [] (z_up D 58 y1.toNatClampNeg 0) P) (k2 : ¬ y0 = 0 → z_Ok mX4_posts 40 [some (.ref 46), some (.int x1), some (.int x2), some (.int (x3 + 1))] [] (z_up D 58 y1.toNatClampNeg 1) P) : z_Ok mX4_posts 69 [some (.ref 46), some (.int x1), some (.int x2), some (.int x3)] [.int y0, .int y1, .ref 58] D P := z_if_eq (x := y0) 76 dX4_posts_69 (by decide) (fun c1 => z_iconst (v := 0) dX4_posts_76 (by decide) <| z_bast dX4_posts_77 rfl (h1 c1) rfl <| z_iinc (v := x3 + 1) dX4_posts_78 rfl rfl rfl <| z_goto 40 dX4_posts_81 (by decide) <| k1 c1) (fun c2 => z_iconst (v := 1) dX4_posts_72 (by decide) <| z_goto 77 dX4_posts_73 (by decide) <| z_bast dX4_posts_77 rfl (h2 c2) rfl <| z_iinc (v := x3 + 1) dX4_posts_78 rfl rfl rfl <| z_goto 40 dX4_posts_81 (by decide) <| k2 c2)
set_option maxRecDepth 20000 in
theorem bX4_posts_95 {x1 x2 : Int32} {o3 : Option Value} {D : zM} {P : Option Int32 → zM → Prop}  (h1 : ¬ 1024 ≤ x2 → vp_in x2 1024) (k1 : 1024 ≤ x2 → P (some x1) D) (k2 : ¬ 1024 ≤ x2 → (D 58 x2.toNatClampNeg) = 0 → z_Ok mX4_posts 95 [some (.ref 46), some (.int x1), some (.int (x2 + 1)), o3] [] D P) (k3 : ¬ 1024 ≤ x2 → ¬ (D 58 x2.toNatClampNeg) = 0 → x1 = (-9) → z_Ok mX4_posts 95 [some (.ref 46), some (.int x2), some (.int (x2 + 1)), o3] [] D P) (k4 : ¬ 1024 ≤ x2 → ¬ (D 58 x2.toNatClampNeg) = 0 → ¬ x1 = (-9) → z_Ok mX4_posts 118 [some (.ref 46), some (.int x1), some (.int x2), o3] [.int x2] D P) : z_Ok mX4_posts 95 [some (.ref 46), some (.int x1), some (.int x2), o3] [] D P := z_iload_n 2 dX4_posts_95 rfl rfl <| z_sipush (v := 1024) dX4_posts_96 (by decide) <| z_icmp_ge (x := x2) (y := 1024) 140 dX4_posts_99 (by decide) (fun c1 => z_iload_n 1 dX4_posts_140 rfl rfl <| z_ret (ty := .int) dX4_posts_141 rfl rfl (k1 c1)) (fun c2 => z_aload_n 0 dX4_posts_102 rfl rfl <| z_getr 20 58 dX4_posts_103 fRX4_44 rfl rfl <| z_iload_n 2 dX4_posts_106 rfl rfl <| z_bald dX4_posts_107 rfl (h1 c2) <| z_if_eq (x := D 58 x2.toNatClampNeg) 132 dX4_posts_108 (by decide) (fun c3 => z_iload_n 1 dX4_posts_132 rfl rfl <| z_istore_n 1 dX4_posts_133 rfl rfl <| z_iinc (v := x2 + 1) dX4_posts_134 rfl rfl rfl <| z_goto 95 dX4_posts_137 (by decide) <| k2 c2 c3) (fun c4 => z_iload_n 1 dX4_posts_111 rfl rfl <| z_bipush (v := (-9)) dX4_posts_112 (by decide) <| z_icmp_eq (x := x1) (y := (-9)) 128 dX4_posts_114 (by decide) (fun c5 => z_iload_n 2 dX4_posts_128 rfl rfl <| z_goto 133 dX4_posts_129 (by decide) <| z_istore_n 1 dX4_posts_133 rfl rfl <| z_iinc (v := x2 + 1) dX4_posts_134 rfl rfl rfl <| z_goto 95 dX4_posts_137 (by decide) <| k3 c2 c4 c5) (fun c6 => z_iload_n 2 dX4_posts_117 rfl rfl <| k4 c2 c4 c6)))
set_option maxRecDepth 20000 in
theorem sX4_posts_118 {lv : List (Option Value)} {v0 : Int32} {D : zM} {P : Option Int32 → zM → Prop} {Q : Int32 → zM → Prop} (hC : z_Ci mX4_manyOf [.int v0] D Q) (kk : ∀ r D1, Q r D1 → z_Ok mX4_posts 121 lv [.int r] D1 P) : z_Ok mX4_posts 118 lv [.int v0] D P := z_callS (n := 1) [.int v0] [] dX4_posts_118 tX4_manyOf kRX4_157 (by decide) pnX4_manyOf rfl rfl (Nat.le_of_ble_eq_true rfl) (by simp [Value.category]) (by simp [Value.category]) hC (fun r D1 q1 => z_intr q1 (fun r q => kk r D1 q))
set_option maxRecDepth 20000 in
theorem bX4_posts_121 {x1 x2 y0 : Int32} {o3 : Option Value} {D : zM} {P : Option Int32 → zM → Prop}  (k1 : z_Ok mX4_posts 122 [some (.ref 46), some (.int x1), some (.int x2), o3] [.int x1, .int y0] D P) : z_Ok mX4_posts 121 [some (.ref 46), some (.int x1), some (.int x2), o3] [.int y0] D P := z_iload_n 1 dX4_posts_121 rfl rfl <| k1
set_option maxRecDepth 20000 in
theorem sX4_posts_122 {lv : List (Option Value)} {v0 w0 : Int32} {D : zM} {P : Option Int32 → zM → Prop} {Q : Int32 → zM → Prop} (hC : z_Ci mX4_manyOf [.int v0] D Q) (kk : ∀ r D1, Q r D1 → z_Ok mX4_posts 125 lv [.int r, .int w0] D1 P) : z_Ok mX4_posts 122 lv [.int v0, .int w0] D P := z_callS (n := 1) [.int v0] [.int w0] dX4_posts_122 tX4_manyOf kRX4_157 (by decide) pnX4_manyOf rfl rfl (Nat.le_of_ble_eq_true rfl) (by simp [Value.category]) (by simp [Value.category]) hC (fun r D1 q1 => z_intr q1 (fun r q => kk r D1 q))
set_option maxRecDepth 20000 in
theorem bX4_posts_125 {x1 x2 y0 y1 : Int32} {o3 : Option Value} {D : zM} {P : Option Int32 → zM → Prop}  (k1 : y0 ≤ y1 → z_Ok mX4_posts 95 [some (.ref 46), some (.int x1), some (.int (x2 + 1)), o3] [] D P) (k2 : ¬ y0 ≤ y1 → z_Ok mX4_posts 95 [some (.ref 46), some (.int x2), some (.int (x2 + 1)), o3] [] D P) : z_Ok mX4_posts 125 [some (.ref 46), some (.int x1), some (.int x2), o3] [.int y0, .int y1] D P := z_icmp_ge (x := y1) (y := y0) 132 dX4_posts_125 (by decide) (fun c1 => z_iload_n 1 dX4_posts_132 rfl rfl <| z_istore_n 1 dX4_posts_133 rfl rfl <| z_iinc (v := x2 + 1) dX4_posts_134 rfl rfl rfl <| z_goto 95 dX4_posts_137 (by decide) <| k1 c1) (fun c2 => z_iload_n 2 dX4_posts_128 rfl rfl <| z_goto 133 dX4_posts_129 (by decide) <| z_istore_n 1 dX4_posts_133 rfl rfl <| z_iinc (v := x2 + 1) dX4_posts_134 rfl rfl rfl <| z_goto 95 dX4_posts_137 (by decide) <| k2 c2)
set_option maxRecDepth 20000 in
theorem bX4_manyBoards_0 {x1 : Int32} {D : zM} {P : Option Int32 → zM → Prop}  (k1 : z_Ok mX4_manyBoards 4 [some (.ref 46), some (.int x1), some (.int 0), some (.int 0)] [] D P) : z_Ok mX4_manyBoards 0 [some (.ref 46), some (.int x1), none, none] [] D P := z_iconst (v := 0) dX4_manyBoards_0 (by decide) <| z_istore_n 2 dX4_manyBoards_1 rfl rfl <| z_iconst (v := 0) dX4_manyBoards_2 (by decide) <| z_istore_n 3 dX4_manyBoards_3 rfl rfl <| k1
set_option maxRecDepth 20000 in
theorem bX4_manyBoards_4 {x1 x2 x3 : Int32} {D : zM} {P : Option Int32 → zM → Prop}  (h1 : ¬ (D 46 5) ≤ x3 → vp_in ((5 * x1) + x3) 50) (k1 : (D 46 5) ≤ x3 → P (some x2) D) (k2 : ¬ (D 46 5) ≤ x3 → (D 52 ((5 * x1) + x3).toNatClampNeg) = (-9) → z_Ok mX4_manyBoards 4 [some (.ref 46), some (.int x1), some (.int (x2 + 0)), some (.int (x3 + 1))] [] D P) (k3 : ¬ (D 46 5) ≤ x3 → ¬ (D 52 ((5 * x1) + x3).toNatClampNeg) = (-9) → z_Ok mX4_manyBoards 4 [some (.ref 46), some (.int x1), some (.int (x2 + 1)), some (.int (x3 + 1))] [] D P) : z_Ok mX4_manyBoards 4 [some (.ref 46), some (.int x1), some (.int x2), some (.int x3)] [] D P := z_iload_n 3 dX4_manyBoards_4 rfl rfl <| z_aload_n 0 dX4_manyBoards_5 rfl rfl <| z_geti 5 dX4_manyBoards_6 fRX4_55 rfl rfl <| z_icmp_ge (x := x3) (y := D 46 5) 41 dX4_manyBoards_9 (by decide) (fun c1 => z_iload_n 2 dX4_manyBoards_41 rfl rfl <| z_ret (ty := .int) dX4_manyBoards_42 rfl rfl (k1 c1)) (fun c2 => z_iload_n 2 dX4_manyBoards_12 rfl rfl <| z_aload_n 0 dX4_manyBoards_13 rfl rfl <| z_getr 9 52 dX4_manyBoards_14 fRX4_26 rfl rfl <| z_iconst (v := 5) dX4_manyBoards_17 (by decide) <| z_iload_n 1 dX4_manyBoards_18 rfl rfl <| z_imul dX4_manyBoards_19 <| z_iload_n 3 dX4_manyBoards_20 rfl rfl <| z_iadd dX4_manyBoards_21 <| z_iald dX4_manyBoards_22 rfl (h1 c2) <| z_bipush (v := (-9)) dX4_manyBoards_23 (by decide) <| z_icmp_eq (x := D 52 ((5 * x1) + x3).toNatClampNeg) (y := (-9)) 32 dX4_manyBoards_25 (by decide) (fun c3 => z_iconst (v := 0) dX4_manyBoards_32 (by decide) <| z_iadd dX4_manyBoards_33 <| z_istore_n 2 dX4_manyBoards_34 rfl rfl <| z_iinc (v := x3 + 1) dX4_manyBoards_35 rfl rfl rfl <| z_goto 4 dX4_manyBoards_38 (by decide) <| k2 c2 c3) (fun c4 => z_iconst (v := 1) dX4_manyBoards_28 (by decide) <| z_goto 33 dX4_manyBoards_29 (by decide) <| z_iadd dX4_manyBoards_33 <| z_istore_n 2 dX4_manyBoards_34 rfl rfl <| z_iinc (v := x3 + 1) dX4_manyBoards_35 rfl rfl rfl <| z_goto 4 dX4_manyBoards_38 (by decide) <| k3 c2 c4))
set_option maxRecDepth 20000 in
theorem bX4_allBoards_0 {x1 : Int32} {D : zM} {P : Option Int32 → zM → Prop}  (k1 : z_Ok mX4_allBoards 4 [some (.ref 46), some (.int x1), some (.int 0), some (.int 0), none] [] D P) : z_Ok mX4_allBoards 0 [some (.ref 46), some (.int x1), none, none, none] [] D P := z_iconst (v := 0) dX4_allBoards_0 (by decide) <| z_istore_n 2 dX4_allBoards_1 rfl rfl <| z_iconst (v := 0) dX4_allBoards_2 (by decide) <| z_istore_n 3 dX4_allBoards_3 rfl rfl <| k1
set_option maxRecDepth 20000 in
theorem bX4_allBoards_4 {x1 x2 x3 : Int32} {o4 : Option Value} {D : zM} {P : Option Int32 → zM → Prop}  (k1 : 10 ≤ x3 → P (some x2) D) (k2 : ¬ 10 ≤ x3 → z_Ok mX4_allBoards 12 [some (.ref 46), some (.int x1), some (.int x2), some (.int x3), o4] [.int x3, .ref 46] D P) : z_Ok mX4_allBoards 4 [some (.ref 46), some (.int x1), some (.int x2), some (.int x3), o4] [] D P := z_iload_n 3 dX4_allBoards_4 rfl rfl <| z_bipush (v := 10) dX4_allBoards_5 (by decide) <| z_icmp_ge (x := x3) (y := 10) 42 dX4_allBoards_7 (by decide) (fun c1 => z_iload_n 2 dX4_allBoards_42 rfl rfl <| z_ret (ty := .int) dX4_allBoards_43 rfl rfl (k1 c1)) (fun c2 => z_aload_n 0 dX4_allBoards_10 rfl rfl <| z_iload_n 3 dX4_allBoards_11 rfl rfl <| k2 c2)
set_option maxRecDepth 20000 in
theorem sX4_allBoards_12 {lv : List (Option Value)} {v0 : Int32} {D : zM} {P : Option Int32 → zM → Prop} {Q : Int32 → zM → Prop} (hC : z_Ci mX4_manyBoards [.ref 46, .int v0] D Q) (kk : ∀ r D1, Q r D1 → z_Ok mX4_allBoards 15 lv [.int r] D1 P) : z_Ok mX4_allBoards 12 lv [.int v0, .ref 46] D P := z_callV (n := 1) [.int v0] [] dX4_allBoards_12 tX4_manyBoards kRX4_160 (by decide) pnX4_manyBoards rfl rfl rfl rfl (Nat.le_of_ble_eq_true rfl) (by simp [Value.category]) (by simp [Value.category]) hC (fun r D1 q1 => z_intr q1 (fun r q => kk r D1 q))
set_option maxRecDepth 20000 in
theorem bX4_allBoards_15 {x1 x2 x3 y0 : Int32} {o4 : Option Value} {D : zM} {P : Option Int32 → zM → Prop}  (k1 : x1 = 0 → z_Ok mX4_allBoards 4 [some (.ref 46), some (.int x1), some (.int (x2 + y0)), some (.int (x3 + 1)), some (.int y0)] [] D P) (k2 : ¬ x1 = 0 → y0 ≤ 1 → z_Ok mX4_allBoards 4 [some (.ref 46), some (.int x1), some (.int (x2 + y0)), some (.int (x3 + 1)), some (.int y0)] [] D P) (k3 : ¬ x1 = 0 → ¬ y0 ≤ 1 → z_Ok mX4_allBoards 4 [some (.ref 46), some (.int x1), some (.int (x2 + 1)), some (.int (x3 + 1)), some (.int y0)] [] D P) : z_Ok mX4_allBoards 15 [some (.ref 46), some (.int x1), some (.int x2), some (.int x3), o4] [.int y0] D P := z_istore dX4_allBoards_15 rfl <| z_iload_n 2 dX4_allBoards_17 rfl rfl <| z_iload_n 1 dX4_allBoards_18 rfl rfl <| z_if_eq (x := x1) 32 dX4_allBoards_19 (by decide) (fun c1 => z_iload dX4_allBoards_32 rfl <| z_iadd dX4_allBoards_34 <| z_istore_n 2 dX4_allBoards_35 rfl rfl <| z_iinc (v := x3 + 1) dX4_allBoards_36 rfl rfl rfl <| z_goto 4 dX4_allBoards_39 (by decide) <| k1 c1) (fun c2 => z_iload dX4_allBoards_22 rfl <| z_iconst (v := 1) dX4_allBoards_24 (by decide) <| z_icmp_le (x := y0) (y := 1) 32 dX4_allBoards_25 (by decide) (fun c3 => z_iload dX4_allBoards_32 rfl <| z_iadd dX4_allBoards_34 <| z_istore_n 2 dX4_allBoards_35 rfl rfl <| z_iinc (v := x3 + 1) dX4_allBoards_36 rfl rfl rfl <| z_goto 4 dX4_allBoards_39 (by decide) <| k2 c2 c3) (fun c4 => z_iconst (v := 1) dX4_allBoards_28 (by decide) <| z_goto 34 dX4_allBoards_29 (by decide) <| z_iadd dX4_allBoards_34 <| z_istore_n 2 dX4_allBoards_35 rfl rfl <| z_iinc (v := x3 + 1) dX4_allBoards_36 rfl rfl rfl <| z_goto 4 dX4_allBoards_39 (by decide) <| k3 c2 c4))
set_option maxRecDepth 20000 in
theorem bX4_many_0 {x1 : Int32} {D : zM} {P : Option Int32 → zM → Prop}  (k1 : x1 = 0 → P (some (D 46 0)) D) (k2 : ¬ x1 = 0 → x1 = 1 → z_Ok mX4_many 50 [some (.ref 46), some (.int x1)] [.ref 46] D P) (k3 : ¬ x1 = 0 → ¬ x1 = 1 → x1 = 2 → P (some (D 46 5)) D) (k4 : ¬ x1 = 0 → ¬ x1 = 1 → ¬ x1 = 2 → x1 = 3 → z_Ok mX4_many 63 [some (.ref 46), some (.int x1)] [.int (D 46 7)] D P) (k5 : ¬ x1 = 0 → ¬ x1 = 1 → ¬ x1 = 2 → ¬ x1 = 3 → x1 = 4 → z_Ok mX4_many 69 [some (.ref 46), some (.int x1)] [.int 0, .ref 46] D P) (k6 : ¬ x1 = 0 → ¬ x1 = 1 → ¬ x1 = 2 → ¬ x1 = 3 → ¬ x1 = 4 → x1 = 5 → z_Ok mX4_many 75 [some (.ref 46), some (.int x1)] [.int 1, .ref 46] D P) (k7 : ¬ x1 = 0 → ¬ x1 = 1 → ¬ x1 = 2 → ¬ x1 = 3 → ¬ x1 = 4 → ¬ x1 = 5 → x1 = 6 → P (some (D 46 8)) D) (k8 : ¬ x1 = 0 → ¬ x1 = 1 → ¬ x1 = 2 → ¬ x1 = 3 → ¬ x1 = 4 → ¬ x1 = 5 → ¬ x1 = 6 → P (some (-2)) D) : z_Ok mX4_many 0 [some (.ref 46), some (.int x1)] [] D P := z_iload_n 1 dX4_many_0 rfl rfl <| z_case (x1 = 0) (fun c1 => z_tabIn 44 dX4_many_1 (by rw [c1]; decide) (by rw [c1]; decide) (by rw [c1]; rfl) (by decide) <| z_aload_n 0 dX4_many_44 rfl rfl <| z_geti 0 dX4_many_45 fRX4_51 rfl rfl <| z_ret (ty := .int) dX4_many_48 rfl rfl (k1 c1)) (fun c2 => z_case (x1 = 1) (fun c3 => z_tabIn 49 dX4_many_1 (by rw [c3]; decide) (by rw [c3]; decide) (by rw [c3]; rfl) (by decide) <| z_aload_n 0 dX4_many_49 rfl rfl <| k2 c2 c3) (fun c4 => z_case (x1 = 2) (fun c5 => z_tabIn 54 dX4_many_1 (by rw [c5]; decide) (by rw [c5]; decide) (by rw [c5]; rfl) (by decide) <| z_aload_n 0 dX4_many_54 rfl rfl <| z_geti 5 dX4_many_55 fRX4_55 rfl rfl <| z_ret (ty := .int) dX4_many_58 rfl rfl (k3 c2 c4 c5)) (fun c6 => z_case (x1 = 3) (fun c7 => z_tabIn 59 dX4_many_1 (by rw [c7]; decide) (by rw [c7]; decide) (by rw [c7]; rfl) (by decide) <| z_aload_n 0 dX4_many_59 rfl rfl <| z_geti 7 dX4_many_60 fRX4_72 rfl rfl <| k4 c2 c4 c6 c7) (fun c8 => z_case (x1 = 4) (fun c9 => z_tabIn 67 dX4_many_1 (by rw [c9]; decide) (by rw [c9]; decide) (by rw [c9]; rfl) (by decide) <| z_aload_n 0 dX4_many_67 rfl rfl <| z_iconst (v := 0) dX4_many_68 (by decide) <| k5 c2 c4 c6 c8 c9) (fun c10 => z_case (x1 = 5) (fun c11 => z_tabIn 73 dX4_many_1 (by rw [c11]; decide) (by rw [c11]; decide) (by rw [c11]; rfl) (by decide) <| z_aload_n 0 dX4_many_73 rfl rfl <| z_iconst (v := 1) dX4_many_74 (by decide) <| k6 c2 c4 c6 c8 c10 c11) (fun c12 => z_case (x1 = 6) (fun c13 => z_tabIn 79 dX4_many_1 (by rw [c13]; decide) (by rw [c13]; decide) (by rw [c13]; rfl) (by decide) <| z_aload_n 0 dX4_many_79 rfl rfl <| z_geti 8 dX4_many_80 fRX4_79 rfl rfl <| z_ret (ty := .int) dX4_many_83 rfl rfl (k7 c2 c4 c6 c8 c10 c12 c13)) (fun c14 => z_tabOut 84 dX4_many_1 (z_sw0_6 c2 c4 c6 c8 c10 c12 c14) (by decide) <| z_bipush (v := (-2)) dX4_many_84 (by decide) <| z_ret (ty := .int) dX4_many_86 rfl rfl (k8 c2 c4 c6 c8 c10 c12 c14))))))))
set_option maxRecDepth 20000 in
theorem sX4_many_50 {lv : List (Option Value)} {D : zM} {P : Option Int32 → zM → Prop} {Q : Int32 → zM → Prop} (hC : z_Ci mX4_manyOpen [.ref 46] D Q) (kk : ∀ r D1, Q r D1 → z_Ok mX4_many 53 lv [.int r] D1 P) : z_Ok mX4_many 50 lv [.ref 46] D P := z_callV (n := 0) [] [] dX4_many_50 tX4_manyOpen kRX4_163 (by decide) pnX4_manyOpen rfl rfl rfl rfl (Nat.le_of_ble_eq_true rfl) (by simp [Value.category]) (by simp [Value.category]) hC (fun r D1 q1 => z_intr q1 (fun r q => kk r D1 q))
set_option maxRecDepth 20000 in
theorem bX4_many_53 {x1 y0 : Int32} {D : zM} {P : Option Int32 → zM → Prop}  (k1 : P (some y0) D) : z_Ok mX4_many 53 [some (.ref 46), some (.int x1)] [.int y0] D P := z_ret (ty := .int) dX4_many_53 rfl rfl (k1)
set_option maxRecDepth 20000 in
theorem sX4_many_63 {lv : List (Option Value)} {v0 : Int32} {D : zM} {P : Option Int32 → zM → Prop} {Q : Int32 → zM → Prop} (hC : z_Ci mX4_manyOf [.int v0] D Q) (kk : ∀ r D1, Q r D1 → z_Ok mX4_many 66 lv [.int r] D1 P) : z_Ok mX4_many 63 lv [.int v0] D P := z_callS (n := 1) [.int v0] [] dX4_many_63 tX4_manyOf kRX4_157 (by decide) pnX4_manyOf rfl rfl (Nat.le_of_ble_eq_true rfl) (by simp [Value.category]) (by simp [Value.category]) hC (fun r D1 q1 => z_intr q1 (fun r q => kk r D1 q))
set_option maxRecDepth 20000 in
theorem bX4_many_66 {x1 y0 : Int32} {D : zM} {P : Option Int32 → zM → Prop}  (k1 : P (some y0) D) : z_Ok mX4_many 66 [some (.ref 46), some (.int x1)] [.int y0] D P := z_ret (ty := .int) dX4_many_66 rfl rfl (k1)
set_option maxRecDepth 20000 in
theorem sX4_many_69 {lv : List (Option Value)} {v0 : Int32} {D : zM} {P : Option Int32 → zM → Prop} {Q : Int32 → zM → Prop} (hC : z_Ci mX4_allBoards [.ref 46, .int v0] D Q) (kk : ∀ r D1, Q r D1 → z_Ok mX4_many 72 lv [.int r] D1 P) : z_Ok mX4_many 69 lv [.int v0, .ref 46] D P := z_callV (n := 1) [.int v0] [] dX4_many_69 tX4_allBoards kRX4_167 (by decide) pnX4_allBoards rfl rfl rfl rfl (Nat.le_of_ble_eq_true rfl) (by simp [Value.category]) (by simp [Value.category]) hC (fun r D1 q1 => z_intr q1 (fun r q => kk r D1 q))
set_option maxRecDepth 20000 in
theorem bX4_many_72 {x1 y0 : Int32} {D : zM} {P : Option Int32 → zM → Prop}  (k1 : P (some y0) D) : z_Ok mX4_many 72 [some (.ref 46), some (.int x1)] [.int y0] D P := z_ret (ty := .int) dX4_many_72 rfl rfl (k1)
set_option maxRecDepth 20000 in
theorem sX4_many_75 {lv : List (Option Value)} {v0 : Int32} {D : zM} {P : Option Int32 → zM → Prop} {Q : Int32 → zM → Prop} (hC : z_Ci mX4_allBoards [.ref 46, .int v0] D Q) (kk : ∀ r D1, Q r D1 → z_Ok mX4_many 78 lv [.int r] D1 P) : z_Ok mX4_many 75 lv [.int v0, .ref 46] D P := z_callV (n := 1) [.int v0] [] dX4_many_75 tX4_allBoards kRX4_167 (by decide) pnX4_allBoards rfl rfl rfl rfl (Nat.le_of_ble_eq_true rfl) (by simp [Value.category]) (by simp [Value.category]) hC (fun r D1 q1 => z_intr q1 (fun r q => kk r D1 q))
set_option maxRecDepth 20000 in
theorem bX4_many_78 {x1 y0 : Int32} {D : zM} {P : Option Int32 → zM → Prop}  (k1 : P (some y0) D) : z_Ok mX4_many 78 [some (.ref 46), some (.int x1)] [.int y0] D P := z_ret (ty := .int) dX4_many_78 rfl rfl (k1)
set_option maxRecDepth 20000 in
theorem bX4_manyOpen_0 {D : zM} {P : Option Int32 → zM → Prop}  (k1 : z_Ok mX4_manyOpen 4 [some (.ref 46), some (.int 0), some (.int 0)] [] D P) : z_Ok mX4_manyOpen 0 [some (.ref 46), none, none] [] D P := z_iconst (v := 0) dX4_manyOpen_0 (by decide) <| z_istore_n 1 dX4_manyOpen_1 rfl rfl <| z_iconst (v := 0) dX4_manyOpen_2 (by decide) <| z_istore_n 2 dX4_manyOpen_3 rfl rfl <| k1
set_option maxRecDepth 20000 in
theorem bX4_manyOpen_4 {x1 x2 : Int32} {D : zM} {P : Option Int32 → zM → Prop}  (h1 : ¬ (D 46 0) ≤ x2 → vp_in x2 14) (k1 : (D 46 0) ≤ x2 → P (some x1) D) (k2 : ¬ (D 46 0) ≤ x2 → (D 50 x2.toNatClampNeg) = 0 → z_Ok mX4_manyOpen 4 [some (.ref 46), some (.int (x1 + 0)), some (.int (x2 + 1))] [] D P) (k3 : ¬ (D 46 0) ≤ x2 → ¬ (D 50 x2.toNatClampNeg) = 0 → z_Ok mX4_manyOpen 4 [some (.ref 46), some (.int (x1 + 1)), some (.int (x2 + 1))] [] D P) : z_Ok mX4_manyOpen 4 [some (.ref 46), some (.int x1), some (.int x2)] [] D P := z_iload_n 2 dX4_manyOpen_4 rfl rfl <| z_aload_n 0 dX4_manyOpen_5 rfl rfl <| z_geti 0 dX4_manyOpen_6 fRX4_51 rfl rfl <| z_icmp_ge (x := x2) (y := D 46 0) 35 dX4_manyOpen_9 (by decide) (fun c1 => z_iload_n 1 dX4_manyOpen_35 rfl rfl <| z_ret (ty := .int) dX4_manyOpen_36 rfl rfl (k1 c1)) (fun c2 => z_iload_n 1 dX4_manyOpen_12 rfl rfl <| z_aload_n 0 dX4_manyOpen_13 rfl rfl <| z_getr 4 50 dX4_manyOpen_14 fRX4_19 rfl rfl <| z_iload_n 2 dX4_manyOpen_17 rfl rfl <| z_bald dX4_manyOpen_18 rfl (h1 c2) <| z_if_eq (x := D 50 x2.toNatClampNeg) 26 dX4_manyOpen_19 (by decide) (fun c3 => z_iconst (v := 0) dX4_manyOpen_26 (by decide) <| z_iadd dX4_manyOpen_27 <| z_istore_n 1 dX4_manyOpen_28 rfl rfl <| z_iinc (v := x2 + 1) dX4_manyOpen_29 rfl rfl rfl <| z_goto 4 dX4_manyOpen_32 (by decide) <| k2 c2 c3) (fun c4 => z_iconst (v := 1) dX4_manyOpen_22 (by decide) <| z_goto 27 dX4_manyOpen_23 (by decide) <| z_iadd dX4_manyOpen_27 <| z_istore_n 1 dX4_manyOpen_28 rfl rfl <| z_iinc (v := x2 + 1) dX4_manyOpen_29 rfl rfl rfl <| z_goto 4 dX4_manyOpen_32 (by decide) <| k3 c2 c4))
end
section
/-! THE ABSTRACT STATE, in natural numbers: s 0: 0 walks, 1 names, 2 entrances, 3 detour; s 1, 2, 3, 4: a walk's lesser place, greater place, length, open; s 5: a name's place; s 6: arrows by 5 * place + name (0 none, q + 1 to q) -/
abbrev zA : Type := Nat → Nat → Nat
def oI (o : Option Nat) : Int32 := match o with
  | none => -9
  | some k => nI k
def aO (v : Nat) : Option Nat := match v with
  | 0 => none
  | q + 1 => some q
def a_up (s : zA) (i k v : Nat) : zA := fun j => if j = i then (fun x => if x = k then v else s j x) else s j
theorem a_up_eq (s : zA) (i k v : Nat) : a_up s i k v i k = v := by simp [a_up]
theorem a_up_k {s : zA} {i k j v : Nat} (h : j ≠ k) : a_up s i k v i j = s i j := by simp [a_up, h]
theorem a_up_ne {s : zA} {i j k v : Nat} (h : j ≠ i) : a_up s i k v j = s j := by simp [a_up, h]
/-- the first of n numbers from k on -/
def z_fst (p : Nat → Bool) : Nat → Nat → Option Nat
  | 0, _ => none
  | n + 1, k => if p k then some k else z_fst p n (k + 1)
theorem z_fst_some {p : Nat → Bool} : ∀ {n k j : Nat}, z_fst p n k = some j → k ≤ j ∧ j < k + n ∧ p j = true ∧ ∀ i, k ≤ i → i < j → p i = false
  | 0, k, j, h => by simp [z_fst] at h
  | n + 1, k, j, h => by
    unfold z_fst at h
    by_cases hp : p k = true
    · rw [if_pos hp] at h
      cases h
      exact ⟨Nat.le_refl _, by omega, hp, fun i h1 h2 => by omega⟩
    · rw [if_neg hp] at h
      obtain ⟨h1, h2, h3, h4⟩ := z_fst_some h
      refine ⟨by omega, by omega, h3, fun i h5 h6 => ?_⟩
      by_cases e : i = k
      · subst e; simpa using hp
      · exact h4 i (by omega) h6
theorem z_fst_none {p : Nat → Bool} : ∀ {n k : Nat}, z_fst p n k = none → ∀ i, k ≤ i → i < k + n → p i = false
  | 0, k, h, i, h1, h2 => by omega
  | n + 1, k, h, i, h1, h2 => by
    unfold z_fst at h
    by_cases hp : p k = true
    · rw [if_pos hp] at h; cases h
    · rw [if_neg hp] at h
      by_cases e : i = k
      · subst e; simpa using hp
      · exact z_fst_none h i (by omega) (by omega)
theorem z_fst_eq {p : Nat → Bool} {n k j : Nat} (h1 : k ≤ j) (h2 : j < k + n) (h3 : p j = true) (h4 : ∀ i, k ≤ i → i < j → p i = false) : z_fst p n k = some j := by
  cases h : z_fst p n k with
  | none => rw [z_fst_none h j h1 h2] at h3; cases h3
  | some i =>
    obtain ⟨a1, a2, a3, a4⟩ := z_fst_some h
    rcases Nat.lt_trichotomy i j with q | q | q
    · rw [h4 i a1 q] at a3; cases a3
    · rw [q]
    · rw [a4 j h1 q] at h3; cases h3
theorem z_fst_no {p : Nat → Bool} {n k : Nat} (h : ∀ i, k ≤ i → i < k + n → p i = false) : z_fst p n k = none := by
  cases h' : z_fst p n k with
  | none => rfl
  | some i =>
    obtain ⟨a1, a2, a3, a4⟩ := z_fst_some h'
    rw [h i a1 a2] at a3; cases a3
def mt (s : zA) (a b k : Nat) : Bool := (s 1 k == a && s 2 k == b) || (s 1 k == b && s 2 k == a)
def wbt (s : zA) (a b : Nat) : Option Nat := z_fst (mt s a b) (s 0 0) 0
def obt (s : zA) (a b : Nat) : Option Nat := match wbt s a b with
  | none => none
  | some k => if s 4 k = 1 then some k else none
def WF (s : zA) : Prop := s 0 0 ≤ 14 ∧ s 0 1 ≤ 5 ∧ s 0 2 < 1024 ∧ s 0 3 ≤ 999 ∧
  (∀ k, k < s 0 0 → s 1 k < s 2 k ∧ s 2 k < 10 ∧ 1 ≤ s 3 k ∧ s 3 k ≤ 99 ∧ s 4 k ≤ 1 ∧ ∀ j, j < k → ¬ (s 1 j = s 1 k ∧ s 2 j = s 2 k)) ∧
  (∀ n, n < s 0 1 → s 5 n < 10) ∧ ∀ x, x < 50 → s 6 x ≤ 10
/-- the reference holds the state -/
def IM (D : zM) (s : zA) : Prop := D 46 0 = nI (s 0 0) ∧ D 46 5 = nI (s 0 1) ∧ D 46 7 = nI (s 0 2) ∧ D 46 8 = nI (s 0 3) ∧
  (∀ k, k < s 0 0 → D 47 k = nI (s 1 k) ∧ D 48 k = nI (s 2 k) ∧ D 49 k = nI (s 3 k) ∧ D 50 k = nI (s 4 k)) ∧
  (∀ n, n < s 0 1 → D 51 n = nI (s 5 n)) ∧ ∀ x, x < 50 → D 52 x = oI (aO (s 6 x))
/-- what changes: of place z the fields ks, else the places ps -/
def z_ag (z : Nat) (ps ks : List Nat) (D D' : zM) : Prop := (∀ q, q ≠ z → q ∉ ps → D' q = D q) ∧ ∀ k, k ∉ ks → D' z k = D z k
theorem z_ag.rfl {z : Nat} {ps ks : List Nat} {D : zM} : z_ag z ps ks D D := ⟨fun _ _ _ => Eq.refl _, fun _ _ => Eq.refl _⟩
theorem z_ag.trans {z : Nat} {ps ks : List Nat} {D D1 D2 : zM} (h1 : z_ag z ps ks D D1) (h2 : z_ag z ps ks D1 D2) : z_ag z ps ks D D2 := ⟨fun q a b => (h2.1 q a b).trans (h1.1 q a b), fun k a => (h2.2 k a).trans (h1.2 k a)⟩
theorem z_ag.mono {z : Nat} {ps ks ps' ks' : List Nat} {D D1 : zM} (h : z_ag z ps ks D D1) (hp : ps.all (fun x => ps'.contains x) = true) (hk : ks.all (fun x => ks'.contains x) = true) : z_ag z ps' ks' D D1 := by
  refine ⟨fun q a b => h.1 q a (fun c => b ?_), fun k a => h.2 k (fun c => a ?_)⟩
  · exact List.contains_iff_mem.mp (List.all_eq_true.mp hp q c)
  · exact List.contains_iff_mem.mp (List.all_eq_true.mp hk k c)
theorem z_ag.row {z : Nat} {ps ks : List Nat} {D D1 : zM} (h : z_ag z ps ks D D1) {q : Nat} (f : Nat → Int32) (hq : q ∈ ps) (hz : q ≠ z) : z_ag z ps ks D (z_row D1 q f) :=
  ⟨fun p a b => by rw [z_row_ne (p := p) (q := q) (fun e => b (by rw [e]; exact hq))]; exact h.1 p a b, fun k a => by rw [z_row_ne (Ne.symm hz)]; exact h.2 k a⟩
theorem z_ag.up {z : Nat} {ps ks : List Nat} {D D1 : zM} (h : z_ag z ps ks D D1) {q : Nat} (k : Nat) (v : Int32) (hq : q ∈ ps) (hz : q ≠ z) : z_ag z ps ks D (z_up D1 q k v) := h.row _ hq hz
theorem z_ag.fld {z : Nat} {ps ks : List Nat} {D D1 : zM} (h : z_ag z ps ks D D1) {k : Nat} (v : Int32) (hk : k ∈ ks) : z_ag z ps ks D (z_up D1 z k v) :=
  ⟨fun p a b => by rw [z_up_ne a]; exact h.1 p a b, fun j a => by rw [z_up_k (j := j) (k := k) (fun e => a (by rw [e]; exact hk))]; exact h.2 j a⟩
theorem IM.ag {D D' : zM} {s : zA} {ps ks : List Nat} (h : IM D s) (hD : z_ag 46 ps ks D D') (hp : ps.all (fun q => decide (q < 46 ∨ 52 < q)) = true) (hk : ks.all (fun k => decide (k ≠ 0 ∧ k ≠ 5 ∧ k ≠ 7 ∧ k ≠ 8)) = true) : IM D' s := by
  have e : ∀ q, 46 < q → q ≤ 52 → D' q = D q := fun q h1 h2 => hD.1 q (by omega) (fun c => by
    have := of_decide_eq_true (List.all_eq_true.mp hp q c)
    omega)
  have f : ∀ k, k = 0 ∨ k = 5 ∨ k = 7 ∨ k = 8 → D' 46 k = D 46 k := fun k h1 => hD.2 k (fun c => by
    have := of_decide_eq_true (List.all_eq_true.mp hk k c)
    omega)
  obtain ⟨h1, h2, h3, h4, h5, h6, h7⟩ := h
  refine ⟨by rw [f 0 (by omega)]; exact h1, by rw [f 5 (by omega)]; exact h2, by rw [f 7 (by omega)]; exact h3, by rw [f 8 (by omega)]; exact h4, fun k hk => ?_, fun n hn => ?_, fun x hx => ?_⟩
  · rw [e 47 (by omega) (by omega), e 48 (by omega) (by omega), e 49 (by omega) (by omega), e 50 (by omega) (by omega)]
    exact h5 k hk
  · rw [e 51 (by omega) (by omega)]; exact h6 n hn
  · rw [e 52 (by omega) (by omega)]; exact h7 x hx
theorem nI_ne9 {a : Nat} (h : a < 2 ^ 31) : nI a ≠ -9 := by
  intro e
  have := congrArg Int32.toInt e
  rw [nI_toInt h, show (-9 : Int32).toInt = -9 by decide] at this
  omega
theorem nI_lit (a : Nat) : Int32.ofNat a = nI a := rfl
theorem n0 : (0 : Int32) = nI 0 := rfl
theorem n1 : (1 : Int32) = nI 1 := rfl
theorem n5 : (5 : Int32) = nI 5 := rfl
theorem n10 : (10 : Int32) = nI 10 := rfl
theorem n14 : (14 : Int32) = nI 14 := rfl
/-- the reference's walkBetween -/
theorem uX4_wb_loop {D : zM} {s : zA} (hI : IM D s) (hs : WF s) {a b : Nat} (ha : a < 10) (hb : b < 10) : ∀ (n k : Nat), k + n = s 0 0 → z_Ok mX4_walkBetween 2 [some (.ref 46), some (.int (nI a)), some (.int (nI b)), some (.int (nI k))] [] D (z_pi (z_va (oI (z_fst (mt s a b) n k)) D)) := by
  intro n
  have hw := hs.1
  induction n with
  | zero =>
    intro k hk
    have e1 : (D 46 0 ≤ nI k) = True := by rw [hI.1, nI_leI (by omega) (by omega)]; simp; omega
    apply bX4_walkBetween_2 <;> simp only [e1, not_true, false_imp_iff, true_imp_iff]
    exact ⟨rfl, rfl⟩
  | succ n ih =>
    intro k hk
    have e1 : (D 46 0 ≤ nI k) = False := by rw [hI.1, nI_leI (by omega) (by omega)]; simp; omega
    have e0 : (nI k).toNatClampNeg = k := nI_clamp (by omega)
    obtain ⟨f1, f2, f3, f4⟩ := hI.2.2.2.2.1 k (by omega)
    obtain ⟨g1, g2, -⟩ := hs.2.2.2.2.1 k (by omega)
    have i1 : (nI (s 1 k) = nI a) = (s 1 k = a) := propext (nI_eq (by omega) (by omega))
    have i2 : (nI (s 1 k) = nI b) = (s 1 k = b) := propext (nI_eq (by omega) (by omega))
    have i3 : (nI (s 2 k) = nI a) = (s 2 k = a) := propext (nI_eq (by omega) (by omega))
    have i4 : (nI (s 2 k) = nI b) = (s 2 k = b) := propext (nI_eq (by omega) (by omega))
    have ih' := ih (k + 1) (by omega)
    rw [nI_succ] at ih'
    apply bX4_walkBetween_2 <;> simp only [e1, e0, f1, f2, i1, i2, i3, i4, not_false_eq_true, false_imp_iff, true_imp_iff]
    · exact vp_in_nI (by omega) (by omega)
    all_goals (intros; first
      | (rw [show z_fst (mt s a b) (n + 1) k = z_fst (mt s a b) n (k + 1) from if_neg (by simp [mt]; omega)]; exact ih')
      | (rw [show z_fst (mt s a b) (n + 1) k = some k from if_pos (by simp [mt]; omega)]; exact ⟨rfl, rfl⟩))
theorem uX4_walkBetween {D : zM} {s : zA} (hI : IM D s) (hs : WF s) {a b : Nat} (ha : a < 10) (hb : b < 10) : z_Ci mX4_walkBetween [.ref 46, .int (nI a), .int (nI b)] D (z_va (oI (wbt s a b)) D) :=
  bX4_walkBetween_0 (uX4_wb_loop hI hs ha hb (s 0 0) 0 (by omega))
end
section
/-! BITS AND GRAPHS: sets of places as numbers, who is next to whom -/
theorem nb_and (a b : Nat) : nI a &&& nI b = nI (a &&& b) := by
  apply Int32.toBitVec_inj.1
  show BitVec.ofNat 32 a &&& BitVec.ofNat 32 b = BitVec.ofNat 32 (a &&& b)
  apply BitVec.eq_of_getLsbD_eq
  intro i hi
  simp [hi]
theorem nb_or (a b : Nat) : nI a ||| nI b = nI (a ||| b) := by
  apply Int32.toBitVec_inj.1
  show BitVec.ofNat 32 a ||| BitVec.ofNat 32 b = BitVec.ofNat 32 (a ||| b)
  apply BitVec.eq_of_getLsbD_eq
  intro i hi
  simp [hi]
theorem nb_xor (a b : Nat) : nI a ^^^ nI b = nI (a ^^^ b) := by
  apply Int32.toBitVec_inj.1
  show BitVec.ofNat 32 a ^^^ BitVec.ofNat 32 b = BitVec.ofNat 32 (a ^^^ b)
  apply BitVec.eq_of_getLsbD_eq
  intro i hi
  simp [hi]
theorem nb_sh1 : ∀ q, q < 10 → (1 : Int32) <<< (nI q &&& 31) = nI (2 ^ q) := by decide +kernel
theorem nb_smod : ∀ q, q < 10 → ((nI q &&& 31).toBitVec.smod 32).toNat = q := by decide +kernel
theorem nb_shr {m q : Nat} (hm : m < 2 ^ 31) (hq : q < 10) : nI m >>> (nI q &&& 31) = nI (m / 2 ^ q) := pk_shrN hm _ q (nb_smod q hq)
theorem zb_bit {m q : Nat} (hm : m < 2 ^ 31) (hq : q < 10) : zb (nI m) (nI q) ↔ m.testBit q = true := by
  unfold zb
  have h2 : m / 2 ^ q < 2 ^ 31 := Nat.lt_of_le_of_lt (Nat.div_le_self _ _) hm
  rw [nb_shr hm hq, pk_andN (by omega) 1 (by decide), n1, nI_eq (by omega) (by omega), Nat.testBit_eq_decide_div_mod_eq]
  simp
def bm (f : Nat → Bool) : Nat → Nat
  | 0 => 0
  | n + 1 => bm f n + (if f n then 2 ^ n else 0)
theorem bm_lt (f : Nat → Bool) : ∀ n, bm f n < 2 ^ n
  | 0 => by simp [bm]
  | n + 1 => by
    have := bm_lt f n
    unfold bm
    rw [Nat.pow_succ]
    split <;> omega
theorem bm_bit (f : Nat → Bool) : ∀ n q, (bm f n).testBit q = (decide (q < n) && f q)
  | 0, q => by simp [bm]
  | n + 1, q => by
    have hl := bm_lt f n
    have ih := bm_bit f n q
    unfold bm
    by_cases hf : f n = true
    · rw [if_pos hf, Nat.add_comm]
      by_cases e : q = n
      · subst e
        rw [Nat.testBit_two_pow_add_eq, Nat.testBit_lt_two_pow hl]
        simp [hf]
      · by_cases h : q < n
        · rw [Nat.testBit_two_pow_add_gt h, ih]
          simp [h, Nat.lt_succ_of_lt h]
        · have h1 : 2 ^ n + bm f n < 2 ^ q := by
            have h2 : 2 ^ (n + 1) ≤ 2 ^ q := Nat.pow_le_pow_right (by omega) (by omega)
            rw [Nat.pow_succ] at h2
            omega
          rw [Nat.testBit_lt_two_pow h1]
          simp [show ¬ q < n + 1 by omega]
    · rw [if_neg hf, Nat.add_zero, ih]
      by_cases e : q = n
      · subst e
        simp [hf]
      · have : decide (q < n) = decide (q < n + 1) := decide_eq_decide.mpr (by omega)
        rw [this]
theorem bm_congr {f g : Nat → Bool} {n : Nat} (h : ∀ q, q < n → f q = g q) : bm f n = bm g n := by
  apply Nat.eq_of_testBit_eq
  intro i
  rw [bm_bit, bm_bit]
  by_cases hi : i < n
  · simp [hi, h i hi]
  · simp [hi]
theorem bm_xor (f : Nat → Bool) {n b : Nat} (hb : b < n) : bm f n ^^^ 2 ^ b = bm (fun q => if q = b then !f q else f q) n := by
  apply Nat.eq_of_testBit_eq
  intro i
  rw [Nat.testBit_xor, bm_bit, bm_bit, Nat.testBit_two_pow]
  by_cases e : i = b
  · subst e
    simp [hb]
  · simp [e, Ne.symm e]
theorem bm_or (f : Nat → Bool) {n b : Nat} (hb : b < n) : bm f n ||| 2 ^ b = bm (fun q => if q = b then true else f q) n := by
  apply Nat.eq_of_testBit_eq
  intro i
  rw [Nat.testBit_or, bm_bit, bm_bit, Nat.testBit_two_pow]
  by_cases e : i = b
  · subst e
    simp [hb]
  · simp [e, Ne.symm e]
/-- a set of places, as it is, is a bm -/
theorem bm_of {m n : Nat} (h : m < 2 ^ n) : bm m.testBit n = m := by
  apply Nat.eq_of_testBit_eq
  intro i
  rw [bm_bit]
  by_cases hi : i < n
  · simp [hi]
  · have : m < 2 ^ i := Nat.lt_of_lt_of_le h (Nat.pow_le_pow_right (by omega) (by omega))
    simp [hi, Nat.testBit_lt_two_pow this]
def oa (s : zA) (p q : Nat) : Bool := (obt s p q).isSome
def ol (s : zA) (p q : Nat) : Nat := match obt s p q with
  | none => 0
  | some k => s 3 k
theorem mt_iff {s : zA} {a b k : Nat} : mt s a b k = true ↔ (s 1 k = a ∧ s 2 k = b) ∨ (s 1 k = b ∧ s 2 k = a) := by simp [mt]
theorem mt_comm {s : zA} {a b k : Nat} : mt s a b k = mt s b a k := by
  unfold mt
  exact Bool.or_comm _ _
theorem mt_uniq {s : zA} (hs : WF s) {a b j k : Nat} (hj : j < s 0 0) (hk : k < s 0 0) (h1 : mt s a b j = true) (h2 : mt s a b k = true) : j = k := by
  obtain ⟨a1, -, -, -, -, a2⟩ := hs.2.2.2.2.1 j hj
  obtain ⟨b1, -, -, -, -, b2⟩ := hs.2.2.2.2.1 k hk
  rw [mt_iff] at h1 h2
  rcases Nat.lt_trichotomy j k with q | q | q
  · exact absurd ⟨by omega, by omega⟩ (b2 j q)
  · exact q
  · exact absurd ⟨by omega, by omega⟩ (a2 k q)
theorem wbt_iff {s : zA} (hs : WF s) {a b k : Nat} : wbt s a b = some k ↔ k < s 0 0 ∧ mt s a b k = true := by
  constructor
  · intro h
    obtain ⟨-, h2, h3, -⟩ := z_fst_some h
    exact ⟨by omega, h3⟩
  · rintro ⟨h1, h2⟩
    refine z_fst_eq (Nat.zero_le _) (by omega) h2 (fun i _ hi => ?_)
    cases h : mt s a b i with
    | false => rfl
    | true => exact absurd (mt_uniq hs (by omega) h1 h h2) (by omega)
theorem wbt_comm {s : zA} {a b : Nat} : wbt s a b = wbt s b a := by
  unfold wbt
  rw [show mt s a b = mt s b a from funext fun k => mt_comm]
theorem obt_iff {s : zA} (hs : WF s) {a b k : Nat} : obt s a b = some k ↔ k < s 0 0 ∧ mt s a b k = true ∧ s 4 k = 1 := by
  unfold obt
  cases h : wbt s a b with
  | none =>
    constructor
    · intro h2; cases h2
    · rintro ⟨h1, h2, -⟩
      rw [(wbt_iff hs).mpr ⟨h1, h2⟩] at h
      cases h
  | some j =>
    obtain ⟨h1, h2⟩ := (wbt_iff hs).mp h
    show (if s 4 j = 1 then some j else none) = some k ↔ _
    constructor
    · intro h3
      by_cases e : s 4 j = 1
      · rw [if_pos e] at h3
        cases h3
        exact ⟨h1, h2, e⟩
      · rw [if_neg e] at h3
        cases h3
    · rintro ⟨h3, h4, h5⟩
      have := mt_uniq hs h1 h3 h2 h4
      subst this
      rw [if_pos h5]
theorem obt_comm {s : zA} {a b : Nat} : obt s a b = obt s b a := by
  unfold obt
  rw [wbt_comm]
theorem oa_iff {s : zA} (hs : WF s) {a b : Nat} : oa s a b = true ↔ ∃ k, k < s 0 0 ∧ mt s a b k = true ∧ s 4 k = 1 := by
  unfold oa
  constructor
  · intro h
    obtain ⟨k, hk⟩ := Option.isSome_iff_exists.mp h
    exact ⟨k, (obt_iff hs).mp hk⟩
  · rintro ⟨k, hk⟩
    rw [(obt_iff hs).mpr hk]
    rfl
theorem oa_comm {s : zA} {a b : Nat} : oa s a b = oa s b a := by unfold oa; rw [obt_comm]
theorem ol_comm {s : zA} {a b : Nat} : ol s a b = ol s b a := by unfold ol; rw [obt_comm]
theorem ol_of {s : zA} (hs : WF s) {a b k : Nat} (h1 : k < s 0 0) (h2 : mt s a b k = true) (h3 : s 4 k = 1) : ol s a b = s 3 k := by
  unfold ol
  rw [(obt_iff hs).mpr ⟨h1, h2, h3⟩]
theorem ol_no {s : zA} {a b : Nat} (h : oa s a b = false) : ol s a b = 0 := by
  unfold oa at h
  unfold ol
  cases hk : obt s a b with
  | none => rfl
  | some k => rw [hk] at h; cases h
theorem ol_pos {s : zA} (hs : WF s) {a b : Nat} (h : oa s a b = true) : 1 ≤ ol s a b ∧ ol s a b ≤ 99 := by
  obtain ⟨k, h1, h2, h3⟩ := (oa_iff hs).mp h
  rw [ol_of hs h1 h2 h3]
  have := hs.2.2.2.2.1 k h1
  omega
theorem oa_lt {s : zA} (hs : WF s) {a b : Nat} (h : oa s a b = true) : a < 10 ∧ b < 10 ∧ a ≠ b := by
  obtain ⟨k, h1, h2, -⟩ := (oa_iff hs).mp h
  rw [mt_iff] at h2
  have := hs.2.2.2.2.1 k h1
  omega
/-- the class holds the state -/
def IX (D : zM) (s : zA) : Prop := D 1 6 = nI (s 0 0) ∧ D 0 7 = nI (s 0 1) ∧ D 0 8 = nI (s 0 2) ∧ D 0 9 = nI (s 0 3) ∧
  (∀ k, k < s 0 0 → D 2 k = nI (s 1 k) ∧ D 3 k = nI (s 2 k) ∧ D 4 k = nI (s 3 k) ∧ D 5 k = nI (s 4 k)) ∧
  (∀ n, n < s 0 1 → D 38 n = nI (s 5 n)) ∧ (∀ p, p < 10 → ∀ n, n < 5 → D (40 + n) p = oI (aO (s 6 (5 * p + n)))) ∧
  (∀ p, p < 10 → D 6 p = nI (bm (oa s p) 10)) ∧ ∀ p, p < 10 → ∀ q, q < 10 → D (8 + p) q = nI (ol s p q)
theorem IX.ag {D D' : zM} {s : zA} {ps ks : List Nat} (h : IX D s) (hD : z_ag 0 ps ks D D') (hp : ps.all (fun q => decide ((18 ≤ q ∧ q < 38) ∨ 44 < q)) = true) (hk : ks.all (fun k => decide (9 < k)) = true) : IX D' s := by
  have e : ∀ q, 0 < q → q < 18 ∨ (38 ≤ q ∧ q ≤ 44) → D' q = D q := fun q h1 h2 => hD.1 q (by omega) (fun c => by
    have := of_decide_eq_true (List.all_eq_true.mp hp q c)
    omega)
  have f : ∀ k, k ≤ 9 → D' 0 k = D 0 k := fun k h1 => hD.2 k (fun c => by
    have := of_decide_eq_true (List.all_eq_true.mp hk k c)
    omega)
  obtain ⟨h1, h2, h3, h4, h5, h6, h7, h8, h9⟩ := h
  refine ⟨by rw [e 1 (by omega) (by omega)]; exact h1, by rw [f 7 (by omega)]; exact h2, by rw [f 8 (by omega)]; exact h3, by rw [f 9 (by omega)]; exact h4, fun k hk => ?_, fun n hn => ?_, fun p hp n hn => ?_, fun p hp => ?_, fun p hp q hq => ?_⟩
  · rw [e 2 (by omega) (by omega), e 3 (by omega) (by omega), e 4 (by omega) (by omega), e 5 (by omega) (by omega)]
    exact h5 k hk
  · rw [e 38 (by omega) (by omega)]; exact h6 n hn
  · rw [e (40 + n) (by omega) (by omega)]; exact h7 p hp n hn
  · rw [e 6 (by omega) (by omega)]; exact h8 p hp
  · rw [e (8 + p) (by omega) (by omega)]; exact h9 p hp q hq
def zI (D : zM) (s : zA) : Prop := WF s ∧ IM D s ∧ IX D s
/-- what both have behind a call: the class answered r, the reference answers the same, both hold one state -/
def zJ (Y : zY) (as : List Value) : Int32 → zM → Prop := fun r D1 => z_Ci Y as D1 (fun r2 D2 => r2 = r ∧ ∃ s, zI D2 s)
end
section
/-! THE EASY CALLS, class and reference side by side -/
theorem z_nm_in {x : Int32} {n : Nat} (h : n < 2 ^ 31) : z_nm x (nI n) ↔ vp_in x n := by
  unfold z_nm
  rw [vp_in_iff, Int32.le_iff_toInt_le, Int32.lt_iff_toInt_lt, nI_toInt h, show (0 : Int32).toInt = 0 by decide]
theorem z_wi_in {x : Int32} {n : Nat} (h : n < 2 ^ 31) : z_wi x 0 (nI n - 1) ↔ vp_in x n := by
  unfold z_wi
  rw [vp_in_iff, Int32.le_iff_toInt_le, Int32.le_iff_toInt_le, show (0 : Int32).toInt = 0 by decide]
  cases n with
  | zero =>
    rw [show (nI 0 - 1).toInt = -1 by decide]
    omega
  | succ m =>
    rw [nI_pred, nI_toInt (by omega)]
    omega
theorem z_wi_999 {x : Int32} : z_wi x 0 999 ↔ vp_in x 1000 := by
  unfold z_wi
  rw [vp_in_iff, Int32.le_iff_toInt_le, Int32.le_iff_toInt_le, show (0 : Int32).toInt = 0 by decide, show (999 : Int32).toInt = 999 by decide]
  omega
theorem z_999_in {x : Int32} : (¬ x < 0 ∧ x ≤ 999) ↔ vp_in x 1000 := by
  rw [vp_in_iff, Int32.lt_iff_toInt_lt, Int32.le_iff_toInt_le, show (0 : Int32).toInt = 0 by decide, show (999 : Int32).toInt = 999 by decide]
  omega
theorem z_5pn (p n : Nat) : (5 : Int32) * nI p + nI n = nI (5 * p + n) := by rw [n5, pk_mul, nI_add]
theorem oI_ne9 {o : Option Nat} (h : ∀ k, o = some k → k < 2 ^ 31) : oI o = -9 ↔ o = none := by
  cases o with
  | none => simp [oI]
  | some k =>
    have := nI_ne9 (h k rfl)
    simp [oI, this]
theorem aO_lt {v k : Nat} (h : aO v = some k) : v = k + 1 := by
  cases v with
  | zero => cases h
  | succ q =>
    have : q = k := Option.some.inj h
    omega
theorem obt_same {s t : zA} (h0 : t 0 0 = s 0 0) (h1 : t 1 = s 1) (h2 : t 2 = s 2) (h4 : t 4 = s 4) : obt t = obt s := by
  funext a b
  have e : mt t a b = mt s a b := by
    funext k
    unfold mt
    rw [h1, h2]
  unfold obt wbt
  rw [e, h0, h4]
theorem oa_same {s t : zA} (h0 : t 0 0 = s 0 0) (h1 : t 1 = s 1) (h2 : t 2 = s 2) (h4 : t 4 = s 4) : oa t = oa s := by
  funext a b
  unfold oa
  rw [obt_same h0 h1 h2 h4]
theorem ol_same {s t : zA} (h0 : t 0 0 = s 0 0) (h1 : t 1 = s 1) (h2 : t 2 = s 2) (h3 : t 3 = s 3) (h4 : t 4 = s 4) : ol t = ol s := by
  funext a b
  unfold ol
  rw [obt_same h0 h1 h2 h4, h3]
def IXt (D : zM) (s : zA) : Prop := (∀ p, p < 10 → ∀ n, n < 5 → D (40 + n) p = oI (aO (s 6 (5 * p + n)))) ∧ (∀ p, p < 10 → D 6 p = nI (bm (oa s p) 10)) ∧ ∀ p, p < 10 → ∀ q, q < 10 → D (8 + p) q = nI (ol s p q)
theorem IXt_keep {D E : zM} {s t : zA} (h : IXt D s) (hD : ∀ q, q = 6 ∨ (8 ≤ q ∧ q < 18) ∨ (40 ≤ q ∧ q < 45) → E q = D q) (h0 : t 0 0 = s 0 0) (h1 : t 1 = s 1) (h2 : t 2 = s 2) (h3 : t 3 = s 3) (h4 : t 4 = s 4) (h6 : t 6 = s 6) : IXt E t := by
  refine ⟨fun p hp n hn => ?_, fun p hp => ?_, fun p hp q hq => ?_⟩
  · rw [hD _ (by omega), h6]; exact h.1 p hp n hn
  · rw [hD _ (by omega), oa_same h0 h1 h2 h4]; exact h.2.1 p hp
  · rw [hD _ (by omega), ol_same h0 h1 h2 h3 h4]; exact h.2.2 p hp q hq
set_option maxRecDepth 20000 in
theorem J_name {D : zM} {s : zA} (h : zI D s) (x : Int32) : z_Ci mX3_name [.ref 0, .int x] D (zJ mX4_name [.ref 46, .int x]) := by
  obtain ⟨hs, hM, hX⟩ := id h
  have eX := hX.2.1
  have eM := hM.2.1
  have h5 := hs.2.1
  have c1 : D 0 7 < 5 ↔ s 0 1 < 5 := by rw [eX, n5, nI_ltI (by omega) (by omega)]
  have c2 : D 46 5 = 5 ↔ s 0 1 = 5 := by rw [eM, n5, nI_eq (by omega) (by omega)]
  refine bX3_name_0 (fun _ a => ?_) (fun a b => ?_) (fun a b => ?_) (fun a => ?_)
  · rw [eX]; exact vp_in_nI (c1.mp a) (by omega)
  · obtain ⟨p, hp, rfl, -⟩ := z_inN a
    have hb := c1.mp b
    have e0 : (D 0 7).toNatClampNeg = s 0 1 := by rw [eX]; exact nI_clamp (by omega)
    have e1 : (D 46 5).toNatClampNeg = s 0 1 := by rw [eM]; exact nI_clamp (by omega)
    rw [e0]
    refine bX4_name_0 (fun _ _ => ?_) (fun _ _ => ?_) (fun _ q => absurd (c2.mp q) (by omega)) (fun q => absurd a q)
    · show vp_in (D 46 5) 5
      rw [eM]; exact vp_in_nI hb (by omega)
    · refine ⟨?_, a_up (a_up s 5 (s 0 1) p) 0 1 (s 0 1 + 1), ⟨hs.1, hb, hs.2.2.1, hs.2.2.2.1, hs.2.2.2.2.1, fun n hn => ?_, hs.2.2.2.2.2.2⟩, ⟨hM.1, ?_, hM.2.2.1, hM.2.2.2.1, hM.2.2.2.2.1, fun n hn => ?_, hM.2.2.2.2.2.2⟩, ⟨hX.1, ?_, hX.2.2.1, hX.2.2.2.1, hX.2.2.2.2.1, fun n hn => ?_, IXt_keep hX.2.2.2.2.2.2 (fun q hq => by rw [z_up_ne (by omega), z_up_ne (by omega), z_up_ne (by omega), z_up_ne (by omega)]) rfl rfl rfl rfl rfl rfl⟩⟩
      · show D 46 5 + 1 - 1 = D 0 7 + 1 - 1
        rw [eM, eX]
      · have hn' : n < s 0 1 + 1 := hn
        show (a_up s 5 (s 0 1) p) 5 n < 10
        by_cases e : n = s 0 1
        · rw [e, a_up_eq]; exact hp
        · rw [a_up_k e]; exact hs.2.2.2.2.2.1 n (by omega)
      · show D 46 5 + 1 = nI (s 0 1 + 1)
        rw [eM, nI_succ]
      · have hn' : n < s 0 1 + 1 := hn
        show z_up D 51 (D 46 5).toNatClampNeg (nI p) 51 n = nI ((a_up s 5 (s 0 1) p) 5 n)
        rw [e1]
        by_cases e : n = s 0 1
        · rw [e, a_up_eq, z_up_eq]
        · rw [a_up_k e, z_up_k e]; exact hM.2.2.2.2.2.1 n (by omega)
      · show D 0 7 + 1 = nI (s 0 1 + 1)
        rw [eX, nI_succ]
      · have hn' : n < s 0 1 + 1 := hn
        show z_up D 38 (s 0 1) (nI p) 38 n = nI ((a_up s 5 (s 0 1) p) 5 n)
        by_cases e : n = s 0 1
        · rw [e, a_up_eq, z_up_eq]
        · rw [a_up_k e, z_up_k e]; exact hX.2.2.2.2.2.1 n (by omega)
  · have hb : ¬ s 0 1 < 5 := fun q => b (c1.mpr q)
    exact bX4_name_0 (fun _ q => absurd (c2.mpr (by omega)) q) (fun _ q => absurd (c2.mpr (by omega)) q) (fun _ _ => ⟨rfl, s, h⟩) (fun q => absurd a q)
  · exact bX4_name_0 (fun q _ => absurd q a) (fun q _ => absurd q a) (fun q _ => absurd q a) (fun _ => ⟨rfl, s, h⟩)
set_option maxRecDepth 20000 in
theorem J_moves {D : zM} {s : zA} (h : zI D s) (x y : Int32) : z_Ci mX3_moves [.ref 0, .int x, .int y] D (zJ mX4_moves [.ref 46, .int x, .int y]) := by
  obtain ⟨hs, hM, hX⟩ := id h
  have h5 := hs.2.1
  have cX : z_nm x (D 0 7) ↔ vp_in x (s 0 1) := by rw [hX.2.1]; exact z_nm_in (by omega)
  have cM : z_wi x 0 (D 46 5 - 1) ↔ vp_in x (s 0 1) := by rw [hM.2.1]; exact z_wi_in (by omega)
  have fail : ¬ (vp_in x (s 0 1) ∧ vp_in y 10) → zJ mX4_moves [.ref 46, .int x, .int y] (-1) D := fun hn => bX4_moves_0 (fun a b => absurd ⟨cM.mp a, b⟩ hn) (fun a b => absurd ⟨cM.mp a, b⟩ hn) (fun _ _ => ⟨rfl, s, h⟩) (fun _ => ⟨rfl, s, h⟩)
  refine bX3_moves_0 (fun a _ => z_in_mono (cX.mp a) h5) (fun a b => ?_) (fun a b => fail (fun q => b q.2)) (fun a => fail (fun q => a (cX.mpr q.1)))
  have a' := cX.mp a
  obtain ⟨n, hn, rfl, hn2⟩ := z_inN a'
  obtain ⟨p, hp, rfl, -⟩ := z_inN b
  have e0 : (nI n).toNatClampNeg = n := nI_clamp hn2
  rw [e0]
  refine bX4_moves_0 (fun _ _ => z_in_mono a' h5) (fun _ _ => ?_) (fun _ q => absurd b q) (fun q => absurd (cM.mpr a') q)
  rw [e0]
  refine ⟨?_, a_up s 5 n p, ⟨hs.1, h5, hs.2.2.1, hs.2.2.2.1, hs.2.2.2.2.1, fun m hm => ?_, hs.2.2.2.2.2.2⟩, ⟨hM.1, hM.2.1, hM.2.2.1, hM.2.2.2.1, hM.2.2.2.2.1, fun m hm => ?_, hM.2.2.2.2.2.2⟩, ⟨hX.1, hX.2.1, hX.2.2.1, hX.2.2.2.1, hX.2.2.2.2.1, fun m hm => ?_, IXt_keep hX.2.2.2.2.2.2 (fun q hq => by rw [z_up_ne (by omega), z_up_ne (by omega)]) rfl rfl rfl rfl rfl rfl⟩⟩
  · show D 51 n = D 38 n
    rw [hM.2.2.2.2.2.1 n hn, hX.2.2.2.2.2.1 n hn]
  · by_cases e : m = n
    · rw [e, a_up_eq]; exact hp
    · rw [a_up_k e]; exact hs.2.2.2.2.2.1 m hm
  · show z_up D 51 n (nI p) 51 m = _
    by_cases e : m = n
    · rw [e, a_up_eq, z_up_eq]
    · rw [a_up_k e, z_up_k e]; exact hM.2.2.2.2.2.1 m hm
  · show z_up D 38 n (nI p) 38 m = _
    by_cases e : m = n
    · rw [e, a_up_eq, z_up_eq]
    · rw [a_up_k e, z_up_k e]; exact hX.2.2.2.2.2.1 m hm
set_option maxRecDepth 20000 in
theorem J_detour {D : zM} {s : zA} (h : zI D s) (x : Int32) : z_Ci mX3_detour [.ref 0, .int x] D (zJ mX4_detour [.ref 46, .int x]) := by
  obtain ⟨hs, hM, hX⟩ := id h
  have fail : ¬ vp_in x 1000 → zJ mX4_detour [.ref 46, .int x] (-2) D := fun hn => bX4_detour_0 (fun a => absurd (z_wi_999.mp a) hn) (fun _ => ⟨rfl, s, h⟩)
  refine bX3_detour_0 (fun a => fail (fun q => (z_999_in.mpr q).1 a)) (fun a b => ?_) (fun a b => fail (fun q => b (z_999_in.mpr q).2))
  have c := z_999_in.mp ⟨a, b⟩
  obtain ⟨d, hd, rfl, -⟩ := z_inN c
  refine bX4_detour_0 (fun _ => ?_) (fun q => absurd (z_wi_999.mpr c) q)
  refine ⟨?_, a_up s 0 3 d, ⟨hs.1, hs.2.1, hs.2.2.1, ?_, hs.2.2.2.2.1, hs.2.2.2.2.2.1, hs.2.2.2.2.2.2⟩, ⟨hM.1, hM.2.1, hM.2.2.1, ?_, hM.2.2.2.2.1, hM.2.2.2.2.2.1, hM.2.2.2.2.2.2⟩, ⟨hX.1, hX.2.1, hX.2.2.1, ?_, hX.2.2.2.2.1, hX.2.2.2.2.2.1, IXt_keep hX.2.2.2.2.2.2 (fun q hq => by rw [z_up_ne (by omega), z_up_ne (by omega)]) rfl rfl rfl rfl rfl rfl⟩⟩
  · show D 46 8 = D 0 9
    rw [hM.2.2.2.1, hX.2.2.2.1]
  · show d ≤ 999
    omega
  · rfl
  · rfl
set_option maxRecDepth 20000 in
theorem J_entrance {D : zM} {s : zA} (h : zI D s) (x y : Int32) (hy : y = 0 ∨ y = 1) : z_Ci mX3_entrance [.ref 0, .int x, .int y] D (zJ mX4_entrance [.ref 46, .int x, .int y]) := by
  obtain ⟨hs, hM, hX⟩ := id h
  have he : D 46 7 = D 0 8 := by rw [hM.2.2.1, hX.2.2.1]
  have key : vp_in x 10 → zI (z_up (z_up D 0 8 (D 0 8 ^^^ ((1 : Int32) <<< (x &&& 31)))) 46 7 (D 46 7 ^^^ ((1 : Int32) <<< (x &&& 31)))) (a_up s 0 2 (s 0 2 ^^^ 2 ^ x.toNatClampNeg)) := by
    intro c
    obtain ⟨p, hp, rfl, hp2⟩ := z_inN c
    have e0 : (nI p).toNatClampNeg = p := nI_clamp hp2
    rw [e0]
    refine ⟨⟨hs.1, hs.2.1, ?_, hs.2.2.2.1, hs.2.2.2.2.1, hs.2.2.2.2.2.1, hs.2.2.2.2.2.2⟩, ⟨hM.1, hM.2.1, ?_, hM.2.2.2.1, hM.2.2.2.2.1, hM.2.2.2.2.2.1, hM.2.2.2.2.2.2⟩, ⟨hX.1, hX.2.1, ?_, hX.2.2.2.1, hX.2.2.2.2.1, hX.2.2.2.2.2.1, IXt_keep hX.2.2.2.2.2.2 (fun q hq => by rw [z_up_ne (by omega), z_up_ne (by omega)]) rfl rfl rfl rfl rfl rfl⟩⟩
    · show s 0 2 ^^^ 2 ^ p < 2 ^ 10
      exact Nat.xor_lt_two_pow hs.2.2.1 (Nat.pow_lt_pow_right (by omega) hp)
    · show D 46 7 ^^^ ((1 : Int32) <<< (nI p &&& 31)) = nI (s 0 2 ^^^ 2 ^ p)
      rw [nb_sh1 p hp, hM.2.2.1, nb_xor]
    · show D 0 8 ^^^ ((1 : Int32) <<< (nI p &&& 31)) = nI (s 0 2 ^^^ 2 ^ p)
      rw [nb_sh1 p hp, hX.2.2.1, nb_xor]
  refine bX3_entrance_0 (fun a b c => ?_) (fun a b c => ?_) (fun a b c => ?_) (fun a b c => ?_) (fun a => ?_)
  · exact bX4_entrance_0 (fun _ _ _ => ⟨rfl, _, key a⟩) (fun _ _ q => absurd q c) (fun _ q _ => absurd (show zb (D 46 7) x by rw [he]; exact b) q) (fun _ q _ => absurd (show zb (D 46 7) x by rw [he]; exact b) q) (fun q => absurd a q)
  · exact bX4_entrance_0 (fun _ _ q => absurd c q) (fun _ _ _ => ⟨rfl, s, h⟩) (fun _ q _ => absurd (show zb (D 46 7) x by rw [he]; exact b) q) (fun _ q _ => absurd (show zb (D 46 7) x by rw [he]; exact b) q) (fun q => absurd a q)
  · exact bX4_entrance_0 (fun _ q _ => absurd (show zb (D 0 8) x by rw [← he]; exact q) b) (fun _ q _ => absurd (show zb (D 0 8) x by rw [← he]; exact q) b) (fun _ _ _ => ⟨rfl, _, key a⟩) (fun _ _ q => absurd q c) (fun q => absurd a q)
  · exact bX4_entrance_0 (fun _ q _ => absurd (show zb (D 0 8) x by rw [← he]; exact q) b) (fun _ q _ => absurd (show zb (D 0 8) x by rw [← he]; exact q) b) (fun _ _ q => absurd c q) (fun _ _ _ => ⟨rfl, s, h⟩) (fun q => absurd a q)
  · exact bX4_entrance_0 (fun q _ _ => absurd q a) (fun q _ _ => absurd q a) (fun q _ _ => absurd q a) (fun q _ _ => absurd q a) (fun _ => ⟨rfl, s, h⟩)
set_option maxRecDepth 20000 in
theorem J_arrow {D : zM} {s : zA} (h : zI D s) (x y : Int32) : z_Ci mX3_arrow [.ref 0, .int x, .int y] D (zJ mX4_arrow [.ref 46, .int x, .int y]) := by
  obtain ⟨hs, hM, hX⟩ := id h
  have h5 := hs.2.1
  have cX : z_nm y (D 0 7) ↔ vp_in y (s 0 1) := by rw [hX.2.1]; exact z_nm_in (by omega)
  have cM : z_wi y 0 (D 46 5 - 1) ↔ vp_in y (s 0 1) := by rw [hM.2.1]; exact z_wi_in (by omega)
  have fail : ¬ (vp_in x 10 ∧ vp_in y (s 0 1)) → zJ mX4_arrow [.ref 46, .int x, .int y] (-1) D := fun hn => bX4_arrow_0 (fun a b => absurd ⟨a, cM.mp b⟩ hn) (fun a b => absurd ⟨a, cM.mp b⟩ hn) (fun _ _ => ⟨rfl, s, h⟩) (fun _ => ⟨rfl, s, h⟩)
  refine bX3_arrow_0 (fun _ b => z_in_mono (cX.mp b) h5) (fun a b => ?_) (fun a b => fail (fun q => b (cX.mpr q.2))) (fun a => fail (fun q => a q.1))
  have b' := cX.mp b
  obtain ⟨p, hp, rfl, hp2⟩ := z_inN a
  obtain ⟨n, hn, rfl, hn2⟩ := z_inN b'
  rw [nI_clamp hp2, nI_clamp hn2]
  refine bX4_arrow_0 (fun _ _ => ?_) (fun _ _ => ?_) (fun _ q => absurd (cM.mpr b') q) (fun q => absurd a q)
  · rw [z_5pn]; exact vp_in_nI (by omega) (by omega)
  · rw [z_5pn, nI_clamp (by omega)]
    exact ⟨by rw [hM.2.2.2.2.2.2 _ (by omega), hX.2.2.2.2.2.2.1 p hp n (by omega)], s, h⟩
end
