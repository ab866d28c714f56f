-- ===== PART A: goes FIRST, ahead of the names: the tables' words, and 'selects' of the private methods out of them =====
/-- a private method of a class that the tables say can be made, by its rows of tables_1 -/
def lw_okq (q : MethodName × Nat) : Prop := (q.1.cls ≠ "java/lang/invoke/MethodHandle" ∧ q.1.cls ≠ "java/lang/invoke/VarHandle") ∧ Cond.instantiable q.1.cls q.2 ∈ tables_1 ∧ Cond.privateMethod q.1 ∈ tables_1 ∧ Cond.instanceMethod q.1 ∈ tables_1
theorem lw_p0 : lw_okq (⟨"ShadowTag", "stepsOrFarthest", "(I)I"⟩, 9) := ⟨⟨by decide +kernel, by decide +kernel⟩, List.mem_of_getElem? (i := 11) (by decide +kernel), List.mem_of_getElem? (i := 239) (by decide +kernel), List.mem_of_getElem? (i := 240) (by decide +kernel)⟩
theorem lw_p1 : lw_okq (⟨"ShadowTag$Board", "enter", "(II)V"⟩, 5) := ⟨⟨by decide +kernel, by decide +kernel⟩, List.mem_of_getElem? (i := 184) (by decide +kernel), List.mem_of_getElem? (i := 305) (by decide +kernel), List.mem_of_getElem? (i := 306) (by decide +kernel)⟩
theorem lw_p2 : lw_okq (⟨"ShadowTag$Runners", "step", "(I)V"⟩, 12) := ⟨⟨by decide +kernel, by decide +kernel⟩, List.mem_of_getElem? (i := 25) (by decide +kernel), List.mem_of_getElem? (i := 344) (by decide +kernel), List.mem_of_getElem? (i := 345) (by decide +kernel)⟩
theorem lw_p3 : lw_okq (⟨"ShadowTag", "cellsInShadowsOf", "(I)I"⟩, 9) := ⟨⟨by decide +kernel, by decide +kernel⟩, List.mem_of_getElem? (i := 11) (by decide +kernel), List.mem_of_getElem? (i := 400) (by decide +kernel), List.mem_of_getElem? (i := 401) (by decide +kernel)⟩
theorem lw_p4 : lw_okq (⟨"ShadowTag", "cellsInAnyShadow", "()I"⟩, 9) := ⟨⟨by decide +kernel, by decide +kernel⟩, List.mem_of_getElem? (i := 11) (by decide +kernel), List.mem_of_getElem? (i := 416) (by decide +kernel), List.mem_of_getElem? (i := 417) (by decide +kernel)⟩
theorem lw_p5 : lw_okq (⟨"ShadowTag", "cellsInShadowsBy", "(I)I"⟩, 9) := ⟨⟨by decide +kernel, by decide +kernel⟩, List.mem_of_getElem? (i := 11) (by decide +kernel), List.mem_of_getElem? (i := 480) (by decide +kernel), List.mem_of_getElem? (i := 481) (by decide +kernel)⟩
theorem lw_p6 : lw_okq (⟨"ShadowTag", "takeOver", "(I)I"⟩, 9) := ⟨⟨by decide +kernel, by decide +kernel⟩, List.mem_of_getElem? (i := 11) (by decide +kernel), List.mem_of_getElem? (i := 531) (by decide +kernel), List.mem_of_getElem? (i := 532) (by decide +kernel)⟩
theorem lw_p7 : lw_okq (⟨"ShadowTag$History", "ringPlace", "(I)LShadowTag$Platform;"⟩, 3) := ⟨⟨by decide +kernel, by decide +kernel⟩, List.mem_of_getElem? (i := 134) (by decide +kernel), List.mem_of_getElem? (i := 539) (by decide +kernel), List.mem_of_getElem? (i := 540) (by decide +kernel)⟩
def lw_privs_1 : List (MethodName × Nat) := [(⟨"ShadowTag", "stepsOrFarthest", "(I)I"⟩, 9), (⟨"ShadowTag$Board", "enter", "(II)V"⟩, 5), (⟨"ShadowTag$Runners", "step", "(I)V"⟩, 12), (⟨"ShadowTag", "cellsInShadowsOf", "(I)I"⟩, 9), (⟨"ShadowTag", "cellsInAnyShadow", "()I"⟩, 9), (⟨"ShadowTag", "cellsInShadowsBy", "(I)I"⟩, 9), (⟨"ShadowTag", "takeOver", "(I)I"⟩, 9), (⟨"ShadowTag$History", "ringPlace", "(I)LShadowTag$Platform;"⟩, 3)]
theorem lw_r1 : ∀ q ∈ lw_privs_1, lw_okq q := List.forall_mem_cons.mpr ⟨lw_p0, List.forall_mem_cons.mpr ⟨lw_p1, List.forall_mem_cons.mpr ⟨lw_p2, List.forall_mem_cons.mpr ⟨lw_p3, List.forall_mem_cons.mpr ⟨lw_p4, List.forall_mem_cons.mpr ⟨lw_p5, List.forall_mem_cons.mpr ⟨lw_p6, List.forall_mem_cons.mpr ⟨lw_p7, fun _ h => absurd h List.not_mem_nil⟩⟩⟩⟩⟩⟩⟩⟩
def lw_privs : List (MethodName × Nat) := lw_privs_1
def lw_tbl : List Cond := k2_sels lw_privs ++ tables_1
theorem lw_privs_ok : ∀ q ∈ lw_privs, lw_okq q := lw_r1
def RX0 : String := "ShadowTag$Board"
def TX0 : u_T := fun k => match k with
  | 0 => ("ShadowTag$Board", "dark", "[Z", true)
  | 1 => ("ShadowTag$Board", "barred", "[Z", true)
  | 2 => ("ShadowTag$Board", "steps", "[I", true)
  | 3 => ("ShadowTag$Board", "queue", "[I", true)
  | _ => ("ShadowTag$Board", "queued", "I", false)
def tyX0 : Nat → FieldType := fun k => match k with
  | 0 => .array .boolean
  | 1 => .array .boolean
  | 2 => .array .int
  | 3 => .array .int
  | _ => .int
abbrev wsX00 : List Cond := u_ws RX0 TX0 5
theorem nmX0 : ∀ a, a < 5 → ∀ b, b < 5 → a ≠ b → (TX0 a).2.1 ≠ (TX0 b).2.1 := by decide +kernel
theorem tyX0_ok : ∀ k, k < 5 → parseFieldDescriptor (TX0 k).2.2.1 = some (tyX0 k) := by decide +kernel
abbrev cX0_init : ByteArray := prog_2_method_1_code
def yX0_init : MethodName := ⟨RX0, "<init>", "()V"⟩
abbrev cX0_clear : ByteArray := prog_2_method_2_code
def yX0_clear : MethodName := ⟨RX0, "clear", "()V"⟩
abbrev cX0_darken : ByteArray := prog_2_method_3_code
def yX0_darken : MethodName := ⟨RX0, "darken", "(I)V"⟩
abbrev cX0_block : ByteArray := prog_2_method_4_code
def yX0_block : MethodName := ⟨RX0, "block", "(I)V"⟩
abbrev cX0_darkCells : ByteArray := prog_2_method_5_code
def yX0_darkCells : MethodName := ⟨RX0, "darkCells", "()I"⟩
abbrev cX0_stepsIntoTheDark : ByteArray := prog_2_method_6_code
def yX0_stepsIntoTheDark : MethodName := ⟨RX0, "stepsIntoTheDark", "(I)I"⟩
abbrev cX0_enter : ByteArray := prog_2_method_7_code
def yX0_enter : MethodName := ⟨RX0, "enter", "(II)V"⟩
def RX1 : String := "ShadowTag$Game"
def TX1 : u_T := fun k => match k with
  | 0 => ("ShadowTag$Game", "signs", "[C", true)
  | 1 => ("ShadowTag$Game", "length", "I", false)
  | 2 => ("ShadowTag$Game", "position", "I", false)
  | 3 => ("ShadowTag$Game", "kind", "[I", true)
  | 4 => ("ShadowTag$Game", "first", "[I", true)
  | 5 => ("ShadowTag$Game", "second", "[I", true)
  | _ => ("ShadowTag$Game", "things", "I", false)
def tyX1 : Nat → FieldType := fun k => match k with
  | 0 => .array .char
  | 1 => .int
  | 2 => .int
  | 3 => .array .int
  | 4 => .array .int
  | 5 => .array .int
  | _ => .int
abbrev wsX10 : List Cond := u_ws RX1 TX1 7
theorem nmX1 : ∀ a, a < 7 → ∀ b, b < 7 → a ≠ b → (TX1 a).2.1 ≠ (TX1 b).2.1 := by decide +kernel
theorem tyX1_ok : ∀ k, k < 7 → parseFieldDescriptor (TX1 k).2.2.1 = some (tyX1 k) := by decide +kernel
abbrev cX1_init : ByteArray := prog_3_method_1_code
def yX1_init : MethodName := ⟨RX1, "<init>", "()V"⟩
def RX2 : String := "ShadowTag$History"
def TX2 : u_T := fun k => match k with
  | 0 => ("ShadowTag$History", "ring", "[LShadowTag$Platform;", true)
  | 1 => ("ShadowTag$History", "oldest", "I", false)
  | _ => ("ShadowTag$History", "states", "I", false)
def tyX2 : Nat → FieldType := fun k => match k with
  | 0 => .array (.object "ShadowTag$Platform")
  | 1 => .int
  | _ => .int
abbrev wsX20 : List Cond := u_ws RX2 TX2 3
theorem nmX2 : ∀ a, a < 3 → ∀ b, b < 3 → a ≠ b → (TX2 a).2.1 ≠ (TX2 b).2.1 := by decide +kernel
theorem tyX2_ok : ∀ k, k < 3 → parseFieldDescriptor (TX2 k).2.2.1 = some (tyX2 k) := by decide +kernel
abbrev cX2_init : ByteArray := prog_4_method_1_code
def yX2_init : MethodName := ⟨RX2, "<init>", "()V"⟩
abbrev cX2_record : ByteArray := prog_4_method_2_code
def yX2_record : MethodName := ⟨RX2, "record", "(LShadowTag$Platform;)V"⟩
abbrev cX2_ringPlace : ByteArray := prog_4_method_3_code
def yX2_ringPlace : MethodName := ⟨RX2, "ringPlace", "(I)LShadowTag$Platform;"⟩
def RX3 : String := "ShadowTag$Lamps"
def TX3 : u_T := fun k => match k with
  | 0 => ("ShadowTag$Lamps", "side", "[I", true)
  | 1 => ("ShadowTag$Lamps", "reach", "[I", true)
  | 2 => ("ShadowTag$Lamps", "swing", "[I", true)
  | _ => ("ShadowTag$Lamps", "on", "[I", true)
def tyX3 : Nat → FieldType := fun k => match k with
  | 0 => .array .int
  | 1 => .array .int
  | 2 => .array .int
  | _ => .array .int
abbrev wsX30 : List Cond := u_ws RX3 TX3 4
theorem nmX3 : ∀ a, a < 4 → ∀ b, b < 4 → a ≠ b → (TX3 a).2.1 ≠ (TX3 b).2.1 := by decide +kernel
theorem tyX3_ok : ∀ k, k < 4 → parseFieldDescriptor (TX3 k).2.2.1 = some (tyX3 k) := by decide +kernel
abbrev cX3_init : ByteArray := prog_5_method_1_code
def yX3_init : MethodName := ⟨RX3, "<init>", "()V"⟩
abbrev cX3_copyFrom : ByteArray := prog_5_method_2_code
def yX3_copyFrom : MethodName := ⟨RX3, "copyFrom", "(LShadowTag$Lamps;)V"⟩
abbrev cX3_burning : ByteArray := prog_5_method_3_code
def yX3_burning : MethodName := ⟨RX3, "burning", "()I"⟩
abbrev cX3_switchTo : ByteArray := prog_5_method_4_code
def yX3_switchTo : MethodName := ⟨RX3, "switchTo", "(II)I"⟩
abbrev cX3_adjust : ByteArray := prog_5_method_5_code
def yX3_adjust : MethodName := ⟨RX3, "adjust", "(III)I"⟩
abbrev cX3_swingAtTurn : ByteArray := prog_5_method_6_code
def yX3_swingAtTurn : MethodName := ⟨RX3, "swingAtTurn", "(I)V"⟩
def RX4 : String := "ShadowTag$Platform"
def TX4 : u_T := fun k => match k with
  | 0 => ("ShadowTag$Platform", "runners", "LShadowTag$Runners;", true)
  | 1 => ("ShadowTag$Platform", "lamps", "LShadowTag$Lamps;", true)
  | 2 => ("ShadowTag$Platform", "settings", "[I", true)
  | 3 => ("ShadowTag$Platform", "turn", "I", false)
  | _ => ("ShadowTag$Platform", "spins", "I", false)
def tyX4 : Nat → FieldType := fun k => match k with
  | 0 => .object "ShadowTag$Runners"
  | 1 => .object "ShadowTag$Lamps"
  | 2 => .array .int
  | 3 => .int
  | _ => .int
abbrev wsX40 : List Cond := u_ws RX4 TX4 5
theorem nmX4 : ∀ a, a < 5 → ∀ b, b < 5 → a ≠ b → (TX4 a).2.1 ≠ (TX4 b).2.1 := by decide +kernel
theorem tyX4_ok : ∀ k, k < 5 → parseFieldDescriptor (TX4 k).2.2.1 = some (tyX4 k) := by decide +kernel
abbrev cX4_init : ByteArray := prog_6_method_1_code
def yX4_init : MethodName := ⟨RX4, "<init>", "()V"⟩
abbrev cX4_copyFrom : ByteArray := prog_6_method_2_code
def yX4_copyFrom : MethodName := ⟨RX4, "copyFrom", "(LShadowTag$Platform;)V"⟩
abbrev cX4_takeTurns : ByteArray := prog_6_method_3_code
def yX4_takeTurns : MethodName := ⟨RX4, "takeTurns", "(I)I"⟩
abbrev cX4_takeTurn : ByteArray := prog_6_method_4_code
def yX4_takeTurn : MethodName := ⟨RX4, "takeTurn", "()Z"⟩
abbrev cX4_firstCaught : ByteArray := prog_6_method_5_code
def yX4_firstCaught : MethodName := ⟨RX4, "firstCaught", "()I"⟩
abbrev cX4_catcherStandsInShadowOf : ByteArray := prog_6_method_6_code
def yX4_catcherStandsInShadowOf : MethodName := ⟨RX4, "catcherStandsInShadowOf", "(I)Z"⟩
abbrev cX4_isInShadow : ByteArray := prog_6_method_7_code
def yX4_isInShadow : MethodName := ⟨RX4, "isInShadow", "(III)Z"⟩
abbrev cX4_shadowLength : ByteArray := prog_6_method_8_code
def yX4_shadowLength : MethodName := ⟨RX4, "shadowLength", "(II)I"⟩
abbrev cX4_shadowEnd : ByteArray := prog_6_method_9_code
def yX4_shadowEnd : MethodName := ⟨RX4, "shadowEnd", "(II)I"⟩
abbrev cX4_hasShadow : ByteArray := prog_6_method_10_code
def yX4_hasShadow : MethodName := ⟨RX4, "hasShadow", "(I)Z"⟩
abbrev cX4_runnersWithoutShadow : ByteArray := prog_6_method_11_code
def yX4_runnersWithoutShadow : MethodName := ⟨RX4, "runnersWithoutShadow", "()I"⟩
abbrev cX4_shadowerOf : ByteArray := prog_6_method_12_code
def yX4_shadowerOf : MethodName := ⟨RX4, "shadowerOf", "(II)I"⟩
abbrev cX4_darkenShadowsOf : ByteArray := prog_6_method_13_code
def yX4_darkenShadowsOf : MethodName := ⟨RX4, "darkenShadowsOf", "(ILShadowTag$Board;)V"⟩
abbrev cX4_darkenShadow : ByteArray := prog_6_method_14_code
def yX4_darkenShadow : MethodName := ⟨RX4, "darkenShadow", "(IILShadowTag$Board;)V"⟩
def RX5 : String := "ShadowTag$Runners"
def TX5 : u_T := fun k => match k with
  | 0 => ("ShadowTag$Runners", "cell", "[I", true)
  | 1 => ("ShadowTag$Runners", "height", "[I", true)
  | 2 => ("ShadowTag$Runners", "direction", "[I", true)
  | 3 => ("ShadowTag$Runners", "respite", "[I", true)
  | 4 => ("ShadowTag$Runners", "tagged", "[I", true)
  | 5 => ("ShadowTag$Runners", "tagging", "[I", true)
  | 6 => ("ShadowTag$Runners", "account", "[I", true)
  | 7 => ("ShadowTag$Runners", "number", "I", false)
  | 8 => ("ShadowTag$Runners", "catcher", "I", false)
  | 9 => ("ShadowTag$Runners", "tags", "I", false)
  | 10 => ("ShadowTag$Runners", "steps", "I", false)
  | _ => ("ShadowTag$Runners", "stops", "I", false)
def tyX5 : Nat → FieldType := fun k => match k with
  | 0 => .array .int
  | 1 => .array .int
  | 2 => .array .int
  | 3 => .array .int
  | 4 => .array .int
  | 5 => .array .int
  | 6 => .array .int
  | 7 => .int
  | 8 => .int
  | 9 => .int
  | 10 => .int
  | _ => .int
abbrev wsX50 : List Cond := u_ws RX5 TX5 12
theorem nmX5 : ∀ a, a < 12 → ∀ b, b < 12 → a ≠ b → (TX5 a).2.1 ≠ (TX5 b).2.1 := by decide +kernel
theorem tyX5_ok : ∀ k, k < 12 → parseFieldDescriptor (TX5 k).2.2.1 = some (tyX5 k) := by decide +kernel
abbrev cX5_init : ByteArray := prog_7_method_1_code
def yX5_init : MethodName := ⟨RX5, "<init>", "()V"⟩
abbrev cX5_copyFrom : ByteArray := prog_7_method_2_code
def yX5_copyFrom : MethodName := ⟨RX5, "copyFrom", "(LShadowTag$Runners;)V"⟩
abbrev cX5_has : ByteArray := prog_7_method_3_code
def yX5_has : MethodName := ⟨RX5, "has", "(I)Z"⟩
abbrev cX5_standingOn : ByteArray := prog_7_method_4_code
def yX5_standingOn : MethodName := ⟨RX5, "standingOn", "(I)I"⟩
abbrev cX5_welcome : ByteArray := prog_7_method_5_code
def yX5_welcome : MethodName := ⟨RX5, "welcome", "(II)I"⟩
abbrev cX5_steer : ByteArray := prog_7_method_6_code
def yX5_steer : MethodName := ⟨RX5, "steer", "(II)I"⟩
abbrev cX5_stepAll : ByteArray := prog_7_method_7_code
def yX5_stepAll : MethodName := ⟨RX5, "stepAll", "()V"⟩
abbrev cX5_step : ByteArray := prog_7_method_8_code
def yX5_step : MethodName := ⟨RX5, "step", "(I)V"⟩
abbrev cX5_handOver : ByteArray := prog_7_method_9_code
def yX5_handOver : MethodName := ⟨RX5, "handOver", "(II)V"⟩
abbrev cX5_shortenRespites : ByteArray := prog_7_method_10_code
def yX5_shortenRespites : MethodName := ⟨RX5, "shortenRespites", "()V"⟩
abbrev cX5_addToAccounts : ByteArray := prog_7_method_11_code
def yX5_addToAccounts : MethodName := ⟨RX5, "addToAccounts", "()V"⟩
abbrev cX5_spin : ByteArray := prog_7_method_12_code
def yX5_spin : MethodName := ⟨RX5, "spin", "()V"⟩
def RX6 : String := "ShadowTag"
def TX6 : u_T := fun k => match k with
  | 0 => ("ShadowTag", "platform", "LShadowTag$Platform;", true)
  | 1 => ("ShadowTag", "trial", "LShadowTag$Platform;", true)
  | 2 => ("ShadowTag", "snapshot", "LShadowTag$Platform;", true)
  | 3 => ("ShadowTag", "history", "LShadowTag$History;", true)
  | 4 => ("ShadowTag", "game", "LShadowTag$Game;", true)
  | 5 => ("ShadowTag", "board", "LShadowTag$Board;", true)
  | 6 => ("ShadowTag", "hasSnapshot", "Z", false)
  | 7 => ("ShadowTag", "stopNumber", "I", false)
  | _ => ("ShadowTag", "stopError", "I", false)
def tyX6 : Nat → FieldType := fun k => match k with
  | 0 => .object "ShadowTag$Platform"
  | 1 => .object "ShadowTag$Platform"
  | 2 => .object "ShadowTag$Platform"
  | 3 => .object "ShadowTag$History"
  | 4 => .object "ShadowTag$Game"
  | 5 => .object "ShadowTag$Board"
  | 6 => .boolean
  | 7 => .int
  | _ => .int
abbrev wsX60 : List Cond := u_ws RX6 TX6 9
theorem nmX6 : ∀ a, a < 9 → ∀ b, b < 9 → a ≠ b → (TX6 a).2.1 ≠ (TX6 b).2.1 := by decide +kernel
theorem tyX6_ok : ∀ k, k < 9 → parseFieldDescriptor (TX6 k).2.2.1 = some (tyX6 k) := by decide +kernel
abbrev cX6_init : ByteArray := prog_1_method_1_code
def yX6_init : MethodName := ⟨RX6, "<init>", "()V"⟩
abbrev cX6_come : ByteArray := prog_1_method_2_code
def yX6_come : MethodName := ⟨RX6, "come", "(II)I"⟩
abbrev cX6_head : ByteArray := prog_1_method_3_code
def yX6_head : MethodName := ⟨RX6, "head", "(II)I"⟩
abbrev cX6_light : ByteArray := prog_1_method_4_code
def yX6_light : MethodName := ⟨RX6, "light", "(IZ)I"⟩
abbrev cX6_setLamp : ByteArray := prog_1_method_5_code
def yX6_setLamp : MethodName := ⟨RX6, "setLamp", "(III)I"⟩
abbrev cX6_set : ByteArray := prog_1_method_6_code
def yX6_set : MethodName := ⟨RX6, "set", "(II)I"⟩
abbrev cX6_pass : ByteArray := prog_1_method_7_code
def yX6_pass : MethodName := ⟨RX6, "pass", "(I)I"⟩
abbrev cX6_runner : ByteArray := prog_1_method_15_code
def yX6_runner : MethodName := ⟨RX6, "runner", "(II)I"⟩
abbrev cX6_lamp : ByteArray := prog_1_method_16_code
def yX6_lamp : MethodName := ⟨RX6, "lamp", "(II)I"⟩
abbrev cX6_shadow : ByteArray := prog_1_method_17_code
def yX6_shadow : MethodName := ⟨RX6, "shadow", "(III)I"⟩
abbrev cX6_darkness : ByteArray := prog_1_method_18_code
def yX6_darkness : MethodName := ⟨RX6, "darkness", "(I)I"⟩
abbrev cX6_looked : ByteArray := prog_1_method_19_code
def yX6_looked : MethodName := ⟨RX6, "looked", "(I)I"⟩
abbrev cX6_at : ByteArray := prog_1_method_20_code
def yX6_at : MethodName := ⟨RX6, "at", "(I)I"⟩
abbrev cX6_reason : ByteArray := prog_1_method_21_code
def yX6_reason : MethodName := ⟨RX6, "reason", "(I)I"⟩
abbrev cX6_stepsTo : ByteArray := prog_1_method_22_code
def yX6_stepsTo : MethodName := ⟨RX6, "stepsTo", "(I)I"⟩
abbrev cX6_safest : ByteArray := prog_1_method_23_code
def yX6_safest : MethodName := ⟨RX6, "safest", "()I"⟩
abbrev cX6_ifTurns : ByteArray := prog_1_method_24_code
def yX6_ifTurns : MethodName := ⟨RX6, "ifTurns", "(II)I"⟩
abbrev cX6_count : ByteArray := prog_1_method_25_code
def yX6_count : MethodName := ⟨RX6, "count", "(I)I"⟩
abbrev cX6_takeOver : ByteArray := prog_1_method_26_code
def yX6_takeOver : MethodName := ⟨RX6, "takeOver", "(I)I"⟩
abbrev cX6_cellsInShadowsOf : ByteArray := prog_1_method_28_code
def yX6_cellsInShadowsOf : MethodName := ⟨RX6, "cellsInShadowsOf", "(I)I"⟩
abbrev cX6_cellsInShadowsBy : ByteArray := prog_1_method_29_code
def yX6_cellsInShadowsBy : MethodName := ⟨RX6, "cellsInShadowsBy", "(I)I"⟩
abbrev cX6_cellsInAnyShadow : ByteArray := prog_1_method_30_code
def yX6_cellsInAnyShadow : MethodName := ⟨RX6, "cellsInAnyShadow", "()I"⟩
abbrev cX6_stepsOrFarthest : ByteArray := prog_1_method_31_code
def yX6_stepsOrFarthest : MethodName := ⟨RX6, "stepsOrFarthest", "(I)I"⟩
abbrev cX6_isCell : ByteArray := prog_1_method_32_code
def yX6_isCell : MethodName := ⟨RX6, "isCell", "(I)Z"⟩
abbrev cX6_isLamp : ByteArray := prog_1_method_33_code
def yX6_isLamp : MethodName := ⟨RX6, "isLamp", "(I)Z"⟩
abbrev cX6_replace : ByteArray := prog_1_method_34_code
def yX6_replace : MethodName := ⟨RX6, "replace", "([IIIII)I"⟩
abbrev cX6_copyRow : ByteArray := prog_1_method_35_code
def yX6_copyRow : MethodName := ⟨RX6, "copyRow", "([I[I)V"⟩
abbrev cX6_opposite : ByteArray := prog_1_method_36_code
def yX6_opposite : MethodName := ⟨RX6, "opposite", "(I)I"⟩
abbrev cX6_cellsToEdge : ByteArray := prog_1_method_37_code
def yX6_cellsToEdge : MethodName := ⟨RX6, "cellsToEdge", "(II)I"⟩
abbrev cX6_cellAlong : ByteArray := prog_1_method_38_code
def yX6_cellAlong : MethodName := ⟨RX6, "cellAlong", "(III)I"⟩
abbrev cX6_distanceAlong : ByteArray := prog_1_method_39_code
def yX6_distanceAlong : MethodName := ⟨RX6, "distanceAlong", "(III)I"⟩
def RX7 : String := "ShadowTagModel"
def TX7 : u_T := fun k => match k with
  | _ => ("", "", "", false)
def tyX7 : Nat → FieldType := fun k => match k with
  | _ => .int
abbrev wsX70 : List Cond := u_ws RX7 TX7 0
theorem nmX7 : ∀ a, a < 0 → ∀ b, b < 0 → a ≠ b → (TX7 a).2.1 ≠ (TX7 b).2.1 := by decide +kernel
theorem tyX7_ok : ∀ k, k < 0 → parseFieldDescriptor (TX7 k).2.2.1 = some (tyX7 k) := by decide +kernel
def RJ9 : String := "java/lang/Math"
def TJ9 : u_T := fun k => match k with
  | _ => ("", "", "", false)
def tyJ9 : Nat → FieldType := fun k => match k with
  | _ => .int
abbrev cJ9_min_7cf53 : ByteArray := prog_10_method_69_code
def yJ9_min_7cf53 : MethodName := ⟨RJ9, "min", "(II)I"⟩
def RJ10 : String := "java/lang/System"
def TJ10 : u_T := fun k => match k with
  | _ => ("", "", "", false)
def tyJ10 : Nat → FieldType := fun k => match k with
  | _ => .int
def RL : String := "ShadowTagLaw"
abbrev cL_cell : ByteArray := method_2_code
def yL_cell : MethodName := ⟨RL, "cell", "([II)I"⟩
abbrev cL_low : ByteArray := method_3_code
def yL_low : MethodName := ⟨RL, "low", "(II)I"⟩
abbrev cL_who : ByteArray := method_4_code
def yL_who : MethodName := ⟨RL, "who", "([I[II)I"⟩
abbrev cL_straight : ByteArray := method_5_code
def yL_straight : MethodName := ⟨RL, "straight", "(III)I"⟩
abbrev cL_shades : ByteArray := method_6_code
def yL_shades : MethodName := ⟨RL, "shades", "([I[I[IIII)Z"⟩
abbrev cL_shaded : ByteArray := method_7_code
def yL_shaded : MethodName := ⟨RL, "shaded", "([I[I[III)Z"⟩
abbrev cL_cells : ByteArray := method_8_code
def yL_cells : MethodName := ⟨RL, "cells", "([I[I[II)I"⟩
abbrev cL_beside : ByteArray := method_9_code
def yL_beside : MethodName := ⟨RL, "beside", "(II)I"⟩
abbrev cL_tagged : ByteArray := method_10_code
def yL_tagged : MethodName := ⟨RL, "tagged", "([I[I[I)I"⟩
abbrev cL_turns : ByteArray := method_11_code
def yL_turns : MethodName := ⟨RL, "turns", "([I[I[I)V"⟩
abbrev cL_areRunners : ByteArray := method_12_code
def yL_areRunners : MethodName := ⟨RL, "areRunners", "(LShadowTag;[I[I[I)Z"⟩
abbrev cL_areShadows : ByteArray := method_13_code
def yL_areShadows : MethodName := ⟨RL, "areShadows", "(LShadowTag;[I[I[I)Z"⟩
abbrev cL_isShadow : ByteArray := method_14_code
def yL_isShadow : MethodName := ⟨RL, "isShadow", "(LShadowTag;[I[I[III)Z"⟩
abbrev cL_steps : ByteArray := method_15_code
def yL_steps : MethodName := ⟨RL, "steps", "([I[I[II)I"⟩
abbrev cL_areSteps : ByteArray := method_16_code
def yL_areSteps : MethodName := ⟨RL, "areSteps", "(LShadowTag;[I[I[I)Z"⟩
abbrev cL_copy : ByteArray := method_17_code
def yL_copy : MethodName := ⟨RL, "copy", "([I[I)V"⟩
abbrev cL_would : ByteArray := method_18_code
def yL_would : MethodName := ⟨RL, "would", "(LShadowTag;[I[I[II)Z"⟩
abbrev cL_comes : ByteArray := method_19_code
def yL_comes : MethodName := ⟨RL, "comes", "(LShadowTag;[I[II)Z"⟩
abbrev cL_acts : ByteArray := method_20_code
def yL_acts : MethodName := ⟨RL, "acts", "(LShadowTag;[I[I[III)Z"⟩
abbrev cL_law : ByteArray := code
def yL_law : MethodName := ⟨RL, "law", "([I)Z"⟩
abbrev vwCl : List vw_C := [(RX0, TX0, 5), (RX1, TX1, 7), (RX2, TX2, 3), (RX3, TX3, 4), (RX4, TX4, 5), (RX5, TX5, 12), (RX6, TX6, 9)]
