section
-- ===== PART A: goes FIRST, ahead of the names: the tables' words, and 'selects' of the private methods out of them =====
/-- a private method of a class that the tables say can be made, by its rows of tables_1 -/
def lw_okq (q : MethodName × Nat) : Prop := (q.1.cls ≠ "java/lang/invoke/MethodHandle" ∧ q.1.cls ≠ "java/lang/invoke/VarHandle") ∧ Cond.instantiable q.1.cls q.2 ∈ tables_1 ∧ Cond.privateMethod q.1 ∈ tables_1 ∧ Cond.instanceMethod q.1 ∈ tables_1
theorem lw_p0 : lw_okq (⟨"ShadowTag", "stepsOrFarthest", "(I)I"⟩, 9) := ⟨⟨by decide +kernel, by decide +kernel⟩, List.mem_of_getElem? (i := 11) (by decide +kernel), List.mem_of_getElem? (i := 239) (by decide +kernel), List.mem_of_getElem? (i := 240) (by decide +kernel)⟩
theorem lw_p1 : lw_okq (⟨"ShadowTag$Board", "enter", "(II)V"⟩, 5) := ⟨⟨by decide +kernel, by decide +kernel⟩, List.mem_of_getElem? (i := 184) (by decide +kernel), List.mem_of_getElem? (i := 305) (by decide +kernel), List.mem_of_getElem? (i := 306) (by decide +kernel)⟩
theorem lw_p2 : lw_okq (⟨"ShadowTag$Runners", "step", "(I)V"⟩, 12) := ⟨⟨by decide +kernel, by decide +kernel⟩, List.mem_of_getElem? (i := 25) (by decide +kernel), List.mem_of_getElem? (i := 344) (by decide +kernel), List.mem_of_getElem? (i := 345) (by decide +kernel)⟩
theorem lw_p3 : lw_okq (⟨"ShadowTag", "cellsInShadowsOf", "(I)I"⟩, 9) := ⟨⟨by decide +kernel, by decide +kernel⟩, List.mem_of_getElem? (i := 11) (by decide +kernel), List.mem_of_getElem? (i := 400) (by decide +kernel), List.mem_of_getElem? (i := 401) (by decide +kernel)⟩
theorem lw_p4 : lw_okq (⟨"ShadowTag", "cellsInAnyShadow", "()I"⟩, 9) := ⟨⟨by decide +kernel, by decide +kernel⟩, List.mem_of_getElem? (i := 11) (by decide +kernel), List.mem_of_getElem? (i := 416) (by decide +kernel), List.mem_of_getElem? (i := 417) (by decide +kernel)⟩
theorem lw_p5 : lw_okq (⟨"ShadowTag", "cellsInShadowsBy", "(I)I"⟩, 9) := ⟨⟨by decide +kernel, by decide +kernel⟩, List.mem_of_getElem? (i := 11) (by decide +kernel), List.mem_of_getElem? (i := 480) (by decide +kernel), List.mem_of_getElem? (i := 481) (by decide +kernel)⟩
theorem lw_p6 : lw_okq (⟨"ShadowTag", "takeOver", "(I)I"⟩, 9) := ⟨⟨by decide +kernel, by decide +kernel⟩, List.mem_of_getElem? (i := 11) (by decide +kernel), List.mem_of_getElem? (i := 531) (by decide +kernel), List.mem_of_getElem? (i := 532) (by decide +kernel)⟩
theorem lw_p7 : lw_okq (⟨"ShadowTag$History", "ringPlace", "(I)LShadowTag$Platform;"⟩, 3) := ⟨⟨by decide +kernel, by decide +kernel⟩, List.mem_of_getElem? (i := 134) (by decide +kernel), List.mem_of_getElem? (i := 539) (by decide +kernel), List.mem_of_getElem? (i := 540) (by decide +kernel)⟩
def lw_privs_1 : List (MethodName × Nat) := [(⟨"ShadowTag", "stepsOrFarthest", "(I)I"⟩, 9), (⟨"ShadowTag$Board", "enter", "(II)V"⟩, 5), (⟨"ShadowTag$Runners", "step", "(I)V"⟩, 12), (⟨"ShadowTag", "cellsInShadowsOf", "(I)I"⟩, 9), (⟨"ShadowTag", "cellsInAnyShadow", "()I"⟩, 9), (⟨"ShadowTag", "cellsInShadowsBy", "(I)I"⟩, 9), (⟨"ShadowTag", "takeOver", "(I)I"⟩, 9), (⟨"ShadowTag$History", "ringPlace", "(I)LShadowTag$Platform;"⟩, 3)]
theorem lw_r1 : ∀ q ∈ lw_privs_1, lw_okq q := List.forall_mem_cons.mpr ⟨lw_p0, List.forall_mem_cons.mpr ⟨lw_p1, List.forall_mem_cons.mpr ⟨lw_p2, List.forall_mem_cons.mpr ⟨lw_p3, List.forall_mem_cons.mpr ⟨lw_p4, List.forall_mem_cons.mpr ⟨lw_p5, List.forall_mem_cons.mpr ⟨lw_p6, List.forall_mem_cons.mpr ⟨lw_p7, fun _ h => absurd h List.not_mem_nil⟩⟩⟩⟩⟩⟩⟩⟩
def lw_privs : List (MethodName × Nat) := lw_privs_1
def lw_tbl : List Cond := k2_sels lw_privs ++ tables_1
theorem lw_privs_ok : ∀ q ∈ lw_privs, lw_okq q := lw_r1
def RX0 : String := "ShadowTag$Board"
def TX0 : u_T := fun k => match k with
  | 0 => ("ShadowTag$Board", "dark", "[Z", true)
  | 1 => ("ShadowTag$Board", "barred", "[Z", true)
  | 2 => ("ShadowTag$Board", "steps", "[I", true)
  | 3 => ("ShadowTag$Board", "queue", "[I", true)
  | _ => ("ShadowTag$Board", "queued", "I", false)
def tyX0 : Nat → FieldType := fun k => match k with
  | 0 => .array .boolean
  | 1 => .array .boolean
  | 2 => .array .int
  | 3 => .array .int
  | _ => .int
abbrev wsX00 : List Cond := u_ws RX0 TX0 5
theorem nmX0 : ∀ a, a < 5 → ∀ b, b < 5 → a ≠ b → (TX0 a).2.1 ≠ (TX0 b).2.1 := by decide +kernel
theorem tyX0_ok : ∀ k, k < 5 → parseFieldDescriptor (TX0 k).2.2.1 = some (tyX0 k) := by decide +kernel
abbrev cX0_init : ByteArray := prog_2_method_1_code
def yX0_init : MethodName := ⟨RX0, "<init>", "()V"⟩
abbrev cX0_clear : ByteArray := prog_2_method_2_code
def yX0_clear : MethodName := ⟨RX0, "clear", "()V"⟩
abbrev cX0_darken : ByteArray := prog_2_method_3_code
def yX0_darken : MethodName := ⟨RX0, "darken", "(I)V"⟩
abbrev cX0_block : ByteArray := prog_2_method_4_code
def yX0_block : MethodName := ⟨RX0, "block", "(I)V"⟩
abbrev cX0_darkCells : ByteArray := prog_2_method_5_code
def yX0_darkCells : MethodName := ⟨RX0, "darkCells", "()I"⟩
abbrev cX0_stepsIntoTheDark : ByteArray := prog_2_method_6_code
def yX0_stepsIntoTheDark : MethodName := ⟨RX0, "stepsIntoTheDark", "(I)I"⟩
abbrev cX0_enter : ByteArray := prog_2_method_7_code
def yX0_enter : MethodName := ⟨RX0, "enter", "(II)V"⟩
def RX1 : String := "ShadowTag$Game"
def TX1 : u_T := fun k => match k with
  | 0 => ("ShadowTag$Game", "signs", "[C", true)
  | 1 => ("ShadowTag$Game", "length", "I", false)
  | 2 => ("ShadowTag$Game", "position", "I", false)
  | 3 => ("ShadowTag$Game", "kind", "[I", true)
  | 4 => ("ShadowTag$Game", "first", "[I", true)
  | 5 => ("ShadowTag$Game", "second", "[I", true)
  | _ => ("ShadowTag$Game", "things", "I", false)
def tyX1 : Nat → FieldType := fun k => match k with
  | 0 => .array .char
  | 1 => .int
  | 2 => .int
  | 3 => .array .int
  | 4 => .array .int
  | 5 => .array .int
  | _ => .int
abbrev wsX10 : List Cond := u_ws RX1 TX1 7
theorem nmX1 : ∀ a, a < 7 → ∀ b, b < 7 → a ≠ b → (TX1 a).2.1 ≠ (TX1 b).2.1 := by decide +kernel
theorem tyX1_ok : ∀ k, k < 7 → parseFieldDescriptor (TX1 k).2.2.1 = some (tyX1 k) := by decide +kernel
abbrev cX1_init : ByteArray := prog_3_method_1_code
def yX1_init : MethodName := ⟨RX1, "<init>", "()V"⟩
def RX2 : String := "ShadowTag$History"
def TX2 : u_T := fun k => match k with
  | 0 => ("ShadowTag$History", "ring", "[LShadowTag$Platform;", true)
  | 1 => ("ShadowTag$History", "oldest", "I", false)
  | _ => ("ShadowTag$History", "states", "I", false)
def tyX2 : Nat → FieldType := fun k => match k with
  | 0 => .array (.object "ShadowTag$Platform")
  | 1 => .int
  | _ => .int
abbrev wsX20 : List Cond := u_ws RX2 TX2 3
theorem nmX2 : ∀ a, a < 3 → ∀ b, b < 3 → a ≠ b → (TX2 a).2.1 ≠ (TX2 b).2.1 := by decide +kernel
theorem tyX2_ok : ∀ k, k < 3 → parseFieldDescriptor (TX2 k).2.2.1 = some (tyX2 k) := by decide +kernel
abbrev cX2_init : ByteArray := prog_4_method_1_code
def yX2_init : MethodName := ⟨RX2, "<init>", "()V"⟩
abbrev cX2_record : ByteArray := prog_4_method_2_code
def yX2_record : MethodName := ⟨RX2, "record", "(LShadowTag$Platform;)V"⟩
abbrev cX2_ringPlace : ByteArray := prog_4_method_3_code
def yX2_ringPlace : MethodName := ⟨RX2, "ringPlace", "(I)LShadowTag$Platform;"⟩
def RX3 : String := "ShadowTag$Lamps"
def TX3 : u_T := fun k => match k with
  | 0 => ("ShadowTag$Lamps", "side", "[I", true)
  | 1 => ("ShadowTag$Lamps", "reach", "[I", true)
  | 2 => ("ShadowTag$Lamps", "swing", "[I", true)
  | _ => ("ShadowTag$Lamps", "on", "[I", true)
def tyX3 : Nat → FieldType := fun k => match k with
  | 0 => .array .int
  | 1 => .array .int
  | 2 => .array .int
  | _ => .array .int
abbrev wsX30 : List Cond := u_ws RX3 TX3 4
theorem nmX3 : ∀ a, a < 4 → ∀ b, b < 4 → a ≠ b → (TX3 a).2.1 ≠ (TX3 b).2.1 := by decide +kernel
theorem tyX3_ok : ∀ k, k < 4 → parseFieldDescriptor (TX3 k).2.2.1 = some (tyX3 k) := by decide +kernel
abbrev cX3_init : ByteArray := prog_5_method_1_code
def yX3_init : MethodName := ⟨RX3, "<init>", "()V"⟩
abbrev cX3_copyFrom : ByteArray := prog_5_method_2_code
def yX3_copyFrom : MethodName := ⟨RX3, "copyFrom", "(LShadowTag$Lamps;)V"⟩
abbrev cX3_burning : ByteArray := prog_5_method_3_code
def yX3_burning : MethodName := ⟨RX3, "burning", "()I"⟩
abbrev cX3_switchTo : ByteArray := prog_5_method_4_code
def yX3_switchTo : MethodName := ⟨RX3, "switchTo", "(II)I"⟩
abbrev cX3_adjust : ByteArray := prog_5_method_5_code
def yX3_adjust : MethodName := ⟨RX3, "adjust", "(III)I"⟩
abbrev cX3_swingAtTurn : ByteArray := prog_5_method_6_code
def yX3_swingAtTurn : MethodName := ⟨RX3, "swingAtTurn", "(I)V"⟩
def RX4 : String := "ShadowTag$Platform"
def TX4 : u_T := fun k => match k with
  | 0 => ("ShadowTag$Platform", "runners", "LShadowTag$Runners;", true)
  | 1 => ("ShadowTag$Platform", "lamps", "LShadowTag$Lamps;", true)
  | 2 => ("ShadowTag$Platform", "settings", "[I", true)
  | 3 => ("ShadowTag$Platform", "turn", "I", false)
  | _ => ("ShadowTag$Platform", "spins", "I", false)
def tyX4 : Nat → FieldType := fun k => match k with
  | 0 => .object "ShadowTag$Runners"
  | 1 => .object "ShadowTag$Lamps"
  | 2 => .array .int
  | 3 => .int
  | _ => .int
abbrev wsX40 : List Cond := u_ws RX4 TX4 5
theorem nmX4 : ∀ a, a < 5 → ∀ b, b < 5 → a ≠ b → (TX4 a).2.1 ≠ (TX4 b).2.1 := by decide +kernel
theorem tyX4_ok : ∀ k, k < 5 → parseFieldDescriptor (TX4 k).2.2.1 = some (tyX4 k) := by decide +kernel
abbrev cX4_init : ByteArray := prog_6_method_1_code
def yX4_init : MethodName := ⟨RX4, "<init>", "()V"⟩
abbrev cX4_copyFrom : ByteArray := prog_6_method_2_code
def yX4_copyFrom : MethodName := ⟨RX4, "copyFrom", "(LShadowTag$Platform;)V"⟩
abbrev cX4_takeTurns : ByteArray := prog_6_method_3_code
def yX4_takeTurns : MethodName := ⟨RX4, "takeTurns", "(I)I"⟩
abbrev cX4_takeTurn : ByteArray := prog_6_method_4_code
def yX4_takeTurn : MethodName := ⟨RX4, "takeTurn", "()Z"⟩
abbrev cX4_firstCaught : ByteArray := prog_6_method_5_code
def yX4_firstCaught : MethodName := ⟨RX4, "firstCaught", "()I"⟩
abbrev cX4_catcherStandsInShadowOf : ByteArray := prog_6_method_6_code
def yX4_catcherStandsInShadowOf : MethodName := ⟨RX4, "catcherStandsInShadowOf", "(I)Z"⟩
abbrev cX4_isInShadow : ByteArray := prog_6_method_7_code
def yX4_isInShadow : MethodName := ⟨RX4, "isInShadow", "(III)Z"⟩
abbrev cX4_shadowLength : ByteArray := prog_6_method_8_code
def yX4_shadowLength : MethodName := ⟨RX4, "shadowLength", "(II)I"⟩
abbrev cX4_shadowEnd : ByteArray := prog_6_method_9_code
def yX4_shadowEnd : MethodName := ⟨RX4, "shadowEnd", "(II)I"⟩
abbrev cX4_hasShadow : ByteArray := prog_6_method_10_code
def yX4_hasShadow : MethodName := ⟨RX4, "hasShadow", "(I)Z"⟩
abbrev cX4_runnersWithoutShadow : ByteArray := prog_6_method_11_code
def yX4_runnersWithoutShadow : MethodName := ⟨RX4, "runnersWithoutShadow", "()I"⟩
abbrev cX4_shadowerOf : ByteArray := prog_6_method_12_code
def yX4_shadowerOf : MethodName := ⟨RX4, "shadowerOf", "(II)I"⟩
abbrev cX4_darkenShadowsOf : ByteArray := prog_6_method_13_code
def yX4_darkenShadowsOf : MethodName := ⟨RX4, "darkenShadowsOf", "(ILShadowTag$Board;)V"⟩
abbrev cX4_darkenShadow : ByteArray := prog_6_method_14_code
def yX4_darkenShadow : MethodName := ⟨RX4, "darkenShadow", "(IILShadowTag$Board;)V"⟩
def RX5 : String := "ShadowTag$Runners"
def TX5 : u_T := fun k => match k with
  | 0 => ("ShadowTag$Runners", "cell", "[I", true)
  | 1 => ("ShadowTag$Runners", "height", "[I", true)
  | 2 => ("ShadowTag$Runners", "direction", "[I", true)
  | 3 => ("ShadowTag$Runners", "respite", "[I", true)
  | 4 => ("ShadowTag$Runners", "tagged", "[I", true)
  | 5 => ("ShadowTag$Runners", "tagging", "[I", true)
  | 6 => ("ShadowTag$Runners", "account", "[I", true)
  | 7 => ("ShadowTag$Runners", "number", "I", false)
  | 8 => ("ShadowTag$Runners", "catcher", "I", false)
  | 9 => ("ShadowTag$Runners", "tags", "I", false)
  | 10 => ("ShadowTag$Runners", "steps", "I", false)
  | _ => ("ShadowTag$Runners", "stops", "I", false)
def tyX5 : Nat → FieldType := fun k => match k with
  | 0 => .array .int
  | 1 => .array .int
  | 2 => .array .int
  | 3 => .array .int
  | 4 => .array .int
  | 5 => .array .int
  | 6 => .array .int
  | 7 => .int
  | 8 => .int
  | 9 => .int
  | 10 => .int
  | _ => .int
abbrev wsX50 : List Cond := u_ws RX5 TX5 12
theorem nmX5 : ∀ a, a < 12 → ∀ b, b < 12 → a ≠ b → (TX5 a).2.1 ≠ (TX5 b).2.1 := by decide +kernel
theorem tyX5_ok : ∀ k, k < 12 → parseFieldDescriptor (TX5 k).2.2.1 = some (tyX5 k) := by decide +kernel
abbrev cX5_init : ByteArray := prog_7_method_1_code
def yX5_init : MethodName := ⟨RX5, "<init>", "()V"⟩
abbrev cX5_copyFrom : ByteArray := prog_7_method_2_code
def yX5_copyFrom : MethodName := ⟨RX5, "copyFrom", "(LShadowTag$Runners;)V"⟩
abbrev cX5_has : ByteArray := prog_7_method_3_code
def yX5_has : MethodName := ⟨RX5, "has", "(I)Z"⟩
abbrev cX5_standingOn : ByteArray := prog_7_method_4_code
def yX5_standingOn : MethodName := ⟨RX5, "standingOn", "(I)I"⟩
abbrev cX5_welcome : ByteArray := prog_7_method_5_code
def yX5_welcome : MethodName := ⟨RX5, "welcome", "(II)I"⟩
abbrev cX5_steer : ByteArray := prog_7_method_6_code
def yX5_steer : MethodName := ⟨RX5, "steer", "(II)I"⟩
abbrev cX5_stepAll : ByteArray := prog_7_method_7_code
def yX5_stepAll : MethodName := ⟨RX5, "stepAll", "()V"⟩
abbrev cX5_step : ByteArray := prog_7_method_8_code
def yX5_step : MethodName := ⟨RX5, "step", "(I)V"⟩
abbrev cX5_handOver : ByteArray := prog_7_method_9_code
def yX5_handOver : MethodName := ⟨RX5, "handOver", "(II)V"⟩
abbrev cX5_shortenRespites : ByteArray := prog_7_method_10_code
def yX5_shortenRespites : MethodName := ⟨RX5, "shortenRespites", "()V"⟩
abbrev cX5_addToAccounts : ByteArray := prog_7_method_11_code
def yX5_addToAccounts : MethodName := ⟨RX5, "addToAccounts", "()V"⟩
abbrev cX5_spin : ByteArray := prog_7_method_12_code
def yX5_spin : MethodName := ⟨RX5, "spin", "()V"⟩
def RX6 : String := "ShadowTag"
def TX6 : u_T := fun k => match k with
  | 0 => ("ShadowTag", "platform", "LShadowTag$Platform;", true)
  | 1 => ("ShadowTag", "trial", "LShadowTag$Platform;", true)
  | 2 => ("ShadowTag", "snapshot", "LShadowTag$Platform;", true)
  | 3 => ("ShadowTag", "history", "LShadowTag$History;", true)
  | 4 => ("ShadowTag", "game", "LShadowTag$Game;", true)
  | 5 => ("ShadowTag", "board", "LShadowTag$Board;", true)
  | 6 => ("ShadowTag", "hasSnapshot", "Z", false)
  | 7 => ("ShadowTag", "stopNumber", "I", false)
  | _ => ("ShadowTag", "stopError", "I", false)
def tyX6 : Nat → FieldType := fun k => match k with
  | 0 => .object "ShadowTag$Platform"
  | 1 => .object "ShadowTag$Platform"
  | 2 => .object "ShadowTag$Platform"
  | 3 => .object "ShadowTag$History"
  | 4 => .object "ShadowTag$Game"
  | 5 => .object "ShadowTag$Board"
  | 6 => .boolean
  | 7 => .int
  | _ => .int
abbrev wsX60 : List Cond := u_ws RX6 TX6 9
theorem nmX6 : ∀ a, a < 9 → ∀ b, b < 9 → a ≠ b → (TX6 a).2.1 ≠ (TX6 b).2.1 := by decide +kernel
theorem tyX6_ok : ∀ k, k < 9 → parseFieldDescriptor (TX6 k).2.2.1 = some (tyX6 k) := by decide +kernel
abbrev cX6_init : ByteArray := prog_1_method_1_code
def yX6_init : MethodName := ⟨RX6, "<init>", "()V"⟩
abbrev cX6_come : ByteArray := prog_1_method_2_code
def yX6_come : MethodName := ⟨RX6, "come", "(II)I"⟩
abbrev cX6_head : ByteArray := prog_1_method_3_code
def yX6_head : MethodName := ⟨RX6, "head", "(II)I"⟩
abbrev cX6_light : ByteArray := prog_1_method_4_code
def yX6_light : MethodName := ⟨RX6, "light", "(IZ)I"⟩
abbrev cX6_setLamp : ByteArray := prog_1_method_5_code
def yX6_setLamp : MethodName := ⟨RX6, "setLamp", "(III)I"⟩
abbrev cX6_set : ByteArray := prog_1_method_6_code
def yX6_set : MethodName := ⟨RX6, "set", "(II)I"⟩
abbrev cX6_pass : ByteArray := prog_1_method_7_code
def yX6_pass : MethodName := ⟨RX6, "pass", "(I)I"⟩
abbrev cX6_runner : ByteArray := prog_1_method_15_code
def yX6_runner : MethodName := ⟨RX6, "runner", "(II)I"⟩
abbrev cX6_lamp : ByteArray := prog_1_method_16_code
def yX6_lamp : MethodName := ⟨RX6, "lamp", "(II)I"⟩
abbrev cX6_shadow : ByteArray := prog_1_method_17_code
def yX6_shadow : MethodName := ⟨RX6, "shadow", "(III)I"⟩
abbrev cX6_darkness : ByteArray := prog_1_method_18_code
def yX6_darkness : MethodName := ⟨RX6, "darkness", "(I)I"⟩
abbrev cX6_looked : ByteArray := prog_1_method_19_code
def yX6_looked : MethodName := ⟨RX6, "looked", "(I)I"⟩
abbrev cX6_at : ByteArray := prog_1_method_20_code
def yX6_at : MethodName := ⟨RX6, "at", "(I)I"⟩
abbrev cX6_reason : ByteArray := prog_1_method_21_code
def yX6_reason : MethodName := ⟨RX6, "reason", "(I)I"⟩
abbrev cX6_stepsTo : ByteArray := prog_1_method_22_code
def yX6_stepsTo : MethodName := ⟨RX6, "stepsTo", "(I)I"⟩
abbrev cX6_safest : ByteArray := prog_1_method_23_code
def yX6_safest : MethodName := ⟨RX6, "safest", "()I"⟩
abbrev cX6_ifTurns : ByteArray := prog_1_method_24_code
def yX6_ifTurns : MethodName := ⟨RX6, "ifTurns", "(II)I"⟩
abbrev cX6_count : ByteArray := prog_1_method_25_code
def yX6_count : MethodName := ⟨RX6, "count", "(I)I"⟩
abbrev cX6_takeOver : ByteArray := prog_1_method_26_code
def yX6_takeOver : MethodName := ⟨RX6, "takeOver", "(I)I"⟩
abbrev cX6_cellsInShadowsOf : ByteArray := prog_1_method_28_code
def yX6_cellsInShadowsOf : MethodName := ⟨RX6, "cellsInShadowsOf", "(I)I"⟩
abbrev cX6_cellsInShadowsBy : ByteArray := prog_1_method_29_code
def yX6_cellsInShadowsBy : MethodName := ⟨RX6, "cellsInShadowsBy", "(I)I"⟩
abbrev cX6_cellsInAnyShadow : ByteArray := prog_1_method_30_code
def yX6_cellsInAnyShadow : MethodName := ⟨RX6, "cellsInAnyShadow", "()I"⟩
abbrev cX6_stepsOrFarthest : ByteArray := prog_1_method_31_code
def yX6_stepsOrFarthest : MethodName := ⟨RX6, "stepsOrFarthest", "(I)I"⟩
abbrev cX6_isCell : ByteArray := prog_1_method_32_code
def yX6_isCell : MethodName := ⟨RX6, "isCell", "(I)Z"⟩
abbrev cX6_isLamp : ByteArray := prog_1_method_33_code
def yX6_isLamp : MethodName := ⟨RX6, "isLamp", "(I)Z"⟩
abbrev cX6_replace : ByteArray := prog_1_method_34_code
def yX6_replace : MethodName := ⟨RX6, "replace", "([IIIII)I"⟩
abbrev cX6_copyRow : ByteArray := prog_1_method_35_code
def yX6_copyRow : MethodName := ⟨RX6, "copyRow", "([I[I)V"⟩
abbrev cX6_opposite : ByteArray := prog_1_method_36_code
def yX6_opposite : MethodName := ⟨RX6, "opposite", "(I)I"⟩
abbrev cX6_cellsToEdge : ByteArray := prog_1_method_37_code
def yX6_cellsToEdge : MethodName := ⟨RX6, "cellsToEdge", "(II)I"⟩
abbrev cX6_cellAlong : ByteArray := prog_1_method_38_code
def yX6_cellAlong : MethodName := ⟨RX6, "cellAlong", "(III)I"⟩
abbrev cX6_distanceAlong : ByteArray := prog_1_method_39_code
def yX6_distanceAlong : MethodName := ⟨RX6, "distanceAlong", "(III)I"⟩
def RX7 : String := "ShadowTagModel"
def TX7 : u_T := fun k => match k with
  | _ => ("", "", "", false)
def tyX7 : Nat → FieldType := fun k => match k with
  | _ => .int
abbrev wsX70 : List Cond := u_ws RX7 TX7 0
theorem nmX7 : ∀ a, a < 0 → ∀ b, b < 0 → a ≠ b → (TX7 a).2.1 ≠ (TX7 b).2.1 := by decide +kernel
theorem tyX7_ok : ∀ k, k < 0 → parseFieldDescriptor (TX7 k).2.2.1 = some (tyX7 k) := by decide +kernel
def RJ9 : String := "java/lang/Math"
def TJ9 : u_T := fun k => match k with
  | _ => ("", "", "", false)
def tyJ9 : Nat → FieldType := fun k => match k with
  | _ => .int
abbrev cJ9_min_7cf53 : ByteArray := prog_10_method_69_code
def yJ9_min_7cf53 : MethodName := ⟨RJ9, "min", "(II)I"⟩
def RJ10 : String := "java/lang/System"
def TJ10 : u_T := fun k => match k with
  | _ => ("", "", "", false)
def tyJ10 : Nat → FieldType := fun k => match k with
  | _ => .int
def RL : String := "ShadowTagLaw"
abbrev cL_cell : ByteArray := method_2_code
def yL_cell : MethodName := ⟨RL, "cell", "([II)I"⟩
abbrev cL_low : ByteArray := method_3_code
def yL_low : MethodName := ⟨RL, "low", "(II)I"⟩
abbrev cL_who : ByteArray := method_4_code
def yL_who : MethodName := ⟨RL, "who", "([I[II)I"⟩
abbrev cL_straight : ByteArray := method_5_code
def yL_straight : MethodName := ⟨RL, "straight", "(III)I"⟩
abbrev cL_shades : ByteArray := method_6_code
def yL_shades : MethodName := ⟨RL, "shades", "([I[I[IIII)Z"⟩
abbrev cL_shaded : ByteArray := method_7_code
def yL_shaded : MethodName := ⟨RL, "shaded", "([I[I[III)Z"⟩
abbrev cL_cells : ByteArray := method_8_code
def yL_cells : MethodName := ⟨RL, "cells", "([I[I[II)I"⟩
abbrev cL_beside : ByteArray := method_9_code
def yL_beside : MethodName := ⟨RL, "beside", "(II)I"⟩
abbrev cL_tagged : ByteArray := method_10_code
def yL_tagged : MethodName := ⟨RL, "tagged", "([I[I[I)I"⟩
abbrev cL_turns : ByteArray := method_11_code
def yL_turns : MethodName := ⟨RL, "turns", "([I[I[I)V"⟩
abbrev cL_areRunners : ByteArray := method_12_code
def yL_areRunners : MethodName := ⟨RL, "areRunners", "(LShadowTag;[I[I[I)Z"⟩
abbrev cL_areShadows : ByteArray := method_13_code
def yL_areShadows : MethodName := ⟨RL, "areShadows", "(LShadowTag;[I[I[I)Z"⟩
abbrev cL_isShadow : ByteArray := method_14_code
def yL_isShadow : MethodName := ⟨RL, "isShadow", "(LShadowTag;[I[I[III)Z"⟩
abbrev cL_steps : ByteArray := method_15_code
def yL_steps : MethodName := ⟨RL, "steps", "([I[I[II)I"⟩
abbrev cL_areSteps : ByteArray := method_16_code
def yL_areSteps : MethodName := ⟨RL, "areSteps", "(LShadowTag;[I[I[I)Z"⟩
abbrev cL_copy : ByteArray := method_17_code
def yL_copy : MethodName := ⟨RL, "copy", "([I[I)V"⟩
abbrev cL_would : ByteArray := method_18_code
def yL_would : MethodName := ⟨RL, "would", "(LShadowTag;[I[I[II)Z"⟩
abbrev cL_comes : ByteArray := method_19_code
def yL_comes : MethodName := ⟨RL, "comes", "(LShadowTag;[I[II)Z"⟩
abbrev cL_acts : ByteArray := method_20_code
def yL_acts : MethodName := ⟨RL, "acts", "(LShadowTag;[I[I[III)Z"⟩
abbrev cL_law : ByteArray := code
def yL_law : MethodName := ⟨RL, "law", "([I)Z"⟩
abbrev vwCl : List vw_C := [(RX0, TX0, 5), (RX1, TX1, 7), (RX2, TX2, 3), (RX3, TX3, 4), (RX4, TX4, 5), (RX5, TX5, 12), (RX6, TX6, 9)]
end
section
theorem dX0_init_0 : decode cX0_init 0 = .ok (.aload_n 0, 1) := by decide +kernel
theorem dX0_init_1 : decode cX0_init 1 = .ok (.invokespecial 3, 3) := by decide +kernel
theorem dX0_init_4 : decode cX0_init 4 = .ok (.aload_n 0, 1) := by decide +kernel
theorem dX0_init_5 : decode cX0_init 5 = .ok (.bipush 100, 2) := by decide +kernel
theorem dX0_init_7 : decode cX0_init 7 = .ok (.newarray .boolean, 2) := by decide +kernel
theorem dX0_init_9 : decode cX0_init 9 = .ok (.putfield 9, 3) := by decide +kernel
theorem dX0_init_12 : decode cX0_init 12 = .ok (.aload_n 0, 1) := by decide +kernel
theorem dX0_init_13 : decode cX0_init 13 = .ok (.bipush 100, 2) := by decide +kernel
theorem dX0_init_15 : decode cX0_init 15 = .ok (.newarray .boolean, 2) := by decide +kernel
theorem dX0_init_17 : decode cX0_init 17 = .ok (.putfield 15, 3) := by decide +kernel
theorem dX0_init_20 : decode cX0_init 20 = .ok (.aload_n 0, 1) := by decide +kernel
theorem dX0_init_21 : decode cX0_init 21 = .ok (.bipush 100, 2) := by decide +kernel
theorem dX0_init_23 : decode cX0_init 23 = .ok (.newarray .int, 2) := by decide +kernel
theorem dX0_init_25 : decode cX0_init 25 = .ok (.putfield 18, 3) := by decide +kernel
theorem dX0_init_28 : decode cX0_init 28 = .ok (.aload_n 0, 1) := by decide +kernel
theorem dX0_init_29 : decode cX0_init 29 = .ok (.bipush 100, 2) := by decide +kernel
theorem dX0_init_31 : decode cX0_init 31 = .ok (.newarray .int, 2) := by decide +kernel
theorem dX0_init_33 : decode cX0_init 33 = .ok (.putfield 22, 3) := by decide +kernel
theorem dX0_init_36 : decode cX0_init 36 = .ok (.aload_n 0, 1) := by decide +kernel
theorem dX0_init_37 : decode cX0_init 37 = .ok (.iconst 0, 1) := by decide +kernel
theorem dX0_init_38 : decode cX0_init 38 = .ok (.putfield 25, 3) := by decide +kernel
theorem dX0_init_41 : decode cX0_init 41 = .ok (.return_, 1) := by decide +kernel
theorem dX0_clear_0 : decode cX0_clear 0 = .ok (.aload_n 0, 1) := by decide +kernel
theorem dX0_clear_1 : decode cX0_clear 1 = .ok (.iconst 0, 1) := by decide +kernel
theorem dX0_clear_2 : decode cX0_clear 2 = .ok (.putfield 25, 3) := by decide +kernel
theorem dX0_clear_5 : decode cX0_clear 5 = .ok (.iconst 0, 1) := by decide +kernel
theorem dX0_clear_6 : decode cX0_clear 6 = .ok (.istore_n 1, 1) := by decide +kernel
theorem dX0_clear_7 : decode cX0_clear 7 = .ok (.iload_n 1, 1) := by decide +kernel
theorem dX0_clear_8 : decode cX0_clear 8 = .ok (.bipush 100, 2) := by decide +kernel
theorem dX0_clear_10 : decode cX0_clear 10 = .ok (.if_icmp .ge 23, 3) := by decide +kernel
theorem dX0_clear_13 : decode cX0_clear 13 = .ok (.aload_n 0, 1) := by decide +kernel
theorem dX0_clear_14 : decode cX0_clear 14 = .ok (.getfield 9, 3) := by decide +kernel
theorem dX0_clear_17 : decode cX0_clear 17 = .ok (.iload_n 1, 1) := by decide +kernel
theorem dX0_clear_18 : decode cX0_clear 18 = .ok (.iconst 0, 1) := by decide +kernel
theorem dX0_clear_19 : decode cX0_clear 19 = .ok (.bastore, 1) := by decide +kernel
theorem dX0_clear_20 : decode cX0_clear 20 = .ok (.aload_n 0, 1) := by decide +kernel
theorem dX0_clear_21 : decode cX0_clear 21 = .ok (.getfield 15, 3) := by decide +kernel
theorem dX0_clear_24 : decode cX0_clear 24 = .ok (.iload_n 1, 1) := by decide +kernel
theorem dX0_clear_25 : decode cX0_clear 25 = .ok (.iconst 0, 1) := by decide +kernel
theorem dX0_clear_26 : decode cX0_clear 26 = .ok (.bastore, 1) := by decide +kernel
theorem dX0_clear_27 : decode cX0_clear 27 = .ok (.iinc 1 1, 3) := by decide +kernel
theorem dX0_clear_30 : decode cX0_clear 30 = .ok (.goto (-23), 3) := by decide +kernel
theorem dX0_clear_33 : decode cX0_clear 33 = .ok (.return_, 1) := by decide +kernel
theorem dX0_darken_0 : decode cX0_darken 0 = .ok (.iload_n 1, 1) := by decide +kernel
theorem dX0_darken_1 : decode cX0_darken 1 = .ok (.invokestatic 29, 3) := by decide +kernel
theorem dX0_darken_4 : decode cX0_darken 4 = .ok (.ifCond .eq 10, 3) := by decide +kernel
theorem dX0_darken_7 : decode cX0_darken 7 = .ok (.aload_n 0, 1) := by decide +kernel
theorem dX0_darken_8 : decode cX0_darken 8 = .ok (.getfield 9, 3) := by decide +kernel
theorem dX0_darken_11 : decode cX0_darken 11 = .ok (.iload_n 1, 1) := by decide +kernel
theorem dX0_darken_12 : decode cX0_darken 12 = .ok (.iconst 1, 1) := by decide +kernel
theorem dX0_darken_13 : decode cX0_darken 13 = .ok (.bastore, 1) := by decide +kernel
theorem dX0_darken_14 : decode cX0_darken 14 = .ok (.return_, 1) := by decide +kernel
theorem dX0_block_0 : decode cX0_block 0 = .ok (.iload_n 1, 1) := by decide +kernel
theorem dX0_block_1 : decode cX0_block 1 = .ok (.invokestatic 29, 3) := by decide +kernel
theorem dX0_block_4 : decode cX0_block 4 = .ok (.ifCond .eq 10, 3) := by decide +kernel
theorem dX0_block_7 : decode cX0_block 7 = .ok (.aload_n 0, 1) := by decide +kernel
theorem dX0_block_8 : decode cX0_block 8 = .ok (.getfield 15, 3) := by decide +kernel
theorem dX0_block_11 : decode cX0_block 11 = .ok (.iload_n 1, 1) := by decide +kernel
theorem dX0_block_12 : decode cX0_block 12 = .ok (.iconst 1, 1) := by decide +kernel
theorem dX0_block_13 : decode cX0_block 13 = .ok (.bastore, 1) := by decide +kernel
theorem dX0_block_14 : decode cX0_block 14 = .ok (.return_, 1) := by decide +kernel
theorem dX0_darkCells_0 : decode cX0_darkCells 0 = .ok (.iconst 0, 1) := by decide +kernel
theorem dX0_darkCells_1 : decode cX0_darkCells 1 = .ok (.istore_n 1, 1) := by decide +kernel
theorem dX0_darkCells_2 : decode cX0_darkCells 2 = .ok (.iconst 0, 1) := by decide +kernel
theorem dX0_darkCells_3 : decode cX0_darkCells 3 = .ok (.istore_n 2, 1) := by decide +kernel
theorem dX0_darkCells_4 : decode cX0_darkCells 4 = .ok (.iload_n 2, 1) := by decide +kernel
theorem dX0_darkCells_5 : decode cX0_darkCells 5 = .ok (.bipush 100, 2) := by decide +kernel
theorem dX0_darkCells_7 : decode cX0_darkCells 7 = .ok (.if_icmp .ge 21, 3) := by decide +kernel
theorem dX0_darkCells_10 : decode cX0_darkCells 10 = .ok (.aload_n 0, 1) := by decide +kernel
theorem dX0_darkCells_11 : decode cX0_darkCells 11 = .ok (.getfield 9, 3) := by decide +kernel
theorem dX0_darkCells_14 : decode cX0_darkCells 14 = .ok (.iload_n 2, 1) := by decide +kernel
theorem dX0_darkCells_15 : decode cX0_darkCells 15 = .ok (.baload, 1) := by decide +kernel
theorem dX0_darkCells_16 : decode cX0_darkCells 16 = .ok (.ifCond .eq 6, 3) := by decide +kernel
theorem dX0_darkCells_19 : decode cX0_darkCells 19 = .ok (.iinc 1 1, 3) := by decide +kernel
theorem dX0_darkCells_22 : decode cX0_darkCells 22 = .ok (.iinc 2 1, 3) := by decide +kernel
theorem dX0_darkCells_25 : decode cX0_darkCells 25 = .ok (.goto (-21), 3) := by decide +kernel
theorem dX0_darkCells_28 : decode cX0_darkCells 28 = .ok (.iload_n 1, 1) := by decide +kernel
theorem dX0_darkCells_29 : decode cX0_darkCells 29 = .ok (.ireturn, 1) := by decide +kernel
theorem dX0_stepsIntoTheDark_0 : decode cX0_stepsIntoTheDark 0 = .ok (.aload_n 0, 1) := by decide +kernel
theorem dX0_stepsIntoTheDark_1 : decode cX0_stepsIntoTheDark 1 = .ok (.iload_n 1, 1) := by decide +kernel
theorem dX0_stepsIntoTheDark_2 : decode cX0_stepsIntoTheDark 2 = .ok (.iconst 0, 1) := by decide +kernel
theorem dX0_stepsIntoTheDark_3 : decode cX0_stepsIntoTheDark 3 = .ok (.invokevirtual 33, 3) := by decide +kernel
theorem dX0_stepsIntoTheDark_6 : decode cX0_stepsIntoTheDark 6 = .ok (.iconst 0, 1) := by decide +kernel
theorem dX0_stepsIntoTheDark_7 : decode cX0_stepsIntoTheDark 7 = .ok (.istore_n 2, 1) := by decide +kernel
theorem dX0_stepsIntoTheDark_8 : decode cX0_stepsIntoTheDark 8 = .ok (.iload_n 2, 1) := by decide +kernel
theorem dX0_stepsIntoTheDark_9 : decode cX0_stepsIntoTheDark 9 = .ok (.aload_n 0, 1) := by decide +kernel
theorem dX0_stepsIntoTheDark_10 : decode cX0_stepsIntoTheDark 10 = .ok (.getfield 25, 3) := by decide +kernel
theorem dX0_stepsIntoTheDark_13 : decode cX0_stepsIntoTheDark 13 = .ok (.if_icmp .ge 91, 3) := by decide +kernel
theorem dX0_stepsIntoTheDark_16 : decode cX0_stepsIntoTheDark 16 = .ok (.iload_n 2, 1) := by decide +kernel
theorem dX0_stepsIntoTheDark_17 : decode cX0_stepsIntoTheDark 17 = .ok (.bipush 100, 2) := by decide +kernel
theorem dX0_stepsIntoTheDark_19 : decode cX0_stepsIntoTheDark 19 = .ok (.if_icmp .ge 85, 3) := by decide +kernel
theorem dX0_stepsIntoTheDark_22 : decode cX0_stepsIntoTheDark 22 = .ok (.aload_n 0, 1) := by decide +kernel
theorem dX0_stepsIntoTheDark_23 : decode cX0_stepsIntoTheDark 23 = .ok (.getfield 22, 3) := by decide +kernel
theorem dX0_stepsIntoTheDark_26 : decode cX0_stepsIntoTheDark 26 = .ok (.iload_n 2, 1) := by decide +kernel
theorem dX0_stepsIntoTheDark_27 : decode cX0_stepsIntoTheDark 27 = .ok (.iaload, 1) := by decide +kernel
theorem dX0_stepsIntoTheDark_28 : decode cX0_stepsIntoTheDark 28 = .ok (.istore_n 3, 1) := by decide +kernel
theorem dX0_stepsIntoTheDark_29 : decode cX0_stepsIntoTheDark 29 = .ok (.iload_n 3, 1) := by decide +kernel
theorem dX0_stepsIntoTheDark_30 : decode cX0_stepsIntoTheDark 30 = .ok (.invokestatic 29, 3) := by decide +kernel
theorem dX0_stepsIntoTheDark_33 : decode cX0_stepsIntoTheDark 33 = .ok (.ifCond .ne 6, 3) := by decide +kernel
theorem dX0_stepsIntoTheDark_36 : decode cX0_stepsIntoTheDark 36 = .ok (.bipush (-5), 2) := by decide +kernel
theorem dX0_stepsIntoTheDark_38 : decode cX0_stepsIntoTheDark 38 = .ok (.ireturn, 1) := by decide +kernel
theorem dX0_stepsIntoTheDark_39 : decode cX0_stepsIntoTheDark 39 = .ok (.aload_n 0, 1) := by decide +kernel
theorem dX0_stepsIntoTheDark_40 : decode cX0_stepsIntoTheDark 40 = .ok (.getfield 9, 3) := by decide +kernel
theorem dX0_stepsIntoTheDark_43 : decode cX0_stepsIntoTheDark 43 = .ok (.iload_n 3, 1) := by decide +kernel
theorem dX0_stepsIntoTheDark_44 : decode cX0_stepsIntoTheDark 44 = .ok (.baload, 1) := by decide +kernel
theorem dX0_stepsIntoTheDark_45 : decode cX0_stepsIntoTheDark 45 = .ok (.ifCond .eq 10, 3) := by decide +kernel
theorem dX0_stepsIntoTheDark_48 : decode cX0_stepsIntoTheDark 48 = .ok (.aload_n 0, 1) := by decide +kernel
theorem dX0_stepsIntoTheDark_49 : decode cX0_stepsIntoTheDark 49 = .ok (.getfield 18, 3) := by decide +kernel
theorem dX0_stepsIntoTheDark_52 : decode cX0_stepsIntoTheDark 52 = .ok (.iload_n 3, 1) := by decide +kernel
theorem dX0_stepsIntoTheDark_53 : decode cX0_stepsIntoTheDark 53 = .ok (.iaload, 1) := by decide +kernel
theorem dX0_stepsIntoTheDark_54 : decode cX0_stepsIntoTheDark 54 = .ok (.ireturn, 1) := by decide +kernel
theorem dX0_stepsIntoTheDark_55 : decode cX0_stepsIntoTheDark 55 = .ok (.iconst 0, 1) := by decide +kernel
theorem dX0_stepsIntoTheDark_56 : decode cX0_stepsIntoTheDark 56 = .ok (.istore 4, 2) := by decide +kernel
theorem dX0_stepsIntoTheDark_58 : decode cX0_stepsIntoTheDark 58 = .ok (.iload 4, 2) := by decide +kernel
theorem dX0_stepsIntoTheDark_60 : decode cX0_stepsIntoTheDark 60 = .ok (.iconst 4, 1) := by decide +kernel
theorem dX0_stepsIntoTheDark_61 : decode cX0_stepsIntoTheDark 61 = .ok (.if_icmp .ge 37, 3) := by decide +kernel
theorem dX0_stepsIntoTheDark_64 : decode cX0_stepsIntoTheDark 64 = .ok (.iload_n 3, 1) := by decide +kernel
theorem dX0_stepsIntoTheDark_65 : decode cX0_stepsIntoTheDark 65 = .ok (.iload 4, 2) := by decide +kernel
theorem dX0_stepsIntoTheDark_67 : decode cX0_stepsIntoTheDark 67 = .ok (.invokestatic 37, 3) := by decide +kernel
theorem dX0_stepsIntoTheDark_70 : decode cX0_stepsIntoTheDark 70 = .ok (.ifCond .le 22, 3) := by decide +kernel
theorem dX0_stepsIntoTheDark_73 : decode cX0_stepsIntoTheDark 73 = .ok (.aload_n 0, 1) := by decide +kernel
theorem dX0_stepsIntoTheDark_74 : decode cX0_stepsIntoTheDark 74 = .ok (.iload_n 3, 1) := by decide +kernel
theorem dX0_stepsIntoTheDark_75 : decode cX0_stepsIntoTheDark 75 = .ok (.iload 4, 2) := by decide +kernel
theorem dX0_stepsIntoTheDark_77 : decode cX0_stepsIntoTheDark 77 = .ok (.iconst 1, 1) := by decide +kernel
theorem dX0_stepsIntoTheDark_78 : decode cX0_stepsIntoTheDark 78 = .ok (.invokestatic 41, 3) := by decide +kernel
theorem dX0_stepsIntoTheDark_81 : decode cX0_stepsIntoTheDark 81 = .ok (.aload_n 0, 1) := by decide +kernel
theorem dX0_stepsIntoTheDark_82 : decode cX0_stepsIntoTheDark 82 = .ok (.getfield 18, 3) := by decide +kernel
theorem dX0_stepsIntoTheDark_85 : decode cX0_stepsIntoTheDark 85 = .ok (.iload_n 3, 1) := by decide +kernel
theorem dX0_stepsIntoTheDark_86 : decode cX0_stepsIntoTheDark 86 = .ok (.iaload, 1) := by decide +kernel
theorem dX0_stepsIntoTheDark_87 : decode cX0_stepsIntoTheDark 87 = .ok (.iconst 1, 1) := by decide +kernel
theorem dX0_stepsIntoTheDark_88 : decode cX0_stepsIntoTheDark 88 = .ok (.iadd, 1) := by decide +kernel
theorem dX0_stepsIntoTheDark_89 : decode cX0_stepsIntoTheDark 89 = .ok (.invokevirtual 33, 3) := by decide +kernel
theorem dX0_stepsIntoTheDark_92 : decode cX0_stepsIntoTheDark 92 = .ok (.iinc 4 1, 3) := by decide +kernel
theorem dX0_stepsIntoTheDark_95 : decode cX0_stepsIntoTheDark 95 = .ok (.goto (-37), 3) := by decide +kernel
theorem dX0_stepsIntoTheDark_98 : decode cX0_stepsIntoTheDark 98 = .ok (.iinc 2 1, 3) := by decide +kernel
theorem dX0_stepsIntoTheDark_101 : decode cX0_stepsIntoTheDark 101 = .ok (.goto (-93), 3) := by decide +kernel
theorem dX0_stepsIntoTheDark_104 : decode cX0_stepsIntoTheDark 104 = .ok (.bipush (-5), 2) := by decide +kernel
theorem dX0_stepsIntoTheDark_106 : decode cX0_stepsIntoTheDark 106 = .ok (.ireturn, 1) := by decide +kernel
theorem dX0_enter_0 : decode cX0_enter 0 = .ok (.iload_n 1, 1) := by decide +kernel
theorem dX0_enter_1 : decode cX0_enter 1 = .ok (.invokestatic 29, 3) := by decide +kernel
theorem dX0_enter_4 : decode cX0_enter 4 = .ok (.ifCond .eq 55, 3) := by decide +kernel
theorem dX0_enter_7 : decode cX0_enter 7 = .ok (.aload_n 0, 1) := by decide +kernel
theorem dX0_enter_8 : decode cX0_enter 8 = .ok (.getfield 15, 3) := by decide +kernel
theorem dX0_enter_11 : decode cX0_enter 11 = .ok (.iload_n 1, 1) := by decide +kernel
theorem dX0_enter_12 : decode cX0_enter 12 = .ok (.baload, 1) := by decide +kernel
theorem dX0_enter_13 : decode cX0_enter 13 = .ok (.ifCond .ne 46, 3) := by decide +kernel
theorem dX0_enter_16 : decode cX0_enter 16 = .ok (.aload_n 0, 1) := by decide +kernel
theorem dX0_enter_17 : decode cX0_enter 17 = .ok (.getfield 25, 3) := by decide +kernel
theorem dX0_enter_20 : decode cX0_enter 20 = .ok (.bipush 100, 2) := by decide +kernel
theorem dX0_enter_22 : decode cX0_enter 22 = .ok (.if_icmp .ge 37, 3) := by decide +kernel
theorem dX0_enter_25 : decode cX0_enter 25 = .ok (.aload_n 0, 1) := by decide +kernel
theorem dX0_enter_26 : decode cX0_enter 26 = .ok (.getfield 15, 3) := by decide +kernel
theorem dX0_enter_29 : decode cX0_enter 29 = .ok (.iload_n 1, 1) := by decide +kernel
theorem dX0_enter_30 : decode cX0_enter 30 = .ok (.iconst 1, 1) := by decide +kernel
theorem dX0_enter_31 : decode cX0_enter 31 = .ok (.bastore, 1) := by decide +kernel
theorem dX0_enter_32 : decode cX0_enter 32 = .ok (.aload_n 0, 1) := by decide +kernel
theorem dX0_enter_33 : decode cX0_enter 33 = .ok (.getfield 18, 3) := by decide +kernel
theorem dX0_enter_36 : decode cX0_enter 36 = .ok (.iload_n 1, 1) := by decide +kernel
theorem dX0_enter_37 : decode cX0_enter 37 = .ok (.iload_n 2, 1) := by decide +kernel
theorem dX0_enter_38 : decode cX0_enter 38 = .ok (.iastore, 1) := by decide +kernel
theorem dX0_enter_39 : decode cX0_enter 39 = .ok (.aload_n 0, 1) := by decide +kernel
theorem dX0_enter_40 : decode cX0_enter 40 = .ok (.getfield 22, 3) := by decide +kernel
theorem dX0_enter_43 : decode cX0_enter 43 = .ok (.aload_n 0, 1) := by decide +kernel
theorem dX0_enter_44 : decode cX0_enter 44 = .ok (.getfield 25, 3) := by decide +kernel
theorem dX0_enter_47 : decode cX0_enter 47 = .ok (.iload_n 1, 1) := by decide +kernel
theorem dX0_enter_48 : decode cX0_enter 48 = .ok (.iastore, 1) := by decide +kernel
theorem dX0_enter_49 : decode cX0_enter 49 = .ok (.aload_n 0, 1) := by decide +kernel
theorem dX0_enter_50 : decode cX0_enter 50 = .ok (.dup, 1) := by decide +kernel
theorem dX0_enter_51 : decode cX0_enter 51 = .ok (.getfield 25, 3) := by decide +kernel
theorem dX0_enter_54 : decode cX0_enter 54 = .ok (.iconst 1, 1) := by decide +kernel
theorem dX0_enter_55 : decode cX0_enter 55 = .ok (.iadd, 1) := by decide +kernel
theorem dX0_enter_56 : decode cX0_enter 56 = .ok (.putfield 25, 3) := by decide +kernel
theorem dX0_enter_59 : decode cX0_enter 59 = .ok (.return_, 1) := by decide +kernel
theorem dX1_init_0 : decode cX1_init 0 = .ok (.aload_n 0, 1) := by decide +kernel
theorem dX1_init_1 : decode cX1_init 1 = .ok (.invokespecial 3, 3) := by decide +kernel
theorem dX1_init_4 : decode cX1_init 4 = .ok (.aload_n 0, 1) := by decide +kernel
theorem dX1_init_5 : decode cX1_init 5 = .ok (.bipush 60, 2) := by decide +kernel
theorem dX1_init_7 : decode cX1_init 7 = .ok (.newarray .char, 2) := by decide +kernel
theorem dX1_init_9 : decode cX1_init 9 = .ok (.putfield 9, 3) := by decide +kernel
theorem dX1_init_12 : decode cX1_init 12 = .ok (.aload_n 0, 1) := by decide +kernel
theorem dX1_init_13 : decode cX1_init 13 = .ok (.iconst 0, 1) := by decide +kernel
theorem dX1_init_14 : decode cX1_init 14 = .ok (.putfield 15, 3) := by decide +kernel
theorem dX1_init_17 : decode cX1_init 17 = .ok (.aload_n 0, 1) := by decide +kernel
theorem dX1_init_18 : decode cX1_init 18 = .ok (.iconst 0, 1) := by decide +kernel
theorem dX1_init_19 : decode cX1_init 19 = .ok (.putfield 19, 3) := by decide +kernel
theorem dX1_init_22 : decode cX1_init 22 = .ok (.aload_n 0, 1) := by decide +kernel
theorem dX1_init_23 : decode cX1_init 23 = .ok (.bipush 20, 2) := by decide +kernel
theorem dX1_init_25 : decode cX1_init 25 = .ok (.newarray .int, 2) := by decide +kernel
theorem dX1_init_27 : decode cX1_init 27 = .ok (.putfield 22, 3) := by decide +kernel
theorem dX1_init_30 : decode cX1_init 30 = .ok (.aload_n 0, 1) := by decide +kernel
theorem dX1_init_31 : decode cX1_init 31 = .ok (.bipush 20, 2) := by decide +kernel
theorem dX1_init_33 : decode cX1_init 33 = .ok (.newarray .int, 2) := by decide +kernel
theorem dX1_init_35 : decode cX1_init 35 = .ok (.putfield 26, 3) := by decide +kernel
theorem dX1_init_38 : decode cX1_init 38 = .ok (.aload_n 0, 1) := by decide +kernel
theorem dX1_init_39 : decode cX1_init 39 = .ok (.bipush 20, 2) := by decide +kernel
theorem dX1_init_41 : decode cX1_init 41 = .ok (.newarray .int, 2) := by decide +kernel
theorem dX1_init_43 : decode cX1_init 43 = .ok (.putfield 29, 3) := by decide +kernel
theorem dX1_init_46 : decode cX1_init 46 = .ok (.aload_n 0, 1) := by decide +kernel
theorem dX1_init_47 : decode cX1_init 47 = .ok (.iconst 0, 1) := by decide +kernel
theorem dX1_init_48 : decode cX1_init 48 = .ok (.putfield 32, 3) := by decide +kernel
theorem dX1_init_51 : decode cX1_init 51 = .ok (.return_, 1) := by decide +kernel
theorem dX2_init_0 : decode cX2_init 0 = .ok (.aload_n 0, 1) := by decide +kernel
theorem dX2_init_1 : decode cX2_init 1 = .ok (.invokespecial 3, 3) := by decide +kernel
theorem dX2_init_4 : decode cX2_init 4 = .ok (.aload_n 0, 1) := by decide +kernel
theorem dX2_init_5 : decode cX2_init 5 = .ok (.iconst 4, 1) := by decide +kernel
theorem dX2_init_6 : decode cX2_init 6 = .ok (.anewarray 9, 3) := by decide +kernel
theorem dX2_init_9 : decode cX2_init 9 = .ok (.putfield 11, 3) := by decide +kernel
theorem dX2_init_12 : decode cX2_init 12 = .ok (.aload_n 0, 1) := by decide +kernel
theorem dX2_init_13 : decode cX2_init 13 = .ok (.iconst 0, 1) := by decide +kernel
theorem dX2_init_14 : decode cX2_init 14 = .ok (.putfield 17, 3) := by decide +kernel
theorem dX2_init_17 : decode cX2_init 17 = .ok (.aload_n 0, 1) := by decide +kernel
theorem dX2_init_18 : decode cX2_init 18 = .ok (.iconst 0, 1) := by decide +kernel
theorem dX2_init_19 : decode cX2_init 19 = .ok (.putfield 21, 3) := by decide +kernel
theorem dX2_init_22 : decode cX2_init 22 = .ok (.iconst 0, 1) := by decide +kernel
theorem dX2_init_23 : decode cX2_init 23 = .ok (.istore_n 1, 1) := by decide +kernel
theorem dX2_init_24 : decode cX2_init 24 = .ok (.iload_n 1, 1) := by decide +kernel
theorem dX2_init_25 : decode cX2_init 25 = .ok (.iconst 4, 1) := by decide +kernel
theorem dX2_init_26 : decode cX2_init 26 = .ok (.if_icmp .ge 22, 3) := by decide +kernel
theorem dX2_init_29 : decode cX2_init 29 = .ok (.aload_n 0, 1) := by decide +kernel
theorem dX2_init_30 : decode cX2_init 30 = .ok (.getfield 11, 3) := by decide +kernel
theorem dX2_init_33 : decode cX2_init 33 = .ok (.iload_n 1, 1) := by decide +kernel
theorem dX2_init_34 : decode cX2_init 34 = .ok (.new 9, 3) := by decide +kernel
theorem dX2_init_37 : decode cX2_init 37 = .ok (.dup, 1) := by decide +kernel
theorem dX2_init_38 : decode cX2_init 38 = .ok (.invokespecial 24, 3) := by decide +kernel
theorem dX2_init_41 : decode cX2_init 41 = .ok (.aastore, 1) := by decide +kernel
theorem dX2_init_42 : decode cX2_init 42 = .ok (.iinc 1 1, 3) := by decide +kernel
theorem dX2_init_45 : decode cX2_init 45 = .ok (.goto (-21), 3) := by decide +kernel
theorem dX2_init_48 : decode cX2_init 48 = .ok (.return_, 1) := by decide +kernel
theorem dX2_record_0 : decode cX2_record 0 = .ok (.aload_n 0, 1) := by decide +kernel
theorem dX2_record_1 : decode cX2_record 1 = .ok (.aload_n 0, 1) := by decide +kernel
theorem dX2_record_2 : decode cX2_record 2 = .ok (.getfield 17, 3) := by decide +kernel
theorem dX2_record_5 : decode cX2_record 5 = .ok (.aload_n 0, 1) := by decide +kernel
theorem dX2_record_6 : decode cX2_record 6 = .ok (.getfield 21, 3) := by decide +kernel
theorem dX2_record_9 : decode cX2_record 9 = .ok (.iadd, 1) := by decide +kernel
theorem dX2_record_10 : decode cX2_record 10 = .ok (.invokevirtual 25, 3) := by decide +kernel
theorem dX2_record_13 : decode cX2_record 13 = .ok (.astore_n 2, 1) := by decide +kernel
theorem dX2_record_14 : decode cX2_record 14 = .ok (.aload_n 2, 1) := by decide +kernel
theorem dX2_record_15 : decode cX2_record 15 = .ok (.ifnonnull 4, 3) := by decide +kernel
theorem dX2_record_18 : decode cX2_record 18 = .ok (.return_, 1) := by decide +kernel
theorem dX2_record_19 : decode cX2_record 19 = .ok (.aload_n 2, 1) := by decide +kernel
theorem dX2_record_20 : decode cX2_record 20 = .ok (.aload_n 1, 1) := by decide +kernel
theorem dX2_record_21 : decode cX2_record 21 = .ok (.invokevirtual 29, 3) := by decide +kernel
theorem dX2_record_24 : decode cX2_record 24 = .ok (.aload_n 0, 1) := by decide +kernel
theorem dX2_record_25 : decode cX2_record 25 = .ok (.getfield 21, 3) := by decide +kernel
theorem dX2_record_28 : decode cX2_record 28 = .ok (.iconst 4, 1) := by decide +kernel
theorem dX2_record_29 : decode cX2_record 29 = .ok (.if_icmp .ge 16, 3) := by decide +kernel
theorem dX2_record_32 : decode cX2_record 32 = .ok (.aload_n 0, 1) := by decide +kernel
theorem dX2_record_33 : decode cX2_record 33 = .ok (.dup, 1) := by decide +kernel
theorem dX2_record_34 : decode cX2_record 34 = .ok (.getfield 21, 3) := by decide +kernel
theorem dX2_record_37 : decode cX2_record 37 = .ok (.iconst 1, 1) := by decide +kernel
theorem dX2_record_38 : decode cX2_record 38 = .ok (.iadd, 1) := by decide +kernel
theorem dX2_record_39 : decode cX2_record 39 = .ok (.putfield 21, 3) := by decide +kernel
theorem dX2_record_42 : decode cX2_record 42 = .ok (.goto 15, 3) := by decide +kernel
theorem dX2_record_45 : decode cX2_record 45 = .ok (.aload_n 0, 1) := by decide +kernel
theorem dX2_record_46 : decode cX2_record 46 = .ok (.aload_n 0, 1) := by decide +kernel
theorem dX2_record_47 : decode cX2_record 47 = .ok (.getfield 17, 3) := by decide +kernel
theorem dX2_record_50 : decode cX2_record 50 = .ok (.iconst 1, 1) := by decide +kernel
theorem dX2_record_51 : decode cX2_record 51 = .ok (.iadd, 1) := by decide +kernel
theorem dX2_record_52 : decode cX2_record 52 = .ok (.iconst 4, 1) := by decide +kernel
theorem dX2_record_53 : decode cX2_record 53 = .ok (.irem, 1) := by decide +kernel
theorem dX2_record_54 : decode cX2_record 54 = .ok (.putfield 17, 3) := by decide +kernel
theorem dX2_record_57 : decode cX2_record 57 = .ok (.return_, 1) := by decide +kernel
theorem dX2_ringPlace_0 : decode cX2_ringPlace 0 = .ok (.iload_n 1, 1) := by decide +kernel
theorem dX2_ringPlace_1 : decode cX2_ringPlace 1 = .ok (.ifCond .ge 7, 3) := by decide +kernel
theorem dX2_ringPlace_4 : decode cX2_ringPlace 4 = .ok (.aconst_null, 1) := by decide +kernel
theorem dX2_ringPlace_5 : decode cX2_ringPlace 5 = .ok (.goto 11, 3) := by decide +kernel
theorem dX2_ringPlace_8 : decode cX2_ringPlace 8 = .ok (.aload_n 0, 1) := by decide +kernel
theorem dX2_ringPlace_9 : decode cX2_ringPlace 9 = .ok (.getfield 11, 3) := by decide +kernel
theorem dX2_ringPlace_12 : decode cX2_ringPlace 12 = .ok (.iload_n 1, 1) := by decide +kernel
theorem dX2_ringPlace_13 : decode cX2_ringPlace 13 = .ok (.iconst 4, 1) := by decide +kernel
theorem dX2_ringPlace_14 : decode cX2_ringPlace 14 = .ok (.irem, 1) := by decide +kernel
theorem dX2_ringPlace_15 : decode cX2_ringPlace 15 = .ok (.aaload, 1) := by decide +kernel
theorem dX2_ringPlace_16 : decode cX2_ringPlace 16 = .ok (.areturn, 1) := by decide +kernel
theorem dX3_init_0 : decode cX3_init 0 = .ok (.aload_n 0, 1) := by decide +kernel
theorem dX3_init_1 : decode cX3_init 1 = .ok (.invokespecial 3, 3) := by decide +kernel
theorem dX3_init_4 : decode cX3_init 4 = .ok (.aload_n 0, 1) := by decide +kernel
theorem dX3_init_5 : decode cX3_init 5 = .ok (.iconst 3, 1) := by decide +kernel
theorem dX3_init_6 : decode cX3_init 6 = .ok (.newarray .int, 2) := by decide +kernel
theorem dX3_init_8 : decode cX3_init 8 = .ok (.dup, 1) := by decide +kernel
theorem dX3_init_9 : decode cX3_init 9 = .ok (.iconst 0, 1) := by decide +kernel
theorem dX3_init_10 : decode cX3_init 10 = .ok (.iconst 0, 1) := by decide +kernel
theorem dX3_init_11 : decode cX3_init 11 = .ok (.iastore, 1) := by decide +kernel
theorem dX3_init_12 : decode cX3_init 12 = .ok (.dup, 1) := by decide +kernel
theorem dX3_init_13 : decode cX3_init 13 = .ok (.iconst 1, 1) := by decide +kernel
theorem dX3_init_14 : decode cX3_init 14 = .ok (.iconst 1, 1) := by decide +kernel
theorem dX3_init_15 : decode cX3_init 15 = .ok (.iastore, 1) := by decide +kernel
theorem dX3_init_16 : decode cX3_init 16 = .ok (.dup, 1) := by decide +kernel
theorem dX3_init_17 : decode cX3_init 17 = .ok (.iconst 2, 1) := by decide +kernel
theorem dX3_init_18 : decode cX3_init 18 = .ok (.iconst 2, 1) := by decide +kernel
theorem dX3_init_19 : decode cX3_init 19 = .ok (.iastore, 1) := by decide +kernel
theorem dX3_init_20 : decode cX3_init 20 = .ok (.putfield 9, 3) := by decide +kernel
theorem dX3_init_23 : decode cX3_init 23 = .ok (.aload_n 0, 1) := by decide +kernel
theorem dX3_init_24 : decode cX3_init 24 = .ok (.iconst 3, 1) := by decide +kernel
theorem dX3_init_25 : decode cX3_init 25 = .ok (.newarray .int, 2) := by decide +kernel
theorem dX3_init_27 : decode cX3_init 27 = .ok (.dup, 1) := by decide +kernel
theorem dX3_init_28 : decode cX3_init 28 = .ok (.iconst 0, 1) := by decide +kernel
theorem dX3_init_29 : decode cX3_init 29 = .ok (.iconst 1, 1) := by decide +kernel
theorem dX3_init_30 : decode cX3_init 30 = .ok (.iastore, 1) := by decide +kernel
theorem dX3_init_31 : decode cX3_init 31 = .ok (.dup, 1) := by decide +kernel
theorem dX3_init_32 : decode cX3_init 32 = .ok (.iconst 1, 1) := by decide +kernel
theorem dX3_init_33 : decode cX3_init 33 = .ok (.iconst 1, 1) := by decide +kernel
theorem dX3_init_34 : decode cX3_init 34 = .ok (.iastore, 1) := by decide +kernel
theorem dX3_init_35 : decode cX3_init 35 = .ok (.dup, 1) := by decide +kernel
theorem dX3_init_36 : decode cX3_init 36 = .ok (.iconst 2, 1) := by decide +kernel
theorem dX3_init_37 : decode cX3_init 37 = .ok (.iconst 1, 1) := by decide +kernel
theorem dX3_init_38 : decode cX3_init 38 = .ok (.iastore, 1) := by decide +kernel
theorem dX3_init_39 : decode cX3_init 39 = .ok (.putfield 15, 3) := by decide +kernel
theorem dX3_init_42 : decode cX3_init 42 = .ok (.aload_n 0, 1) := by decide +kernel
theorem dX3_init_43 : decode cX3_init 43 = .ok (.iconst 3, 1) := by decide +kernel
theorem dX3_init_44 : decode cX3_init 44 = .ok (.newarray .int, 2) := by decide +kernel
theorem dX3_init_46 : decode cX3_init 46 = .ok (.dup, 1) := by decide +kernel
theorem dX3_init_47 : decode cX3_init 47 = .ok (.iconst 0, 1) := by decide +kernel
theorem dX3_init_48 : decode cX3_init 48 = .ok (.iconst 0, 1) := by decide +kernel
theorem dX3_init_49 : decode cX3_init 49 = .ok (.iastore, 1) := by decide +kernel
theorem dX3_init_50 : decode cX3_init 50 = .ok (.dup, 1) := by decide +kernel
theorem dX3_init_51 : decode cX3_init 51 = .ok (.iconst 1, 1) := by decide +kernel
theorem dX3_init_52 : decode cX3_init 52 = .ok (.iconst 0, 1) := by decide +kernel
theorem dX3_init_53 : decode cX3_init 53 = .ok (.iastore, 1) := by decide +kernel
theorem dX3_init_54 : decode cX3_init 54 = .ok (.dup, 1) := by decide +kernel
theorem dX3_init_55 : decode cX3_init 55 = .ok (.iconst 2, 1) := by decide +kernel
theorem dX3_init_56 : decode cX3_init 56 = .ok (.iconst 0, 1) := by decide +kernel
theorem dX3_init_57 : decode cX3_init 57 = .ok (.iastore, 1) := by decide +kernel
theorem dX3_init_58 : decode cX3_init 58 = .ok (.putfield 18, 3) := by decide +kernel
theorem dX3_init_61 : decode cX3_init 61 = .ok (.aload_n 0, 1) := by decide +kernel
theorem dX3_init_62 : decode cX3_init 62 = .ok (.iconst 3, 1) := by decide +kernel
theorem dX3_init_63 : decode cX3_init 63 = .ok (.newarray .int, 2) := by decide +kernel
theorem dX3_init_65 : decode cX3_init 65 = .ok (.dup, 1) := by decide +kernel
theorem dX3_init_66 : decode cX3_init 66 = .ok (.iconst 0, 1) := by decide +kernel
theorem dX3_init_67 : decode cX3_init 67 = .ok (.iconst 1, 1) := by decide +kernel
theorem dX3_init_68 : decode cX3_init 68 = .ok (.iastore, 1) := by decide +kernel
theorem dX3_init_69 : decode cX3_init 69 = .ok (.dup, 1) := by decide +kernel
theorem dX3_init_70 : decode cX3_init 70 = .ok (.iconst 1, 1) := by decide +kernel
theorem dX3_init_71 : decode cX3_init 71 = .ok (.iconst 1, 1) := by decide +kernel
theorem dX3_init_72 : decode cX3_init 72 = .ok (.iastore, 1) := by decide +kernel
theorem dX3_init_73 : decode cX3_init 73 = .ok (.dup, 1) := by decide +kernel
theorem dX3_init_74 : decode cX3_init 74 = .ok (.iconst 2, 1) := by decide +kernel
theorem dX3_init_75 : decode cX3_init 75 = .ok (.iconst 1, 1) := by decide +kernel
theorem dX3_init_76 : decode cX3_init 76 = .ok (.iastore, 1) := by decide +kernel
theorem dX3_init_77 : decode cX3_init 77 = .ok (.putfield 21, 3) := by decide +kernel
theorem dX3_init_80 : decode cX3_init 80 = .ok (.return_, 1) := by decide +kernel
theorem dX3_copyFrom_0 : decode cX3_copyFrom 0 = .ok (.aload_n 1, 1) := by decide +kernel
theorem dX3_copyFrom_1 : decode cX3_copyFrom 1 = .ok (.getfield 9, 3) := by decide +kernel
theorem dX3_copyFrom_4 : decode cX3_copyFrom 4 = .ok (.aload_n 0, 1) := by decide +kernel
theorem dX3_copyFrom_5 : decode cX3_copyFrom 5 = .ok (.getfield 9, 3) := by decide +kernel
theorem dX3_copyFrom_8 : decode cX3_copyFrom 8 = .ok (.invokestatic 24, 3) := by decide +kernel
theorem dX3_copyFrom_11 : decode cX3_copyFrom 11 = .ok (.aload_n 1, 1) := by decide +kernel
theorem dX3_copyFrom_12 : decode cX3_copyFrom 12 = .ok (.getfield 15, 3) := by decide +kernel
theorem dX3_copyFrom_15 : decode cX3_copyFrom 15 = .ok (.aload_n 0, 1) := by decide +kernel
theorem dX3_copyFrom_16 : decode cX3_copyFrom 16 = .ok (.getfield 15, 3) := by decide +kernel
theorem dX3_copyFrom_19 : decode cX3_copyFrom 19 = .ok (.invokestatic 24, 3) := by decide +kernel
theorem dX3_copyFrom_22 : decode cX3_copyFrom 22 = .ok (.aload_n 1, 1) := by decide +kernel
theorem dX3_copyFrom_23 : decode cX3_copyFrom 23 = .ok (.getfield 18, 3) := by decide +kernel
theorem dX3_copyFrom_26 : decode cX3_copyFrom 26 = .ok (.aload_n 0, 1) := by decide +kernel
theorem dX3_copyFrom_27 : decode cX3_copyFrom 27 = .ok (.getfield 18, 3) := by decide +kernel
theorem dX3_copyFrom_30 : decode cX3_copyFrom 30 = .ok (.invokestatic 24, 3) := by decide +kernel
theorem dX3_copyFrom_33 : decode cX3_copyFrom 33 = .ok (.aload_n 1, 1) := by decide +kernel
theorem dX3_copyFrom_34 : decode cX3_copyFrom 34 = .ok (.getfield 21, 3) := by decide +kernel
theorem dX3_copyFrom_37 : decode cX3_copyFrom 37 = .ok (.aload_n 0, 1) := by decide +kernel
theorem dX3_copyFrom_38 : decode cX3_copyFrom 38 = .ok (.getfield 21, 3) := by decide +kernel
theorem dX3_copyFrom_41 : decode cX3_copyFrom 41 = .ok (.invokestatic 24, 3) := by decide +kernel
theorem dX3_copyFrom_44 : decode cX3_copyFrom 44 = .ok (.return_, 1) := by decide +kernel
theorem dX3_burning_0 : decode cX3_burning 0 = .ok (.iconst 0, 1) := by decide +kernel
theorem dX3_burning_1 : decode cX3_burning 1 = .ok (.istore_n 1, 1) := by decide +kernel
theorem dX3_burning_2 : decode cX3_burning 2 = .ok (.iconst 0, 1) := by decide +kernel
theorem dX3_burning_3 : decode cX3_burning 3 = .ok (.istore_n 2, 1) := by decide +kernel
theorem dX3_burning_4 : decode cX3_burning 4 = .ok (.iload_n 2, 1) := by decide +kernel
theorem dX3_burning_5 : decode cX3_burning 5 = .ok (.iconst 3, 1) := by decide +kernel
theorem dX3_burning_6 : decode cX3_burning 6 = .ok (.if_icmp .ge 18, 3) := by decide +kernel
theorem dX3_burning_9 : decode cX3_burning 9 = .ok (.iload_n 1, 1) := by decide +kernel
theorem dX3_burning_10 : decode cX3_burning 10 = .ok (.aload_n 0, 1) := by decide +kernel
theorem dX3_burning_11 : decode cX3_burning 11 = .ok (.getfield 21, 3) := by decide +kernel
theorem dX3_burning_14 : decode cX3_burning 14 = .ok (.iload_n 2, 1) := by decide +kernel
theorem dX3_burning_15 : decode cX3_burning 15 = .ok (.iaload, 1) := by decide +kernel
theorem dX3_burning_16 : decode cX3_burning 16 = .ok (.iadd, 1) := by decide +kernel
theorem dX3_burning_17 : decode cX3_burning 17 = .ok (.istore_n 1, 1) := by decide +kernel
theorem dX3_burning_18 : decode cX3_burning 18 = .ok (.iinc 2 1, 3) := by decide +kernel
theorem dX3_burning_21 : decode cX3_burning 21 = .ok (.goto (-17), 3) := by decide +kernel
theorem dX3_burning_24 : decode cX3_burning 24 = .ok (.iload_n 1, 1) := by decide +kernel
theorem dX3_burning_25 : decode cX3_burning 25 = .ok (.ireturn, 1) := by decide +kernel
theorem dX3_switchTo_0 : decode cX3_switchTo 0 = .ok (.aload_n 0, 1) := by decide +kernel
theorem dX3_switchTo_1 : decode cX3_switchTo 1 = .ok (.getfield 21, 3) := by decide +kernel
theorem dX3_switchTo_4 : decode cX3_switchTo 4 = .ok (.iload_n 1, 1) := by decide +kernel
theorem dX3_switchTo_5 : decode cX3_switchTo 5 = .ok (.iload_n 2, 1) := by decide +kernel
theorem dX3_switchTo_6 : decode cX3_switchTo 6 = .ok (.iconst 0, 1) := by decide +kernel
theorem dX3_switchTo_7 : decode cX3_switchTo 7 = .ok (.iconst 1, 1) := by decide +kernel
theorem dX3_switchTo_8 : decode cX3_switchTo 8 = .ok (.invokestatic 28, 3) := by decide +kernel
theorem dX3_switchTo_11 : decode cX3_switchTo 11 = .ok (.istore_n 3, 1) := by decide +kernel
theorem dX3_switchTo_12 : decode cX3_switchTo 12 = .ok (.iload_n 3, 1) := by decide +kernel
theorem dX3_switchTo_13 : decode cX3_switchTo 13 = .ok (.ifCond .ge 7, 3) := by decide +kernel
theorem dX3_switchTo_16 : decode cX3_switchTo 16 = .ok (.iload_n 3, 1) := by decide +kernel
theorem dX3_switchTo_17 : decode cX3_switchTo 17 = .ok (.goto 7, 3) := by decide +kernel
theorem dX3_switchTo_20 : decode cX3_switchTo 20 = .ok (.aload_n 0, 1) := by decide +kernel
theorem dX3_switchTo_21 : decode cX3_switchTo 21 = .ok (.invokevirtual 32, 3) := by decide +kernel
theorem dX3_switchTo_24 : decode cX3_switchTo 24 = .ok (.ireturn, 1) := by decide +kernel
theorem dX3_adjust_0 : decode cX3_adjust 0 = .ok (.iload_n 1, 1) := by decide +kernel
theorem dX3_adjust_1 : decode cX3_adjust 1 = .ok (.invokestatic 36, 3) := by decide +kernel
theorem dX3_adjust_4 : decode cX3_adjust 4 = .ok (.ifCond .ne 5, 3) := by decide +kernel
theorem dX3_adjust_7 : decode cX3_adjust 7 = .ok (.iconst (-1), 1) := by decide +kernel
theorem dX3_adjust_8 : decode cX3_adjust 8 = .ok (.ireturn, 1) := by decide +kernel
theorem dX3_adjust_9 : decode cX3_adjust 9 = .ok (.iload_n 2, 1) := by decide +kernel
theorem dX3_adjust_10 : decode cX3_adjust 10 = .ok (.tableswitch 63 0 2 #[26, 38, 50], 26) := by decide +kernel
theorem dX3_adjust_36 : decode cX3_adjust 36 = .ok (.aload_n 0, 1) := by decide +kernel
theorem dX3_adjust_37 : decode cX3_adjust 37 = .ok (.getfield 9, 3) := by decide +kernel
theorem dX3_adjust_40 : decode cX3_adjust 40 = .ok (.iload_n 1, 1) := by decide +kernel
theorem dX3_adjust_41 : decode cX3_adjust 41 = .ok (.iload_n 3, 1) := by decide +kernel
theorem dX3_adjust_42 : decode cX3_adjust 42 = .ok (.iconst 0, 1) := by decide +kernel
theorem dX3_adjust_43 : decode cX3_adjust 43 = .ok (.iconst 3, 1) := by decide +kernel
theorem dX3_adjust_44 : decode cX3_adjust 44 = .ok (.invokestatic 28, 3) := by decide +kernel
theorem dX3_adjust_47 : decode cX3_adjust 47 = .ok (.ireturn, 1) := by decide +kernel
theorem dX3_adjust_48 : decode cX3_adjust 48 = .ok (.aload_n 0, 1) := by decide +kernel
theorem dX3_adjust_49 : decode cX3_adjust 49 = .ok (.getfield 15, 3) := by decide +kernel
theorem dX3_adjust_52 : decode cX3_adjust 52 = .ok (.iload_n 1, 1) := by decide +kernel
theorem dX3_adjust_53 : decode cX3_adjust 53 = .ok (.iload_n 3, 1) := by decide +kernel
theorem dX3_adjust_54 : decode cX3_adjust 54 = .ok (.iconst 1, 1) := by decide +kernel
theorem dX3_adjust_55 : decode cX3_adjust 55 = .ok (.iconst 4, 1) := by decide +kernel
theorem dX3_adjust_56 : decode cX3_adjust 56 = .ok (.invokestatic 28, 3) := by decide +kernel
theorem dX3_adjust_59 : decode cX3_adjust 59 = .ok (.ireturn, 1) := by decide +kernel
theorem dX3_adjust_60 : decode cX3_adjust 60 = .ok (.aload_n 0, 1) := by decide +kernel
theorem dX3_adjust_61 : decode cX3_adjust 61 = .ok (.getfield 18, 3) := by decide +kernel
theorem dX3_adjust_64 : decode cX3_adjust 64 = .ok (.iload_n 1, 1) := by decide +kernel
theorem dX3_adjust_65 : decode cX3_adjust 65 = .ok (.iload_n 3, 1) := by decide +kernel
theorem dX3_adjust_66 : decode cX3_adjust 66 = .ok (.iconst 0, 1) := by decide +kernel
theorem dX3_adjust_67 : decode cX3_adjust 67 = .ok (.bipush 9, 2) := by decide +kernel
theorem dX3_adjust_69 : decode cX3_adjust 69 = .ok (.invokestatic 28, 3) := by decide +kernel
theorem dX3_adjust_72 : decode cX3_adjust 72 = .ok (.ireturn, 1) := by decide +kernel
theorem dX3_adjust_73 : decode cX3_adjust 73 = .ok (.bipush (-2), 2) := by decide +kernel
theorem dX3_adjust_75 : decode cX3_adjust 75 = .ok (.ireturn, 1) := by decide +kernel
theorem dX3_swingAtTurn_0 : decode cX3_swingAtTurn 0 = .ok (.iconst 0, 1) := by decide +kernel
theorem dX3_swingAtTurn_1 : decode cX3_swingAtTurn 1 = .ok (.istore_n 2, 1) := by decide +kernel
theorem dX3_swingAtTurn_2 : decode cX3_swingAtTurn 2 = .ok (.iload_n 2, 1) := by decide +kernel
theorem dX3_swingAtTurn_3 : decode cX3_swingAtTurn 3 = .ok (.iconst 3, 1) := by decide +kernel
theorem dX3_swingAtTurn_4 : decode cX3_swingAtTurn 4 = .ok (.if_icmp .ge 45, 3) := by decide +kernel
theorem dX3_swingAtTurn_7 : decode cX3_swingAtTurn 7 = .ok (.aload_n 0, 1) := by decide +kernel
theorem dX3_swingAtTurn_8 : decode cX3_swingAtTurn 8 = .ok (.getfield 18, 3) := by decide +kernel
theorem dX3_swingAtTurn_11 : decode cX3_swingAtTurn 11 = .ok (.iload_n 2, 1) := by decide +kernel
theorem dX3_swingAtTurn_12 : decode cX3_swingAtTurn 12 = .ok (.iaload, 1) := by decide +kernel
theorem dX3_swingAtTurn_13 : decode cX3_swingAtTurn 13 = .ok (.ifCond .eq 30, 3) := by decide +kernel
theorem dX3_swingAtTurn_16 : decode cX3_swingAtTurn 16 = .ok (.iload_n 1, 1) := by decide +kernel
theorem dX3_swingAtTurn_17 : decode cX3_swingAtTurn 17 = .ok (.aload_n 0, 1) := by decide +kernel
theorem dX3_swingAtTurn_18 : decode cX3_swingAtTurn 18 = .ok (.getfield 18, 3) := by decide +kernel
theorem dX3_swingAtTurn_21 : decode cX3_swingAtTurn 21 = .ok (.iload_n 2, 1) := by decide +kernel
theorem dX3_swingAtTurn_22 : decode cX3_swingAtTurn 22 = .ok (.iaload, 1) := by decide +kernel
theorem dX3_swingAtTurn_23 : decode cX3_swingAtTurn 23 = .ok (.irem, 1) := by decide +kernel
theorem dX3_swingAtTurn_24 : decode cX3_swingAtTurn 24 = .ok (.ifCond .ne 19, 3) := by decide +kernel
theorem dX3_swingAtTurn_27 : decode cX3_swingAtTurn 27 = .ok (.aload_n 0, 1) := by decide +kernel
theorem dX3_swingAtTurn_28 : decode cX3_swingAtTurn 28 = .ok (.getfield 9, 3) := by decide +kernel
theorem dX3_swingAtTurn_31 : decode cX3_swingAtTurn 31 = .ok (.iload_n 2, 1) := by decide +kernel
theorem dX3_swingAtTurn_32 : decode cX3_swingAtTurn 32 = .ok (.aload_n 0, 1) := by decide +kernel
theorem dX3_swingAtTurn_33 : decode cX3_swingAtTurn 33 = .ok (.getfield 9, 3) := by decide +kernel
theorem dX3_swingAtTurn_36 : decode cX3_swingAtTurn 36 = .ok (.iload_n 2, 1) := by decide +kernel
theorem dX3_swingAtTurn_37 : decode cX3_swingAtTurn 37 = .ok (.iaload, 1) := by decide +kernel
theorem dX3_swingAtTurn_38 : decode cX3_swingAtTurn 38 = .ok (.iconst 1, 1) := by decide +kernel
theorem dX3_swingAtTurn_39 : decode cX3_swingAtTurn 39 = .ok (.iadd, 1) := by decide +kernel
theorem dX3_swingAtTurn_40 : decode cX3_swingAtTurn 40 = .ok (.iconst 4, 1) := by decide +kernel
theorem dX3_swingAtTurn_41 : decode cX3_swingAtTurn 41 = .ok (.irem, 1) := by decide +kernel
theorem dX3_swingAtTurn_42 : decode cX3_swingAtTurn 42 = .ok (.iastore, 1) := by decide +kernel
theorem dX3_swingAtTurn_43 : decode cX3_swingAtTurn 43 = .ok (.iinc 2 1, 3) := by decide +kernel
theorem dX3_swingAtTurn_46 : decode cX3_swingAtTurn 46 = .ok (.goto (-44), 3) := by decide +kernel
theorem dX3_swingAtTurn_49 : decode cX3_swingAtTurn 49 = .ok (.return_, 1) := by decide +kernel
theorem dX4_init_0 : decode cX4_init 0 = .ok (.aload_n 0, 1) := by decide +kernel
theorem dX4_init_1 : decode cX4_init 1 = .ok (.invokespecial 3, 3) := by decide +kernel
theorem dX4_init_4 : decode cX4_init 4 = .ok (.aload_n 0, 1) := by decide +kernel
theorem dX4_init_5 : decode cX4_init 5 = .ok (.new 9, 3) := by decide +kernel
theorem dX4_init_8 : decode cX4_init 8 = .ok (.dup, 1) := by decide +kernel
theorem dX4_init_9 : decode cX4_init 9 = .ok (.invokespecial 11, 3) := by decide +kernel
theorem dX4_init_12 : decode cX4_init 12 = .ok (.putfield 12, 3) := by decide +kernel
theorem dX4_init_15 : decode cX4_init 15 = .ok (.aload_n 0, 1) := by decide +kernel
theorem dX4_init_16 : decode cX4_init 16 = .ok (.new 18, 3) := by decide +kernel
theorem dX4_init_19 : decode cX4_init 19 = .ok (.dup, 1) := by decide +kernel
theorem dX4_init_20 : decode cX4_init 20 = .ok (.invokespecial 20, 3) := by decide +kernel
theorem dX4_init_23 : decode cX4_init 23 = .ok (.putfield 21, 3) := by decide +kernel
theorem dX4_init_26 : decode cX4_init 26 = .ok (.aload_n 0, 1) := by decide +kernel
theorem dX4_init_27 : decode cX4_init 27 = .ok (.iconst 2, 1) := by decide +kernel
theorem dX4_init_28 : decode cX4_init 28 = .ok (.newarray .int, 2) := by decide +kernel
theorem dX4_init_30 : decode cX4_init 30 = .ok (.dup, 1) := by decide +kernel
theorem dX4_init_31 : decode cX4_init 31 = .ok (.iconst 0, 1) := by decide +kernel
theorem dX4_init_32 : decode cX4_init 32 = .ok (.iconst 3, 1) := by decide +kernel
theorem dX4_init_33 : decode cX4_init 33 = .ok (.iastore, 1) := by decide +kernel
theorem dX4_init_34 : decode cX4_init 34 = .ok (.dup, 1) := by decide +kernel
theorem dX4_init_35 : decode cX4_init 35 = .ok (.iconst 1, 1) := by decide +kernel
theorem dX4_init_36 : decode cX4_init 36 = .ok (.iconst 0, 1) := by decide +kernel
theorem dX4_init_37 : decode cX4_init 37 = .ok (.iastore, 1) := by decide +kernel
theorem dX4_init_38 : decode cX4_init 38 = .ok (.putfield 25, 3) := by decide +kernel
theorem dX4_init_41 : decode cX4_init 41 = .ok (.aload_n 0, 1) := by decide +kernel
theorem dX4_init_42 : decode cX4_init 42 = .ok (.iconst 0, 1) := by decide +kernel
theorem dX4_init_43 : decode cX4_init 43 = .ok (.putfield 29, 3) := by decide +kernel
theorem dX4_init_46 : decode cX4_init 46 = .ok (.aload_n 0, 1) := by decide +kernel
theorem dX4_init_47 : decode cX4_init 47 = .ok (.iconst 0, 1) := by decide +kernel
theorem dX4_init_48 : decode cX4_init 48 = .ok (.putfield 33, 3) := by decide +kernel
theorem dX4_init_51 : decode cX4_init 51 = .ok (.return_, 1) := by decide +kernel
theorem dX4_copyFrom_0 : decode cX4_copyFrom 0 = .ok (.aload_n 0, 1) := by decide +kernel
theorem dX4_copyFrom_1 : decode cX4_copyFrom 1 = .ok (.getfield 12, 3) := by decide +kernel
theorem dX4_copyFrom_4 : decode cX4_copyFrom 4 = .ok (.aload_n 1, 1) := by decide +kernel
theorem dX4_copyFrom_5 : decode cX4_copyFrom 5 = .ok (.getfield 12, 3) := by decide +kernel
theorem dX4_copyFrom_8 : decode cX4_copyFrom 8 = .ok (.invokevirtual 36, 3) := by decide +kernel
theorem dX4_copyFrom_11 : decode cX4_copyFrom 11 = .ok (.aload_n 0, 1) := by decide +kernel
theorem dX4_copyFrom_12 : decode cX4_copyFrom 12 = .ok (.getfield 21, 3) := by decide +kernel
theorem dX4_copyFrom_15 : decode cX4_copyFrom 15 = .ok (.aload_n 1, 1) := by decide +kernel
theorem dX4_copyFrom_16 : decode cX4_copyFrom 16 = .ok (.getfield 21, 3) := by decide +kernel
theorem dX4_copyFrom_19 : decode cX4_copyFrom 19 = .ok (.invokevirtual 40, 3) := by decide +kernel
theorem dX4_copyFrom_22 : decode cX4_copyFrom 22 = .ok (.aload_n 1, 1) := by decide +kernel
theorem dX4_copyFrom_23 : decode cX4_copyFrom 23 = .ok (.getfield 25, 3) := by decide +kernel
theorem dX4_copyFrom_26 : decode cX4_copyFrom 26 = .ok (.aload_n 0, 1) := by decide +kernel
theorem dX4_copyFrom_27 : decode cX4_copyFrom 27 = .ok (.getfield 25, 3) := by decide +kernel
theorem dX4_copyFrom_30 : decode cX4_copyFrom 30 = .ok (.invokestatic 43, 3) := by decide +kernel
theorem dX4_copyFrom_33 : decode cX4_copyFrom 33 = .ok (.aload_n 0, 1) := by decide +kernel
theorem dX4_copyFrom_34 : decode cX4_copyFrom 34 = .ok (.aload_n 1, 1) := by decide +kernel
theorem dX4_copyFrom_35 : decode cX4_copyFrom 35 = .ok (.getfield 29, 3) := by decide +kernel
theorem dX4_copyFrom_38 : decode cX4_copyFrom 38 = .ok (.putfield 29, 3) := by decide +kernel
theorem dX4_copyFrom_41 : decode cX4_copyFrom 41 = .ok (.aload_n 0, 1) := by decide +kernel
theorem dX4_copyFrom_42 : decode cX4_copyFrom 42 = .ok (.aload_n 1, 1) := by decide +kernel
theorem dX4_copyFrom_43 : decode cX4_copyFrom 43 = .ok (.getfield 33, 3) := by decide +kernel
theorem dX4_copyFrom_46 : decode cX4_copyFrom 46 = .ok (.putfield 33, 3) := by decide +kernel
theorem dX4_copyFrom_49 : decode cX4_copyFrom 49 = .ok (.return_, 1) := by decide +kernel
theorem dX4_takeTurns_0 : decode cX4_takeTurns 0 = .ok (.iload_n 1, 1) := by decide +kernel
theorem dX4_takeTurns_1 : decode cX4_takeTurns 1 = .ok (.iconst 1, 1) := by decide +kernel
theorem dX4_takeTurns_2 : decode cX4_takeTurns 2 = .ok (.if_icmp .lt 9, 3) := by decide +kernel
theorem dX4_takeTurns_5 : decode cX4_takeTurns 5 = .ok (.iload_n 1, 1) := by decide +kernel
theorem dX4_takeTurns_6 : decode cX4_takeTurns 6 = .ok (.bipush 99, 2) := by decide +kernel
theorem dX4_takeTurns_8 : decode cX4_takeTurns 8 = .ok (.if_icmp .le 6, 3) := by decide +kernel
theorem dX4_takeTurns_11 : decode cX4_takeTurns 11 = .ok (.bipush (-2), 2) := by decide +kernel
theorem dX4_takeTurns_13 : decode cX4_takeTurns 13 = .ok (.ireturn, 1) := by decide +kernel
theorem dX4_takeTurns_14 : decode cX4_takeTurns 14 = .ok (.aload_n 0, 1) := by decide +kernel
theorem dX4_takeTurns_15 : decode cX4_takeTurns 15 = .ok (.getfield 29, 3) := by decide +kernel
theorem dX4_takeTurns_18 : decode cX4_takeTurns 18 = .ok (.iload_n 1, 1) := by decide +kernel
theorem dX4_takeTurns_19 : decode cX4_takeTurns 19 = .ok (.iadd, 1) := by decide +kernel
theorem dX4_takeTurns_20 : decode cX4_takeTurns 20 = .ok (.ldc 47, 2) := by decide +kernel
theorem dX4_takeTurns_22 : decode cX4_takeTurns 22 = .ok (.if_icmp .le 6, 3) := by decide +kernel
theorem dX4_takeTurns_25 : decode cX4_takeTurns 25 = .ok (.bipush (-3), 2) := by decide +kernel
theorem dX4_takeTurns_27 : decode cX4_takeTurns 27 = .ok (.ireturn, 1) := by decide +kernel
theorem dX4_takeTurns_28 : decode cX4_takeTurns 28 = .ok (.aload_n 0, 1) := by decide +kernel
theorem dX4_takeTurns_29 : decode cX4_takeTurns 29 = .ok (.getfield 12, 3) := by decide +kernel
theorem dX4_takeTurns_32 : decode cX4_takeTurns 32 = .ok (.getfield 48, 3) := by decide +kernel
theorem dX4_takeTurns_35 : decode cX4_takeTurns 35 = .ok (.istore_n 2, 1) := by decide +kernel
theorem dX4_takeTurns_36 : decode cX4_takeTurns 36 = .ok (.iconst 0, 1) := by decide +kernel
theorem dX4_takeTurns_37 : decode cX4_takeTurns 37 = .ok (.istore_n 3, 1) := by decide +kernel
theorem dX4_takeTurns_38 : decode cX4_takeTurns 38 = .ok (.iload_n 3, 1) := by decide +kernel
theorem dX4_takeTurns_39 : decode cX4_takeTurns 39 = .ok (.iload_n 1, 1) := by decide +kernel
theorem dX4_takeTurns_40 : decode cX4_takeTurns 40 = .ok (.if_icmp .ge 14, 3) := by decide +kernel
theorem dX4_takeTurns_43 : decode cX4_takeTurns 43 = .ok (.aload_n 0, 1) := by decide +kernel
theorem dX4_takeTurns_44 : decode cX4_takeTurns 44 = .ok (.invokevirtual 51, 3) := by decide +kernel
theorem dX4_takeTurns_47 : decode cX4_takeTurns 47 = .ok (.pop, 1) := by decide +kernel
theorem dX4_takeTurns_48 : decode cX4_takeTurns 48 = .ok (.iinc 3 1, 3) := by decide +kernel
theorem dX4_takeTurns_51 : decode cX4_takeTurns 51 = .ok (.goto (-13), 3) := by decide +kernel
theorem dX4_takeTurns_54 : decode cX4_takeTurns 54 = .ok (.aload_n 0, 1) := by decide +kernel
theorem dX4_takeTurns_55 : decode cX4_takeTurns 55 = .ok (.getfield 12, 3) := by decide +kernel
theorem dX4_takeTurns_58 : decode cX4_takeTurns 58 = .ok (.getfield 48, 3) := by decide +kernel
theorem dX4_takeTurns_61 : decode cX4_takeTurns 61 = .ok (.iload_n 2, 1) := by decide +kernel
theorem dX4_takeTurns_62 : decode cX4_takeTurns 62 = .ok (.isub, 1) := by decide +kernel
theorem dX4_takeTurns_63 : decode cX4_takeTurns 63 = .ok (.ireturn, 1) := by decide +kernel
theorem dX4_takeTurn_0 : decode cX4_takeTurn 0 = .ok (.aload_n 0, 1) := by decide +kernel
theorem dX4_takeTurn_1 : decode cX4_takeTurn 1 = .ok (.getfield 12, 3) := by decide +kernel
theorem dX4_takeTurn_4 : decode cX4_takeTurn 4 = .ok (.invokevirtual 55, 3) := by decide +kernel
theorem dX4_takeTurn_7 : decode cX4_takeTurn 7 = .ok (.aload_n 0, 1) := by decide +kernel
theorem dX4_takeTurn_8 : decode cX4_takeTurn 8 = .ok (.invokevirtual 58, 3) := by decide +kernel
theorem dX4_takeTurn_11 : decode cX4_takeTurn 11 = .ok (.istore_n 1, 1) := by decide +kernel
theorem dX4_takeTurn_12 : decode cX4_takeTurn 12 = .ok (.iload_n 1, 1) := by decide +kernel
theorem dX4_takeTurn_13 : decode cX4_takeTurn 13 = .ok (.bipush (-5), 2) := by decide +kernel
theorem dX4_takeTurn_15 : decode cX4_takeTurn 15 = .ok (.if_icmp .eq 19, 3) := by decide +kernel
theorem dX4_takeTurn_18 : decode cX4_takeTurn 18 = .ok (.aload_n 0, 1) := by decide +kernel
theorem dX4_takeTurn_19 : decode cX4_takeTurn 19 = .ok (.getfield 12, 3) := by decide +kernel
theorem dX4_takeTurn_22 : decode cX4_takeTurn 22 = .ok (.iload_n 1, 1) := by decide +kernel
theorem dX4_takeTurn_23 : decode cX4_takeTurn 23 = .ok (.aload_n 0, 1) := by decide +kernel
theorem dX4_takeTurn_24 : decode cX4_takeTurn 24 = .ok (.getfield 25, 3) := by decide +kernel
theorem dX4_takeTurn_27 : decode cX4_takeTurn 27 = .ok (.iconst 0, 1) := by decide +kernel
theorem dX4_takeTurn_28 : decode cX4_takeTurn 28 = .ok (.iaload, 1) := by decide +kernel
theorem dX4_takeTurn_29 : decode cX4_takeTurn 29 = .ok (.iconst 1, 1) := by decide +kernel
theorem dX4_takeTurn_30 : decode cX4_takeTurn 30 = .ok (.iadd, 1) := by decide +kernel
theorem dX4_takeTurn_31 : decode cX4_takeTurn 31 = .ok (.invokevirtual 62, 3) := by decide +kernel
theorem dX4_takeTurn_34 : decode cX4_takeTurn 34 = .ok (.aload_n 0, 1) := by decide +kernel
theorem dX4_takeTurn_35 : decode cX4_takeTurn 35 = .ok (.getfield 12, 3) := by decide +kernel
theorem dX4_takeTurn_38 : decode cX4_takeTurn 38 = .ok (.invokevirtual 66, 3) := by decide +kernel
theorem dX4_takeTurn_41 : decode cX4_takeTurn 41 = .ok (.aload_n 0, 1) := by decide +kernel
theorem dX4_takeTurn_42 : decode cX4_takeTurn 42 = .ok (.getfield 12, 3) := by decide +kernel
theorem dX4_takeTurn_45 : decode cX4_takeTurn 45 = .ok (.invokevirtual 69, 3) := by decide +kernel
theorem dX4_takeTurn_48 : decode cX4_takeTurn 48 = .ok (.aload_n 0, 1) := by decide +kernel
theorem dX4_takeTurn_49 : decode cX4_takeTurn 49 = .ok (.dup, 1) := by decide +kernel
theorem dX4_takeTurn_50 : decode cX4_takeTurn 50 = .ok (.getfield 29, 3) := by decide +kernel
theorem dX4_takeTurn_53 : decode cX4_takeTurn 53 = .ok (.iconst 1, 1) := by decide +kernel
theorem dX4_takeTurn_54 : decode cX4_takeTurn 54 = .ok (.iadd, 1) := by decide +kernel
theorem dX4_takeTurn_55 : decode cX4_takeTurn 55 = .ok (.putfield 29, 3) := by decide +kernel
theorem dX4_takeTurn_58 : decode cX4_takeTurn 58 = .ok (.aload_n 0, 1) := by decide +kernel
theorem dX4_takeTurn_59 : decode cX4_takeTurn 59 = .ok (.getfield 21, 3) := by decide +kernel
theorem dX4_takeTurn_62 : decode cX4_takeTurn 62 = .ok (.aload_n 0, 1) := by decide +kernel
theorem dX4_takeTurn_63 : decode cX4_takeTurn 63 = .ok (.getfield 29, 3) := by decide +kernel
theorem dX4_takeTurn_66 : decode cX4_takeTurn 66 = .ok (.invokevirtual 72, 3) := by decide +kernel
theorem dX4_takeTurn_69 : decode cX4_takeTurn 69 = .ok (.aload_n 0, 1) := by decide +kernel
theorem dX4_takeTurn_70 : decode cX4_takeTurn 70 = .ok (.getfield 25, 3) := by decide +kernel
theorem dX4_takeTurn_73 : decode cX4_takeTurn 73 = .ok (.iconst 1, 1) := by decide +kernel
theorem dX4_takeTurn_74 : decode cX4_takeTurn 74 = .ok (.iaload, 1) := by decide +kernel
theorem dX4_takeTurn_75 : decode cX4_takeTurn 75 = .ok (.ifCond .eq 34, 3) := by decide +kernel
theorem dX4_takeTurn_78 : decode cX4_takeTurn 78 = .ok (.aload_n 0, 1) := by decide +kernel
theorem dX4_takeTurn_79 : decode cX4_takeTurn 79 = .ok (.getfield 29, 3) := by decide +kernel
theorem dX4_takeTurn_82 : decode cX4_takeTurn 82 = .ok (.aload_n 0, 1) := by decide +kernel
theorem dX4_takeTurn_83 : decode cX4_takeTurn 83 = .ok (.getfield 25, 3) := by decide +kernel
theorem dX4_takeTurn_86 : decode cX4_takeTurn 86 = .ok (.iconst 1, 1) := by decide +kernel
theorem dX4_takeTurn_87 : decode cX4_takeTurn 87 = .ok (.iaload, 1) := by decide +kernel
theorem dX4_takeTurn_88 : decode cX4_takeTurn 88 = .ok (.irem, 1) := by decide +kernel
theorem dX4_takeTurn_89 : decode cX4_takeTurn 89 = .ok (.ifCond .ne 20, 3) := by decide +kernel
theorem dX4_takeTurn_92 : decode cX4_takeTurn 92 = .ok (.aload_n 0, 1) := by decide +kernel
theorem dX4_takeTurn_93 : decode cX4_takeTurn 93 = .ok (.getfield 12, 3) := by decide +kernel
theorem dX4_takeTurn_96 : decode cX4_takeTurn 96 = .ok (.invokevirtual 76, 3) := by decide +kernel
theorem dX4_takeTurn_99 : decode cX4_takeTurn 99 = .ok (.aload_n 0, 1) := by decide +kernel
theorem dX4_takeTurn_100 : decode cX4_takeTurn 100 = .ok (.dup, 1) := by decide +kernel
theorem dX4_takeTurn_101 : decode cX4_takeTurn 101 = .ok (.getfield 33, 3) := by decide +kernel
theorem dX4_takeTurn_104 : decode cX4_takeTurn 104 = .ok (.iconst 1, 1) := by decide +kernel
theorem dX4_takeTurn_105 : decode cX4_takeTurn 105 = .ok (.iadd, 1) := by decide +kernel
theorem dX4_takeTurn_106 : decode cX4_takeTurn 106 = .ok (.putfield 33, 3) := by decide +kernel
theorem dX4_takeTurn_109 : decode cX4_takeTurn 109 = .ok (.iload_n 1, 1) := by decide +kernel
theorem dX4_takeTurn_110 : decode cX4_takeTurn 110 = .ok (.bipush (-5), 2) := by decide +kernel
theorem dX4_takeTurn_112 : decode cX4_takeTurn 112 = .ok (.if_icmp .eq 7, 3) := by decide +kernel
theorem dX4_takeTurn_115 : decode cX4_takeTurn 115 = .ok (.iconst 1, 1) := by decide +kernel
theorem dX4_takeTurn_116 : decode cX4_takeTurn 116 = .ok (.goto 4, 3) := by decide +kernel
theorem dX4_takeTurn_119 : decode cX4_takeTurn 119 = .ok (.iconst 0, 1) := by decide +kernel
theorem dX4_takeTurn_120 : decode cX4_takeTurn 120 = .ok (.ireturn, 1) := by decide +kernel
theorem dX4_firstCaught_0 : decode cX4_firstCaught 0 = .ok (.aload_n 0, 1) := by decide +kernel
theorem dX4_firstCaught_1 : decode cX4_firstCaught 1 = .ok (.getfield 12, 3) := by decide +kernel
theorem dX4_firstCaught_4 : decode cX4_firstCaught 4 = .ok (.aload_n 0, 1) := by decide +kernel
theorem dX4_firstCaught_5 : decode cX4_firstCaught 5 = .ok (.getfield 12, 3) := by decide +kernel
theorem dX4_firstCaught_8 : decode cX4_firstCaught 8 = .ok (.getfield 79, 3) := by decide +kernel
theorem dX4_firstCaught_11 : decode cX4_firstCaught 11 = .ok (.invokevirtual 82, 3) := by decide +kernel
theorem dX4_firstCaught_14 : decode cX4_firstCaught 14 = .ok (.ifCond .ne 6, 3) := by decide +kernel
theorem dX4_firstCaught_17 : decode cX4_firstCaught 17 = .ok (.bipush (-5), 2) := by decide +kernel
theorem dX4_firstCaught_19 : decode cX4_firstCaught 19 = .ok (.ireturn, 1) := by decide +kernel
theorem dX4_firstCaught_20 : decode cX4_firstCaught 20 = .ok (.aload_n 0, 1) := by decide +kernel
theorem dX4_firstCaught_21 : decode cX4_firstCaught 21 = .ok (.getfield 12, 3) := by decide +kernel
theorem dX4_firstCaught_24 : decode cX4_firstCaught 24 = .ok (.getfield 86, 3) := by decide +kernel
theorem dX4_firstCaught_27 : decode cX4_firstCaught 27 = .ok (.aload_n 0, 1) := by decide +kernel
theorem dX4_firstCaught_28 : decode cX4_firstCaught 28 = .ok (.getfield 12, 3) := by decide +kernel
theorem dX4_firstCaught_31 : decode cX4_firstCaught 31 = .ok (.getfield 79, 3) := by decide +kernel
theorem dX4_firstCaught_34 : decode cX4_firstCaught 34 = .ok (.iaload, 1) := by decide +kernel
theorem dX4_firstCaught_35 : decode cX4_firstCaught 35 = .ok (.istore_n 1, 1) := by decide +kernel
theorem dX4_firstCaught_36 : decode cX4_firstCaught 36 = .ok (.bipush (-5), 2) := by decide +kernel
theorem dX4_firstCaught_38 : decode cX4_firstCaught 38 = .ok (.istore_n 2, 1) := by decide +kernel
theorem dX4_firstCaught_39 : decode cX4_firstCaught 39 = .ok (.iconst 0, 1) := by decide +kernel
theorem dX4_firstCaught_40 : decode cX4_firstCaught 40 = .ok (.istore_n 3, 1) := by decide +kernel
theorem dX4_firstCaught_41 : decode cX4_firstCaught 41 = .ok (.iload_n 3, 1) := by decide +kernel
theorem dX4_firstCaught_42 : decode cX4_firstCaught 42 = .ok (.iconst 3, 1) := by decide +kernel
theorem dX4_firstCaught_43 : decode cX4_firstCaught 43 = .ok (.if_icmp .ge 57, 3) := by decide +kernel
theorem dX4_firstCaught_46 : decode cX4_firstCaught 46 = .ok (.aload_n 0, 1) := by decide +kernel
theorem dX4_firstCaught_47 : decode cX4_firstCaught 47 = .ok (.iload_n 1, 1) := by decide +kernel
theorem dX4_firstCaught_48 : decode cX4_firstCaught 48 = .ok (.iload_n 3, 1) := by decide +kernel
theorem dX4_firstCaught_49 : decode cX4_firstCaught 49 = .ok (.invokevirtual 89, 3) := by decide +kernel
theorem dX4_firstCaught_52 : decode cX4_firstCaught 52 = .ok (.istore 4, 2) := by decide +kernel
theorem dX4_firstCaught_54 : decode cX4_firstCaught 54 = .ok (.aload_n 0, 1) := by decide +kernel
theorem dX4_firstCaught_55 : decode cX4_firstCaught 55 = .ok (.getfield 12, 3) := by decide +kernel
theorem dX4_firstCaught_58 : decode cX4_firstCaught 58 = .ok (.iload 4, 2) := by decide +kernel
theorem dX4_firstCaught_60 : decode cX4_firstCaught 60 = .ok (.invokevirtual 82, 3) := by decide +kernel
theorem dX4_firstCaught_63 : decode cX4_firstCaught 63 = .ok (.ifCond .eq 31, 3) := by decide +kernel
theorem dX4_firstCaught_66 : decode cX4_firstCaught 66 = .ok (.aload_n 0, 1) := by decide +kernel
theorem dX4_firstCaught_67 : decode cX4_firstCaught 67 = .ok (.getfield 12, 3) := by decide +kernel
theorem dX4_firstCaught_70 : decode cX4_firstCaught 70 = .ok (.getfield 93, 3) := by decide +kernel
theorem dX4_firstCaught_73 : decode cX4_firstCaught 73 = .ok (.iload 4, 2) := by decide +kernel
theorem dX4_firstCaught_75 : decode cX4_firstCaught 75 = .ok (.iaload, 1) := by decide +kernel
theorem dX4_firstCaught_76 : decode cX4_firstCaught 76 = .ok (.ifCond .ne 18, 3) := by decide +kernel
theorem dX4_firstCaught_79 : decode cX4_firstCaught 79 = .ok (.iload_n 2, 1) := by decide +kernel
theorem dX4_firstCaught_80 : decode cX4_firstCaught 80 = .ok (.bipush (-5), 2) := by decide +kernel
theorem dX4_firstCaught_82 : decode cX4_firstCaught 82 = .ok (.if_icmp .eq 9, 3) := by decide +kernel
theorem dX4_firstCaught_85 : decode cX4_firstCaught 85 = .ok (.iload 4, 2) := by decide +kernel
theorem dX4_firstCaught_87 : decode cX4_firstCaught 87 = .ok (.iload_n 2, 1) := by decide +kernel
theorem dX4_firstCaught_88 : decode cX4_firstCaught 88 = .ok (.if_icmp .ge 6, 3) := by decide +kernel
theorem dX4_firstCaught_91 : decode cX4_firstCaught 91 = .ok (.iload 4, 2) := by decide +kernel
theorem dX4_firstCaught_93 : decode cX4_firstCaught 93 = .ok (.istore_n 2, 1) := by decide +kernel
theorem dX4_firstCaught_94 : decode cX4_firstCaught 94 = .ok (.iinc 3 1, 3) := by decide +kernel
theorem dX4_firstCaught_97 : decode cX4_firstCaught 97 = .ok (.goto (-56), 3) := by decide +kernel
theorem dX4_firstCaught_100 : decode cX4_firstCaught 100 = .ok (.iload_n 2, 1) := by decide +kernel
theorem dX4_firstCaught_101 : decode cX4_firstCaught 101 = .ok (.ireturn, 1) := by decide +kernel
theorem dX4_catcherStandsInShadowOf_0 : decode cX4_catcherStandsInShadowOf 0 = .ok (.aload_n 0, 1) := by decide +kernel
theorem dX4_catcherStandsInShadowOf_1 : decode cX4_catcherStandsInShadowOf 1 = .ok (.getfield 12, 3) := by decide +kernel
theorem dX4_catcherStandsInShadowOf_4 : decode cX4_catcherStandsInShadowOf 4 = .ok (.aload_n 0, 1) := by decide +kernel
theorem dX4_catcherStandsInShadowOf_5 : decode cX4_catcherStandsInShadowOf 5 = .ok (.getfield 12, 3) := by decide +kernel
theorem dX4_catcherStandsInShadowOf_8 : decode cX4_catcherStandsInShadowOf 8 = .ok (.getfield 79, 3) := by decide +kernel
theorem dX4_catcherStandsInShadowOf_11 : decode cX4_catcherStandsInShadowOf 11 = .ok (.invokevirtual 82, 3) := by decide +kernel
theorem dX4_catcherStandsInShadowOf_14 : decode cX4_catcherStandsInShadowOf 14 = .ok (.ifCond .ne 5, 3) := by decide +kernel
theorem dX4_catcherStandsInShadowOf_17 : decode cX4_catcherStandsInShadowOf 17 = .ok (.iconst 0, 1) := by decide +kernel
theorem dX4_catcherStandsInShadowOf_18 : decode cX4_catcherStandsInShadowOf 18 = .ok (.ireturn, 1) := by decide +kernel
theorem dX4_catcherStandsInShadowOf_19 : decode cX4_catcherStandsInShadowOf 19 = .ok (.aload_n 0, 1) := by decide +kernel
theorem dX4_catcherStandsInShadowOf_20 : decode cX4_catcherStandsInShadowOf 20 = .ok (.getfield 12, 3) := by decide +kernel
theorem dX4_catcherStandsInShadowOf_23 : decode cX4_catcherStandsInShadowOf 23 = .ok (.getfield 86, 3) := by decide +kernel
theorem dX4_catcherStandsInShadowOf_26 : decode cX4_catcherStandsInShadowOf 26 = .ok (.aload_n 0, 1) := by decide +kernel
theorem dX4_catcherStandsInShadowOf_27 : decode cX4_catcherStandsInShadowOf 27 = .ok (.getfield 12, 3) := by decide +kernel
theorem dX4_catcherStandsInShadowOf_30 : decode cX4_catcherStandsInShadowOf 30 = .ok (.getfield 79, 3) := by decide +kernel
theorem dX4_catcherStandsInShadowOf_33 : decode cX4_catcherStandsInShadowOf 33 = .ok (.iaload, 1) := by decide +kernel
theorem dX4_catcherStandsInShadowOf_34 : decode cX4_catcherStandsInShadowOf 34 = .ok (.istore_n 2, 1) := by decide +kernel
theorem dX4_catcherStandsInShadowOf_35 : decode cX4_catcherStandsInShadowOf 35 = .ok (.iconst 0, 1) := by decide +kernel
theorem dX4_catcherStandsInShadowOf_36 : decode cX4_catcherStandsInShadowOf 36 = .ok (.istore_n 3, 1) := by decide +kernel
theorem dX4_catcherStandsInShadowOf_37 : decode cX4_catcherStandsInShadowOf 37 = .ok (.iload_n 3, 1) := by decide +kernel
theorem dX4_catcherStandsInShadowOf_38 : decode cX4_catcherStandsInShadowOf 38 = .ok (.iconst 3, 1) := by decide +kernel
theorem dX4_catcherStandsInShadowOf_39 : decode cX4_catcherStandsInShadowOf 39 = .ok (.if_icmp .ge 21, 3) := by decide +kernel
theorem dX4_catcherStandsInShadowOf_42 : decode cX4_catcherStandsInShadowOf 42 = .ok (.aload_n 0, 1) := by decide +kernel
theorem dX4_catcherStandsInShadowOf_43 : decode cX4_catcherStandsInShadowOf 43 = .ok (.iload_n 2, 1) := by decide +kernel
theorem dX4_catcherStandsInShadowOf_44 : decode cX4_catcherStandsInShadowOf 44 = .ok (.iload_n 1, 1) := by decide +kernel
theorem dX4_catcherStandsInShadowOf_45 : decode cX4_catcherStandsInShadowOf 45 = .ok (.iload_n 3, 1) := by decide +kernel
theorem dX4_catcherStandsInShadowOf_46 : decode cX4_catcherStandsInShadowOf 46 = .ok (.invokevirtual 96, 3) := by decide +kernel
theorem dX4_catcherStandsInShadowOf_49 : decode cX4_catcherStandsInShadowOf 49 = .ok (.ifCond .eq 5, 3) := by decide +kernel
theorem dX4_catcherStandsInShadowOf_52 : decode cX4_catcherStandsInShadowOf 52 = .ok (.iconst 1, 1) := by decide +kernel
theorem dX4_catcherStandsInShadowOf_53 : decode cX4_catcherStandsInShadowOf 53 = .ok (.ireturn, 1) := by decide +kernel
theorem dX4_catcherStandsInShadowOf_54 : decode cX4_catcherStandsInShadowOf 54 = .ok (.iinc 3 1, 3) := by decide +kernel
theorem dX4_catcherStandsInShadowOf_57 : decode cX4_catcherStandsInShadowOf 57 = .ok (.goto (-20), 3) := by decide +kernel
theorem dX4_catcherStandsInShadowOf_60 : decode cX4_catcherStandsInShadowOf 60 = .ok (.iconst 0, 1) := by decide +kernel
theorem dX4_catcherStandsInShadowOf_61 : decode cX4_catcherStandsInShadowOf 61 = .ok (.ireturn, 1) := by decide +kernel
theorem dX4_isInShadow_0 : decode cX4_isInShadow 0 = .ok (.aload_n 0, 1) := by decide +kernel
theorem dX4_isInShadow_1 : decode cX4_isInShadow 1 = .ok (.getfield 12, 3) := by decide +kernel
theorem dX4_isInShadow_4 : decode cX4_isInShadow 4 = .ok (.iload_n 2, 1) := by decide +kernel
theorem dX4_isInShadow_5 : decode cX4_isInShadow 5 = .ok (.invokevirtual 82, 3) := by decide +kernel
theorem dX4_isInShadow_8 : decode cX4_isInShadow 8 = .ok (.ifCond .eq 10, 3) := by decide +kernel
theorem dX4_isInShadow_11 : decode cX4_isInShadow 11 = .ok (.iload_n 3, 1) := by decide +kernel
theorem dX4_isInShadow_12 : decode cX4_isInShadow 12 = .ok (.invokestatic 100, 3) := by decide +kernel
theorem dX4_isInShadow_15 : decode cX4_isInShadow 15 = .ok (.ifCond .ne 5, 3) := by decide +kernel
theorem dX4_isInShadow_18 : decode cX4_isInShadow 18 = .ok (.iconst 0, 1) := by decide +kernel
theorem dX4_isInShadow_19 : decode cX4_isInShadow 19 = .ok (.ireturn, 1) := by decide +kernel
theorem dX4_isInShadow_20 : decode cX4_isInShadow 20 = .ok (.aload_n 0, 1) := by decide +kernel
theorem dX4_isInShadow_21 : decode cX4_isInShadow 21 = .ok (.getfield 12, 3) := by decide +kernel
theorem dX4_isInShadow_24 : decode cX4_isInShadow 24 = .ok (.getfield 86, 3) := by decide +kernel
theorem dX4_isInShadow_27 : decode cX4_isInShadow 27 = .ok (.iload_n 2, 1) := by decide +kernel
theorem dX4_isInShadow_28 : decode cX4_isInShadow 28 = .ok (.iaload, 1) := by decide +kernel
theorem dX4_isInShadow_29 : decode cX4_isInShadow 29 = .ok (.iload_n 1, 1) := by decide +kernel
theorem dX4_isInShadow_30 : decode cX4_isInShadow 30 = .ok (.aload_n 0, 1) := by decide +kernel
theorem dX4_isInShadow_31 : decode cX4_isInShadow 31 = .ok (.getfield 21, 3) := by decide +kernel
theorem dX4_isInShadow_34 : decode cX4_isInShadow 34 = .ok (.getfield 103, 3) := by decide +kernel
theorem dX4_isInShadow_37 : decode cX4_isInShadow 37 = .ok (.iload_n 3, 1) := by decide +kernel
theorem dX4_isInShadow_38 : decode cX4_isInShadow 38 = .ok (.iaload, 1) := by decide +kernel
theorem dX4_isInShadow_39 : decode cX4_isInShadow 39 = .ok (.invokestatic 106, 3) := by decide +kernel
theorem dX4_isInShadow_42 : decode cX4_isInShadow 42 = .ok (.invokestatic 110, 3) := by decide +kernel
theorem dX4_isInShadow_45 : decode cX4_isInShadow 45 = .ok (.istore 4, 2) := by decide +kernel
theorem dX4_isInShadow_47 : decode cX4_isInShadow 47 = .ok (.iload 4, 2) := by decide +kernel
theorem dX4_isInShadow_49 : decode cX4_isInShadow 49 = .ok (.ifCond .le 18, 3) := by decide +kernel
theorem dX4_isInShadow_52 : decode cX4_isInShadow 52 = .ok (.iload 4, 2) := by decide +kernel
theorem dX4_isInShadow_54 : decode cX4_isInShadow 54 = .ok (.aload_n 0, 1) := by decide +kernel
theorem dX4_isInShadow_55 : decode cX4_isInShadow 55 = .ok (.iload_n 2, 1) := by decide +kernel
theorem dX4_isInShadow_56 : decode cX4_isInShadow 56 = .ok (.iload_n 3, 1) := by decide +kernel
theorem dX4_isInShadow_57 : decode cX4_isInShadow 57 = .ok (.invokevirtual 114, 3) := by decide +kernel
theorem dX4_isInShadow_60 : decode cX4_isInShadow 60 = .ok (.if_icmp .gt 7, 3) := by decide +kernel
theorem dX4_isInShadow_63 : decode cX4_isInShadow 63 = .ok (.iconst 1, 1) := by decide +kernel
theorem dX4_isInShadow_64 : decode cX4_isInShadow 64 = .ok (.goto 4, 3) := by decide +kernel
theorem dX4_isInShadow_67 : decode cX4_isInShadow 67 = .ok (.iconst 0, 1) := by decide +kernel
theorem dX4_isInShadow_68 : decode cX4_isInShadow 68 = .ok (.ireturn, 1) := by decide +kernel
theorem dX4_shadowLength_0 : decode cX4_shadowLength 0 = .ok (.aload_n 0, 1) := by decide +kernel
theorem dX4_shadowLength_1 : decode cX4_shadowLength 1 = .ok (.getfield 12, 3) := by decide +kernel
theorem dX4_shadowLength_4 : decode cX4_shadowLength 4 = .ok (.iload_n 1, 1) := by decide +kernel
theorem dX4_shadowLength_5 : decode cX4_shadowLength 5 = .ok (.invokevirtual 82, 3) := by decide +kernel
theorem dX4_shadowLength_8 : decode cX4_shadowLength 8 = .ok (.ifCond .eq 22, 3) := by decide +kernel
theorem dX4_shadowLength_11 : decode cX4_shadowLength 11 = .ok (.iload_n 2, 1) := by decide +kernel
theorem dX4_shadowLength_12 : decode cX4_shadowLength 12 = .ok (.invokestatic 100, 3) := by decide +kernel
theorem dX4_shadowLength_15 : decode cX4_shadowLength 15 = .ok (.ifCond .eq 15, 3) := by decide +kernel
theorem dX4_shadowLength_18 : decode cX4_shadowLength 18 = .ok (.aload_n 0, 1) := by decide +kernel
theorem dX4_shadowLength_19 : decode cX4_shadowLength 19 = .ok (.getfield 21, 3) := by decide +kernel
theorem dX4_shadowLength_22 : decode cX4_shadowLength 22 = .ok (.getfield 117, 3) := by decide +kernel
theorem dX4_shadowLength_25 : decode cX4_shadowLength 25 = .ok (.iload_n 2, 1) := by decide +kernel
theorem dX4_shadowLength_26 : decode cX4_shadowLength 26 = .ok (.iaload, 1) := by decide +kernel
theorem dX4_shadowLength_27 : decode cX4_shadowLength 27 = .ok (.ifCond .ne 5, 3) := by decide +kernel
theorem dX4_shadowLength_30 : decode cX4_shadowLength 30 = .ok (.iconst 0, 1) := by decide +kernel
theorem dX4_shadowLength_31 : decode cX4_shadowLength 31 = .ok (.ireturn, 1) := by decide +kernel
theorem dX4_shadowLength_32 : decode cX4_shadowLength 32 = .ok (.aload_n 0, 1) := by decide +kernel
theorem dX4_shadowLength_33 : decode cX4_shadowLength 33 = .ok (.getfield 12, 3) := by decide +kernel
theorem dX4_shadowLength_36 : decode cX4_shadowLength 36 = .ok (.getfield 86, 3) := by decide +kernel
theorem dX4_shadowLength_39 : decode cX4_shadowLength 39 = .ok (.iload_n 1, 1) := by decide +kernel
theorem dX4_shadowLength_40 : decode cX4_shadowLength 40 = .ok (.iaload, 1) := by decide +kernel
theorem dX4_shadowLength_41 : decode cX4_shadowLength 41 = .ok (.istore_n 3, 1) := by decide +kernel
theorem dX4_shadowLength_42 : decode cX4_shadowLength 42 = .ok (.aload_n 0, 1) := by decide +kernel
theorem dX4_shadowLength_43 : decode cX4_shadowLength 43 = .ok (.getfield 21, 3) := by decide +kernel
theorem dX4_shadowLength_46 : decode cX4_shadowLength 46 = .ok (.getfield 103, 3) := by decide +kernel
theorem dX4_shadowLength_49 : decode cX4_shadowLength 49 = .ok (.iload_n 2, 1) := by decide +kernel
theorem dX4_shadowLength_50 : decode cX4_shadowLength 50 = .ok (.iaload, 1) := by decide +kernel
theorem dX4_shadowLength_51 : decode cX4_shadowLength 51 = .ok (.invokestatic 106, 3) := by decide +kernel
theorem dX4_shadowLength_54 : decode cX4_shadowLength 54 = .ok (.istore 4, 2) := by decide +kernel
theorem dX4_shadowLength_56 : decode cX4_shadowLength 56 = .ok (.aload_n 0, 1) := by decide +kernel
theorem dX4_shadowLength_57 : decode cX4_shadowLength 57 = .ok (.getfield 12, 3) := by decide +kernel
theorem dX4_shadowLength_60 : decode cX4_shadowLength 60 = .ok (.getfield 120, 3) := by decide +kernel
theorem dX4_shadowLength_63 : decode cX4_shadowLength 63 = .ok (.iload_n 1, 1) := by decide +kernel
theorem dX4_shadowLength_64 : decode cX4_shadowLength 64 = .ok (.iaload, 1) := by decide +kernel
theorem dX4_shadowLength_65 : decode cX4_shadowLength 65 = .ok (.aload_n 0, 1) := by decide +kernel
theorem dX4_shadowLength_66 : decode cX4_shadowLength 66 = .ok (.getfield 21, 3) := by decide +kernel
theorem dX4_shadowLength_69 : decode cX4_shadowLength 69 = .ok (.getfield 123, 3) := by decide +kernel
theorem dX4_shadowLength_72 : decode cX4_shadowLength 72 = .ok (.iload_n 2, 1) := by decide +kernel
theorem dX4_shadowLength_73 : decode cX4_shadowLength 73 = .ok (.iaload, 1) := by decide +kernel
theorem dX4_shadowLength_74 : decode cX4_shadowLength 74 = .ok (.imul, 1) := by decide +kernel
theorem dX4_shadowLength_75 : decode cX4_shadowLength 75 = .ok (.iload_n 3, 1) := by decide +kernel
theorem dX4_shadowLength_76 : decode cX4_shadowLength 76 = .ok (.iload 4, 2) := by decide +kernel
theorem dX4_shadowLength_78 : decode cX4_shadowLength 78 = .ok (.invokestatic 126, 3) := by decide +kernel
theorem dX4_shadowLength_81 : decode cX4_shadowLength 81 = .ok (.invokestatic 129, 3) := by decide +kernel
theorem dX4_shadowLength_84 : decode cX4_shadowLength 84 = .ok (.istore 5, 2) := by decide +kernel
theorem dX4_shadowLength_86 : decode cX4_shadowLength 86 = .ok (.iconst 0, 1) := by decide +kernel
theorem dX4_shadowLength_87 : decode cX4_shadowLength 87 = .ok (.istore 6, 2) := by decide +kernel
theorem dX4_shadowLength_89 : decode cX4_shadowLength 89 = .ok (.iload 6, 2) := by decide +kernel
theorem dX4_shadowLength_91 : decode cX4_shadowLength 91 = .ok (.aload_n 0, 1) := by decide +kernel
theorem dX4_shadowLength_92 : decode cX4_shadowLength 92 = .ok (.getfield 12, 3) := by decide +kernel
theorem dX4_shadowLength_95 : decode cX4_shadowLength 95 = .ok (.getfield 134, 3) := by decide +kernel
theorem dX4_shadowLength_98 : decode cX4_shadowLength 98 = .ok (.if_icmp .ge 50, 3) := by decide +kernel
theorem dX4_shadowLength_101 : decode cX4_shadowLength 101 = .ok (.iload 6, 2) := by decide +kernel
theorem dX4_shadowLength_103 : decode cX4_shadowLength 103 = .ok (.bipush 6, 2) := by decide +kernel
theorem dX4_shadowLength_105 : decode cX4_shadowLength 105 = .ok (.if_icmp .ge 43, 3) := by decide +kernel
theorem dX4_shadowLength_108 : decode cX4_shadowLength 108 = .ok (.iload_n 3, 1) := by decide +kernel
theorem dX4_shadowLength_109 : decode cX4_shadowLength 109 = .ok (.aload_n 0, 1) := by decide +kernel
theorem dX4_shadowLength_110 : decode cX4_shadowLength 110 = .ok (.getfield 12, 3) := by decide +kernel
theorem dX4_shadowLength_113 : decode cX4_shadowLength 113 = .ok (.getfield 86, 3) := by decide +kernel
theorem dX4_shadowLength_116 : decode cX4_shadowLength 116 = .ok (.iload 6, 2) := by decide +kernel
theorem dX4_shadowLength_118 : decode cX4_shadowLength 118 = .ok (.iaload, 1) := by decide +kernel
theorem dX4_shadowLength_119 : decode cX4_shadowLength 119 = .ok (.iload 4, 2) := by decide +kernel
theorem dX4_shadowLength_121 : decode cX4_shadowLength 121 = .ok (.invokestatic 110, 3) := by decide +kernel
theorem dX4_shadowLength_124 : decode cX4_shadowLength 124 = .ok (.istore 7, 2) := by decide +kernel
theorem dX4_shadowLength_126 : decode cX4_shadowLength 126 = .ok (.iload 7, 2) := by decide +kernel
theorem dX4_shadowLength_128 : decode cX4_shadowLength 128 = .ok (.ifCond .le 14, 3) := by decide +kernel
theorem dX4_shadowLength_131 : decode cX4_shadowLength 131 = .ok (.iload 7, 2) := by decide +kernel
theorem dX4_shadowLength_133 : decode cX4_shadowLength 133 = .ok (.iload 5, 2) := by decide +kernel
theorem dX4_shadowLength_135 : decode cX4_shadowLength 135 = .ok (.if_icmp .ge 7, 3) := by decide +kernel
theorem dX4_shadowLength_138 : decode cX4_shadowLength 138 = .ok (.iload 7, 2) := by decide +kernel
theorem dX4_shadowLength_140 : decode cX4_shadowLength 140 = .ok (.istore 5, 2) := by decide +kernel
theorem dX4_shadowLength_142 : decode cX4_shadowLength 142 = .ok (.iinc 6 1, 3) := by decide +kernel
theorem dX4_shadowLength_145 : decode cX4_shadowLength 145 = .ok (.goto (-56), 3) := by decide +kernel
theorem dX4_shadowLength_148 : decode cX4_shadowLength 148 = .ok (.iload 5, 2) := by decide +kernel
theorem dX4_shadowLength_150 : decode cX4_shadowLength 150 = .ok (.ireturn, 1) := by decide +kernel
theorem dX4_shadowEnd_0 : decode cX4_shadowEnd 0 = .ok (.aload_n 0, 1) := by decide +kernel
theorem dX4_shadowEnd_1 : decode cX4_shadowEnd 1 = .ok (.iload_n 1, 1) := by decide +kernel
theorem dX4_shadowEnd_2 : decode cX4_shadowEnd 2 = .ok (.iload_n 2, 1) := by decide +kernel
theorem dX4_shadowEnd_3 : decode cX4_shadowEnd 3 = .ok (.invokevirtual 114, 3) := by decide +kernel
theorem dX4_shadowEnd_6 : decode cX4_shadowEnd 6 = .ok (.istore_n 3, 1) := by decide +kernel
theorem dX4_shadowEnd_7 : decode cX4_shadowEnd 7 = .ok (.iload_n 3, 1) := by decide +kernel
theorem dX4_shadowEnd_8 : decode cX4_shadowEnd 8 = .ok (.ifCond .eq 21, 3) := by decide +kernel
theorem dX4_shadowEnd_11 : decode cX4_shadowEnd 11 = .ok (.aload_n 0, 1) := by decide +kernel
theorem dX4_shadowEnd_12 : decode cX4_shadowEnd 12 = .ok (.getfield 12, 3) := by decide +kernel
theorem dX4_shadowEnd_15 : decode cX4_shadowEnd 15 = .ok (.iload_n 1, 1) := by decide +kernel
theorem dX4_shadowEnd_16 : decode cX4_shadowEnd 16 = .ok (.invokevirtual 82, 3) := by decide +kernel
theorem dX4_shadowEnd_19 : decode cX4_shadowEnd 19 = .ok (.ifCond .eq 10, 3) := by decide +kernel
theorem dX4_shadowEnd_22 : decode cX4_shadowEnd 22 = .ok (.iload_n 2, 1) := by decide +kernel
theorem dX4_shadowEnd_23 : decode cX4_shadowEnd 23 = .ok (.invokestatic 100, 3) := by decide +kernel
theorem dX4_shadowEnd_26 : decode cX4_shadowEnd 26 = .ok (.ifCond .ne 6, 3) := by decide +kernel
theorem dX4_shadowEnd_29 : decode cX4_shadowEnd 29 = .ok (.bipush (-5), 2) := by decide +kernel
theorem dX4_shadowEnd_31 : decode cX4_shadowEnd 31 = .ok (.ireturn, 1) := by decide +kernel
theorem dX4_shadowEnd_32 : decode cX4_shadowEnd 32 = .ok (.aload_n 0, 1) := by decide +kernel
theorem dX4_shadowEnd_33 : decode cX4_shadowEnd 33 = .ok (.getfield 12, 3) := by decide +kernel
theorem dX4_shadowEnd_36 : decode cX4_shadowEnd 36 = .ok (.getfield 86, 3) := by decide +kernel
theorem dX4_shadowEnd_39 : decode cX4_shadowEnd 39 = .ok (.iload_n 1, 1) := by decide +kernel
theorem dX4_shadowEnd_40 : decode cX4_shadowEnd 40 = .ok (.iaload, 1) := by decide +kernel
theorem dX4_shadowEnd_41 : decode cX4_shadowEnd 41 = .ok (.aload_n 0, 1) := by decide +kernel
theorem dX4_shadowEnd_42 : decode cX4_shadowEnd 42 = .ok (.getfield 21, 3) := by decide +kernel
theorem dX4_shadowEnd_45 : decode cX4_shadowEnd 45 = .ok (.getfield 103, 3) := by decide +kernel
theorem dX4_shadowEnd_48 : decode cX4_shadowEnd 48 = .ok (.iload_n 2, 1) := by decide +kernel
theorem dX4_shadowEnd_49 : decode cX4_shadowEnd 49 = .ok (.iaload, 1) := by decide +kernel
theorem dX4_shadowEnd_50 : decode cX4_shadowEnd 50 = .ok (.invokestatic 106, 3) := by decide +kernel
theorem dX4_shadowEnd_53 : decode cX4_shadowEnd 53 = .ok (.iload_n 3, 1) := by decide +kernel
theorem dX4_shadowEnd_54 : decode cX4_shadowEnd 54 = .ok (.invokestatic 137, 3) := by decide +kernel
theorem dX4_shadowEnd_57 : decode cX4_shadowEnd 57 = .ok (.ireturn, 1) := by decide +kernel
theorem dX4_hasShadow_0 : decode cX4_hasShadow 0 = .ok (.iconst 0, 1) := by decide +kernel
theorem dX4_hasShadow_1 : decode cX4_hasShadow 1 = .ok (.istore_n 2, 1) := by decide +kernel
theorem dX4_hasShadow_2 : decode cX4_hasShadow 2 = .ok (.iload_n 2, 1) := by decide +kernel
theorem dX4_hasShadow_3 : decode cX4_hasShadow 3 = .ok (.iconst 3, 1) := by decide +kernel
theorem dX4_hasShadow_4 : decode cX4_hasShadow 4 = .ok (.if_icmp .ge 20, 3) := by decide +kernel
theorem dX4_hasShadow_7 : decode cX4_hasShadow 7 = .ok (.aload_n 0, 1) := by decide +kernel
theorem dX4_hasShadow_8 : decode cX4_hasShadow 8 = .ok (.iload_n 1, 1) := by decide +kernel
theorem dX4_hasShadow_9 : decode cX4_hasShadow 9 = .ok (.iload_n 2, 1) := by decide +kernel
theorem dX4_hasShadow_10 : decode cX4_hasShadow 10 = .ok (.invokevirtual 114, 3) := by decide +kernel
theorem dX4_hasShadow_13 : decode cX4_hasShadow 13 = .ok (.ifCond .le 5, 3) := by decide +kernel
theorem dX4_hasShadow_16 : decode cX4_hasShadow 16 = .ok (.iconst 1, 1) := by decide +kernel
theorem dX4_hasShadow_17 : decode cX4_hasShadow 17 = .ok (.ireturn, 1) := by decide +kernel
theorem dX4_hasShadow_18 : decode cX4_hasShadow 18 = .ok (.iinc 2 1, 3) := by decide +kernel
theorem dX4_hasShadow_21 : decode cX4_hasShadow 21 = .ok (.goto (-19), 3) := by decide +kernel
theorem dX4_hasShadow_24 : decode cX4_hasShadow 24 = .ok (.iconst 0, 1) := by decide +kernel
theorem dX4_hasShadow_25 : decode cX4_hasShadow 25 = .ok (.ireturn, 1) := by decide +kernel
theorem dX4_runnersWithoutShadow_0 : decode cX4_runnersWithoutShadow 0 = .ok (.iconst 0, 1) := by decide +kernel
theorem dX4_runnersWithoutShadow_1 : decode cX4_runnersWithoutShadow 1 = .ok (.istore_n 1, 1) := by decide +kernel
theorem dX4_runnersWithoutShadow_2 : decode cX4_runnersWithoutShadow 2 = .ok (.iconst 0, 1) := by decide +kernel
theorem dX4_runnersWithoutShadow_3 : decode cX4_runnersWithoutShadow 3 = .ok (.istore_n 2, 1) := by decide +kernel
theorem dX4_runnersWithoutShadow_4 : decode cX4_runnersWithoutShadow 4 = .ok (.iload_n 2, 1) := by decide +kernel
theorem dX4_runnersWithoutShadow_5 : decode cX4_runnersWithoutShadow 5 = .ok (.aload_n 0, 1) := by decide +kernel
theorem dX4_runnersWithoutShadow_6 : decode cX4_runnersWithoutShadow 6 = .ok (.getfield 12, 3) := by decide +kernel
theorem dX4_runnersWithoutShadow_9 : decode cX4_runnersWithoutShadow 9 = .ok (.getfield 134, 3) := by decide +kernel
theorem dX4_runnersWithoutShadow_12 : decode cX4_runnersWithoutShadow 12 = .ok (.if_icmp .ge 20, 3) := by decide +kernel
theorem dX4_runnersWithoutShadow_15 : decode cX4_runnersWithoutShadow 15 = .ok (.aload_n 0, 1) := by decide +kernel
theorem dX4_runnersWithoutShadow_16 : decode cX4_runnersWithoutShadow 16 = .ok (.iload_n 2, 1) := by decide +kernel
theorem dX4_runnersWithoutShadow_17 : decode cX4_runnersWithoutShadow 17 = .ok (.invokevirtual 140, 3) := by decide +kernel
theorem dX4_runnersWithoutShadow_20 : decode cX4_runnersWithoutShadow 20 = .ok (.ifCond .ne 6, 3) := by decide +kernel
theorem dX4_runnersWithoutShadow_23 : decode cX4_runnersWithoutShadow 23 = .ok (.iinc 1 1, 3) := by decide +kernel
theorem dX4_runnersWithoutShadow_26 : decode cX4_runnersWithoutShadow 26 = .ok (.iinc 2 1, 3) := by decide +kernel
theorem dX4_runnersWithoutShadow_29 : decode cX4_runnersWithoutShadow 29 = .ok (.goto (-25), 3) := by decide +kernel
theorem dX4_runnersWithoutShadow_32 : decode cX4_runnersWithoutShadow 32 = .ok (.iload_n 1, 1) := by decide +kernel
theorem dX4_runnersWithoutShadow_33 : decode cX4_runnersWithoutShadow 33 = .ok (.ireturn, 1) := by decide +kernel
theorem dX4_shadowerOf_0 : decode cX4_shadowerOf 0 = .ok (.iload_n 1, 1) := by decide +kernel
theorem dX4_shadowerOf_1 : decode cX4_shadowerOf 1 = .ok (.invokestatic 143, 3) := by decide +kernel
theorem dX4_shadowerOf_4 : decode cX4_shadowerOf 4 = .ok (.ifCond .eq 22, 3) := by decide +kernel
theorem dX4_shadowerOf_7 : decode cX4_shadowerOf 7 = .ok (.iload_n 2, 1) := by decide +kernel
theorem dX4_shadowerOf_8 : decode cX4_shadowerOf 8 = .ok (.invokestatic 100, 3) := by decide +kernel
theorem dX4_shadowerOf_11 : decode cX4_shadowerOf 11 = .ok (.ifCond .eq 15, 3) := by decide +kernel
theorem dX4_shadowerOf_14 : decode cX4_shadowerOf 14 = .ok (.aload_n 0, 1) := by decide +kernel
theorem dX4_shadowerOf_15 : decode cX4_shadowerOf 15 = .ok (.getfield 21, 3) := by decide +kernel
theorem dX4_shadowerOf_18 : decode cX4_shadowerOf 18 = .ok (.getfield 117, 3) := by decide +kernel
theorem dX4_shadowerOf_21 : decode cX4_shadowerOf 21 = .ok (.iload_n 2, 1) := by decide +kernel
theorem dX4_shadowerOf_22 : decode cX4_shadowerOf 22 = .ok (.iaload, 1) := by decide +kernel
theorem dX4_shadowerOf_23 : decode cX4_shadowerOf 23 = .ok (.ifCond .ne 6, 3) := by decide +kernel
theorem dX4_shadowerOf_26 : decode cX4_shadowerOf 26 = .ok (.bipush (-5), 2) := by decide +kernel
theorem dX4_shadowerOf_28 : decode cX4_shadowerOf 28 = .ok (.ireturn, 1) := by decide +kernel
theorem dX4_shadowerOf_29 : decode cX4_shadowerOf 29 = .ok (.aload_n 0, 1) := by decide +kernel
theorem dX4_shadowerOf_30 : decode cX4_shadowerOf 30 = .ok (.getfield 21, 3) := by decide +kernel
theorem dX4_shadowerOf_33 : decode cX4_shadowerOf 33 = .ok (.getfield 103, 3) := by decide +kernel
theorem dX4_shadowerOf_36 : decode cX4_shadowerOf 36 = .ok (.iload_n 2, 1) := by decide +kernel
theorem dX4_shadowerOf_37 : decode cX4_shadowerOf 37 = .ok (.iaload, 1) := by decide +kernel
theorem dX4_shadowerOf_38 : decode cX4_shadowerOf 38 = .ok (.istore_n 3, 1) := by decide +kernel
theorem dX4_shadowerOf_39 : decode cX4_shadowerOf 39 = .ok (.iload_n 1, 1) := by decide +kernel
theorem dX4_shadowerOf_40 : decode cX4_shadowerOf 40 = .ok (.iload_n 3, 1) := by decide +kernel
theorem dX4_shadowerOf_41 : decode cX4_shadowerOf 41 = .ok (.invokestatic 126, 3) := by decide +kernel
theorem dX4_shadowerOf_44 : decode cX4_shadowerOf 44 = .ok (.istore 4, 2) := by decide +kernel
theorem dX4_shadowerOf_46 : decode cX4_shadowerOf 46 = .ok (.iconst 1, 1) := by decide +kernel
theorem dX4_shadowerOf_47 : decode cX4_shadowerOf 47 = .ok (.istore 5, 2) := by decide +kernel
theorem dX4_shadowerOf_49 : decode cX4_shadowerOf 49 = .ok (.iload 5, 2) := by decide +kernel
theorem dX4_shadowerOf_51 : decode cX4_shadowerOf 51 = .ok (.iload 4, 2) := by decide +kernel
theorem dX4_shadowerOf_53 : decode cX4_shadowerOf 53 = .ok (.if_icmp .gt 70, 3) := by decide +kernel
theorem dX4_shadowerOf_56 : decode cX4_shadowerOf 56 = .ok (.aload_n 0, 1) := by decide +kernel
theorem dX4_shadowerOf_57 : decode cX4_shadowerOf 57 = .ok (.getfield 12, 3) := by decide +kernel
theorem dX4_shadowerOf_60 : decode cX4_shadowerOf 60 = .ok (.iload_n 1, 1) := by decide +kernel
theorem dX4_shadowerOf_61 : decode cX4_shadowerOf 61 = .ok (.iload_n 3, 1) := by decide +kernel
theorem dX4_shadowerOf_62 : decode cX4_shadowerOf 62 = .ok (.iload 5, 2) := by decide +kernel
theorem dX4_shadowerOf_64 : decode cX4_shadowerOf 64 = .ok (.invokestatic 137, 3) := by decide +kernel
theorem dX4_shadowerOf_67 : decode cX4_shadowerOf 67 = .ok (.invokevirtual 146, 3) := by decide +kernel
theorem dX4_shadowerOf_70 : decode cX4_shadowerOf 70 = .ok (.istore 6, 2) := by decide +kernel
theorem dX4_shadowerOf_72 : decode cX4_shadowerOf 72 = .ok (.aload_n 0, 1) := by decide +kernel
theorem dX4_shadowerOf_73 : decode cX4_shadowerOf 73 = .ok (.getfield 12, 3) := by decide +kernel
theorem dX4_shadowerOf_76 : decode cX4_shadowerOf 76 = .ok (.iload 6, 2) := by decide +kernel
theorem dX4_shadowerOf_78 : decode cX4_shadowerOf 78 = .ok (.invokevirtual 82, 3) := by decide +kernel
theorem dX4_shadowerOf_81 : decode cX4_shadowerOf 81 = .ok (.ifCond .eq 36, 3) := by decide +kernel
theorem dX4_shadowerOf_84 : decode cX4_shadowerOf 84 = .ok (.iload 5, 2) := by decide +kernel
theorem dX4_shadowerOf_86 : decode cX4_shadowerOf 86 = .ok (.aload_n 0, 1) := by decide +kernel
theorem dX4_shadowerOf_87 : decode cX4_shadowerOf 87 = .ok (.getfield 12, 3) := by decide +kernel
theorem dX4_shadowerOf_90 : decode cX4_shadowerOf 90 = .ok (.getfield 120, 3) := by decide +kernel
theorem dX4_shadowerOf_93 : decode cX4_shadowerOf 93 = .ok (.iload 6, 2) := by decide +kernel
theorem dX4_shadowerOf_95 : decode cX4_shadowerOf 95 = .ok (.iaload, 1) := by decide +kernel
theorem dX4_shadowerOf_96 : decode cX4_shadowerOf 96 = .ok (.aload_n 0, 1) := by decide +kernel
theorem dX4_shadowerOf_97 : decode cX4_shadowerOf 97 = .ok (.getfield 21, 3) := by decide +kernel
theorem dX4_shadowerOf_100 : decode cX4_shadowerOf 100 = .ok (.getfield 123, 3) := by decide +kernel
theorem dX4_shadowerOf_103 : decode cX4_shadowerOf 103 = .ok (.iload_n 2, 1) := by decide +kernel
theorem dX4_shadowerOf_104 : decode cX4_shadowerOf 104 = .ok (.iaload, 1) := by decide +kernel
theorem dX4_shadowerOf_105 : decode cX4_shadowerOf 105 = .ok (.imul, 1) := by decide +kernel
theorem dX4_shadowerOf_106 : decode cX4_shadowerOf 106 = .ok (.if_icmp .gt 8, 3) := by decide +kernel
theorem dX4_shadowerOf_109 : decode cX4_shadowerOf 109 = .ok (.iload 6, 2) := by decide +kernel
theorem dX4_shadowerOf_111 : decode cX4_shadowerOf 111 = .ok (.goto 5, 3) := by decide +kernel
theorem dX4_shadowerOf_114 : decode cX4_shadowerOf 114 = .ok (.bipush (-5), 2) := by decide +kernel
theorem dX4_shadowerOf_116 : decode cX4_shadowerOf 116 = .ok (.ireturn, 1) := by decide +kernel
theorem dX4_shadowerOf_117 : decode cX4_shadowerOf 117 = .ok (.iinc 5 1, 3) := by decide +kernel
theorem dX4_shadowerOf_120 : decode cX4_shadowerOf 120 = .ok (.goto (-71), 3) := by decide +kernel
theorem dX4_shadowerOf_123 : decode cX4_shadowerOf 123 = .ok (.bipush (-5), 2) := by decide +kernel
theorem dX4_shadowerOf_125 : decode cX4_shadowerOf 125 = .ok (.ireturn, 1) := by decide +kernel
theorem dX4_darkenShadowsOf_0 : decode cX4_darkenShadowsOf 0 = .ok (.iconst 0, 1) := by decide +kernel
theorem dX4_darkenShadowsOf_1 : decode cX4_darkenShadowsOf 1 = .ok (.istore_n 3, 1) := by decide +kernel
theorem dX4_darkenShadowsOf_2 : decode cX4_darkenShadowsOf 2 = .ok (.iload_n 3, 1) := by decide +kernel
theorem dX4_darkenShadowsOf_3 : decode cX4_darkenShadowsOf 3 = .ok (.iconst 3, 1) := by decide +kernel
theorem dX4_darkenShadowsOf_4 : decode cX4_darkenShadowsOf 4 = .ok (.if_icmp .ge 16, 3) := by decide +kernel
theorem dX4_darkenShadowsOf_7 : decode cX4_darkenShadowsOf 7 = .ok (.aload_n 0, 1) := by decide +kernel
theorem dX4_darkenShadowsOf_8 : decode cX4_darkenShadowsOf 8 = .ok (.iload_n 1, 1) := by decide +kernel
theorem dX4_darkenShadowsOf_9 : decode cX4_darkenShadowsOf 9 = .ok (.iload_n 3, 1) := by decide +kernel
theorem dX4_darkenShadowsOf_10 : decode cX4_darkenShadowsOf 10 = .ok (.aload_n 2, 1) := by decide +kernel
theorem dX4_darkenShadowsOf_11 : decode cX4_darkenShadowsOf 11 = .ok (.invokevirtual 149, 3) := by decide +kernel
theorem dX4_darkenShadowsOf_14 : decode cX4_darkenShadowsOf 14 = .ok (.iinc 3 1, 3) := by decide +kernel
theorem dX4_darkenShadowsOf_17 : decode cX4_darkenShadowsOf 17 = .ok (.goto (-15), 3) := by decide +kernel
theorem dX4_darkenShadowsOf_20 : decode cX4_darkenShadowsOf 20 = .ok (.return_, 1) := by decide +kernel
theorem dX4_darkenShadow_0 : decode cX4_darkenShadow 0 = .ok (.aload_n 0, 1) := by decide +kernel
theorem dX4_darkenShadow_1 : decode cX4_darkenShadow 1 = .ok (.iload_n 1, 1) := by decide +kernel
theorem dX4_darkenShadow_2 : decode cX4_darkenShadow 2 = .ok (.iload_n 2, 1) := by decide +kernel
theorem dX4_darkenShadow_3 : decode cX4_darkenShadow 3 = .ok (.invokevirtual 114, 3) := by decide +kernel
theorem dX4_darkenShadow_6 : decode cX4_darkenShadow 6 = .ok (.istore 4, 2) := by decide +kernel
theorem dX4_darkenShadow_8 : decode cX4_darkenShadow 8 = .ok (.iload 4, 2) := by decide +kernel
theorem dX4_darkenShadow_10 : decode cX4_darkenShadow 10 = .ok (.ifCond .eq 21, 3) := by decide +kernel
theorem dX4_darkenShadow_13 : decode cX4_darkenShadow 13 = .ok (.aload_n 0, 1) := by decide +kernel
theorem dX4_darkenShadow_14 : decode cX4_darkenShadow 14 = .ok (.getfield 12, 3) := by decide +kernel
theorem dX4_darkenShadow_17 : decode cX4_darkenShadow 17 = .ok (.iload_n 1, 1) := by decide +kernel
theorem dX4_darkenShadow_18 : decode cX4_darkenShadow 18 = .ok (.invokevirtual 82, 3) := by decide +kernel
theorem dX4_darkenShadow_21 : decode cX4_darkenShadow 21 = .ok (.ifCond .eq 10, 3) := by decide +kernel
theorem dX4_darkenShadow_24 : decode cX4_darkenShadow 24 = .ok (.iload_n 2, 1) := by decide +kernel
theorem dX4_darkenShadow_25 : decode cX4_darkenShadow 25 = .ok (.invokestatic 100, 3) := by decide +kernel
theorem dX4_darkenShadow_28 : decode cX4_darkenShadow 28 = .ok (.ifCond .ne 4, 3) := by decide +kernel
theorem dX4_darkenShadow_31 : decode cX4_darkenShadow 31 = .ok (.return_, 1) := by decide +kernel
theorem dX4_darkenShadow_32 : decode cX4_darkenShadow 32 = .ok (.aload_n 0, 1) := by decide +kernel
theorem dX4_darkenShadow_33 : decode cX4_darkenShadow 33 = .ok (.getfield 12, 3) := by decide +kernel
theorem dX4_darkenShadow_36 : decode cX4_darkenShadow 36 = .ok (.getfield 86, 3) := by decide +kernel
theorem dX4_darkenShadow_39 : decode cX4_darkenShadow 39 = .ok (.iload_n 1, 1) := by decide +kernel
theorem dX4_darkenShadow_40 : decode cX4_darkenShadow 40 = .ok (.iaload, 1) := by decide +kernel
theorem dX4_darkenShadow_41 : decode cX4_darkenShadow 41 = .ok (.istore 5, 2) := by decide +kernel
theorem dX4_darkenShadow_43 : decode cX4_darkenShadow 43 = .ok (.aload_n 0, 1) := by decide +kernel
theorem dX4_darkenShadow_44 : decode cX4_darkenShadow 44 = .ok (.getfield 21, 3) := by decide +kernel
theorem dX4_darkenShadow_47 : decode cX4_darkenShadow 47 = .ok (.getfield 103, 3) := by decide +kernel
theorem dX4_darkenShadow_50 : decode cX4_darkenShadow 50 = .ok (.iload_n 2, 1) := by decide +kernel
theorem dX4_darkenShadow_51 : decode cX4_darkenShadow 51 = .ok (.iaload, 1) := by decide +kernel
theorem dX4_darkenShadow_52 : decode cX4_darkenShadow 52 = .ok (.invokestatic 106, 3) := by decide +kernel
theorem dX4_darkenShadow_55 : decode cX4_darkenShadow 55 = .ok (.istore 6, 2) := by decide +kernel
theorem dX4_darkenShadow_57 : decode cX4_darkenShadow 57 = .ok (.iconst 1, 1) := by decide +kernel
theorem dX4_darkenShadow_58 : decode cX4_darkenShadow 58 = .ok (.istore 7, 2) := by decide +kernel
theorem dX4_darkenShadow_60 : decode cX4_darkenShadow 60 = .ok (.iload 7, 2) := by decide +kernel
theorem dX4_darkenShadow_62 : decode cX4_darkenShadow 62 = .ok (.iload 4, 2) := by decide +kernel
theorem dX4_darkenShadow_64 : decode cX4_darkenShadow 64 = .ok (.if_icmp .gt 22, 3) := by decide +kernel
theorem dX4_darkenShadow_67 : decode cX4_darkenShadow 67 = .ok (.aload_n 3, 1) := by decide +kernel
theorem dX4_darkenShadow_68 : decode cX4_darkenShadow 68 = .ok (.iload 5, 2) := by decide +kernel
theorem dX4_darkenShadow_70 : decode cX4_darkenShadow 70 = .ok (.iload 6, 2) := by decide +kernel
theorem dX4_darkenShadow_72 : decode cX4_darkenShadow 72 = .ok (.iload 7, 2) := by decide +kernel
theorem dX4_darkenShadow_74 : decode cX4_darkenShadow 74 = .ok (.invokestatic 137, 3) := by decide +kernel
theorem dX4_darkenShadow_77 : decode cX4_darkenShadow 77 = .ok (.invokevirtual 153, 3) := by decide +kernel
theorem dX4_darkenShadow_80 : decode cX4_darkenShadow 80 = .ok (.iinc 7 1, 3) := by decide +kernel
theorem dX4_darkenShadow_83 : decode cX4_darkenShadow 83 = .ok (.goto (-23), 3) := by decide +kernel
theorem dX4_darkenShadow_86 : decode cX4_darkenShadow 86 = .ok (.return_, 1) := by decide +kernel
theorem dX5_init_0 : decode cX5_init 0 = .ok (.aload_n 0, 1) := by decide +kernel
theorem dX5_init_1 : decode cX5_init 1 = .ok (.invokespecial 3, 3) := by decide +kernel
theorem dX5_init_4 : decode cX5_init 4 = .ok (.aload_n 0, 1) := by decide +kernel
theorem dX5_init_5 : decode cX5_init 5 = .ok (.bipush 6, 2) := by decide +kernel
theorem dX5_init_7 : decode cX5_init 7 = .ok (.newarray .int, 2) := by decide +kernel
theorem dX5_init_9 : decode cX5_init 9 = .ok (.putfield 9, 3) := by decide +kernel
theorem dX5_init_12 : decode cX5_init 12 = .ok (.aload_n 0, 1) := by decide +kernel
theorem dX5_init_13 : decode cX5_init 13 = .ok (.bipush 6, 2) := by decide +kernel
theorem dX5_init_15 : decode cX5_init 15 = .ok (.newarray .int, 2) := by decide +kernel
theorem dX5_init_17 : decode cX5_init 17 = .ok (.putfield 15, 3) := by decide +kernel
theorem dX5_init_20 : decode cX5_init 20 = .ok (.aload_n 0, 1) := by decide +kernel
theorem dX5_init_21 : decode cX5_init 21 = .ok (.bipush 6, 2) := by decide +kernel
theorem dX5_init_23 : decode cX5_init 23 = .ok (.newarray .int, 2) := by decide +kernel
theorem dX5_init_25 : decode cX5_init 25 = .ok (.putfield 18, 3) := by decide +kernel
theorem dX5_init_28 : decode cX5_init 28 = .ok (.aload_n 0, 1) := by decide +kernel
theorem dX5_init_29 : decode cX5_init 29 = .ok (.bipush 6, 2) := by decide +kernel
theorem dX5_init_31 : decode cX5_init 31 = .ok (.newarray .int, 2) := by decide +kernel
theorem dX5_init_33 : decode cX5_init 33 = .ok (.putfield 21, 3) := by decide +kernel
theorem dX5_init_36 : decode cX5_init 36 = .ok (.aload_n 0, 1) := by decide +kernel
theorem dX5_init_37 : decode cX5_init 37 = .ok (.bipush 6, 2) := by decide +kernel
theorem dX5_init_39 : decode cX5_init 39 = .ok (.newarray .int, 2) := by decide +kernel
theorem dX5_init_41 : decode cX5_init 41 = .ok (.putfield 24, 3) := by decide +kernel
theorem dX5_init_44 : decode cX5_init 44 = .ok (.aload_n 0, 1) := by decide +kernel
theorem dX5_init_45 : decode cX5_init 45 = .ok (.bipush 6, 2) := by decide +kernel
theorem dX5_init_47 : decode cX5_init 47 = .ok (.newarray .int, 2) := by decide +kernel
theorem dX5_init_49 : decode cX5_init 49 = .ok (.putfield 27, 3) := by decide +kernel
theorem dX5_init_52 : decode cX5_init 52 = .ok (.aload_n 0, 1) := by decide +kernel
theorem dX5_init_53 : decode cX5_init 53 = .ok (.bipush 6, 2) := by decide +kernel
theorem dX5_init_55 : decode cX5_init 55 = .ok (.newarray .int, 2) := by decide +kernel
theorem dX5_init_57 : decode cX5_init 57 = .ok (.putfield 30, 3) := by decide +kernel
theorem dX5_init_60 : decode cX5_init 60 = .ok (.aload_n 0, 1) := by decide +kernel
theorem dX5_init_61 : decode cX5_init 61 = .ok (.iconst 0, 1) := by decide +kernel
theorem dX5_init_62 : decode cX5_init 62 = .ok (.putfield 33, 3) := by decide +kernel
theorem dX5_init_65 : decode cX5_init 65 = .ok (.aload_n 0, 1) := by decide +kernel
theorem dX5_init_66 : decode cX5_init 66 = .ok (.bipush (-5), 2) := by decide +kernel
theorem dX5_init_68 : decode cX5_init 68 = .ok (.putfield 37, 3) := by decide +kernel
theorem dX5_init_71 : decode cX5_init 71 = .ok (.aload_n 0, 1) := by decide +kernel
theorem dX5_init_72 : decode cX5_init 72 = .ok (.iconst 0, 1) := by decide +kernel
theorem dX5_init_73 : decode cX5_init 73 = .ok (.putfield 40, 3) := by decide +kernel
theorem dX5_init_76 : decode cX5_init 76 = .ok (.aload_n 0, 1) := by decide +kernel
theorem dX5_init_77 : decode cX5_init 77 = .ok (.iconst 0, 1) := by decide +kernel
theorem dX5_init_78 : decode cX5_init 78 = .ok (.putfield 43, 3) := by decide +kernel
theorem dX5_init_81 : decode cX5_init 81 = .ok (.aload_n 0, 1) := by decide +kernel
theorem dX5_init_82 : decode cX5_init 82 = .ok (.iconst 0, 1) := by decide +kernel
theorem dX5_init_83 : decode cX5_init 83 = .ok (.putfield 46, 3) := by decide +kernel
theorem dX5_init_86 : decode cX5_init 86 = .ok (.return_, 1) := by decide +kernel
theorem dX5_copyFrom_0 : decode cX5_copyFrom 0 = .ok (.aload_n 1, 1) := by decide +kernel
theorem dX5_copyFrom_1 : decode cX5_copyFrom 1 = .ok (.getfield 9, 3) := by decide +kernel
theorem dX5_copyFrom_4 : decode cX5_copyFrom 4 = .ok (.aload_n 0, 1) := by decide +kernel
theorem dX5_copyFrom_5 : decode cX5_copyFrom 5 = .ok (.getfield 9, 3) := by decide +kernel
theorem dX5_copyFrom_8 : decode cX5_copyFrom 8 = .ok (.invokestatic 49, 3) := by decide +kernel
theorem dX5_copyFrom_11 : decode cX5_copyFrom 11 = .ok (.aload_n 1, 1) := by decide +kernel
theorem dX5_copyFrom_12 : decode cX5_copyFrom 12 = .ok (.getfield 15, 3) := by decide +kernel
theorem dX5_copyFrom_15 : decode cX5_copyFrom 15 = .ok (.aload_n 0, 1) := by decide +kernel
theorem dX5_copyFrom_16 : decode cX5_copyFrom 16 = .ok (.getfield 15, 3) := by decide +kernel
theorem dX5_copyFrom_19 : decode cX5_copyFrom 19 = .ok (.invokestatic 49, 3) := by decide +kernel
theorem dX5_copyFrom_22 : decode cX5_copyFrom 22 = .ok (.aload_n 1, 1) := by decide +kernel
theorem dX5_copyFrom_23 : decode cX5_copyFrom 23 = .ok (.getfield 18, 3) := by decide +kernel
theorem dX5_copyFrom_26 : decode cX5_copyFrom 26 = .ok (.aload_n 0, 1) := by decide +kernel
theorem dX5_copyFrom_27 : decode cX5_copyFrom 27 = .ok (.getfield 18, 3) := by decide +kernel
theorem dX5_copyFrom_30 : decode cX5_copyFrom 30 = .ok (.invokestatic 49, 3) := by decide +kernel
theorem dX5_copyFrom_33 : decode cX5_copyFrom 33 = .ok (.aload_n 1, 1) := by decide +kernel
theorem dX5_copyFrom_34 : decode cX5_copyFrom 34 = .ok (.getfield 21, 3) := by decide +kernel
theorem dX5_copyFrom_37 : decode cX5_copyFrom 37 = .ok (.aload_n 0, 1) := by decide +kernel
theorem dX5_copyFrom_38 : decode cX5_copyFrom 38 = .ok (.getfield 21, 3) := by decide +kernel
theorem dX5_copyFrom_41 : decode cX5_copyFrom 41 = .ok (.invokestatic 49, 3) := by decide +kernel
theorem dX5_copyFrom_44 : decode cX5_copyFrom 44 = .ok (.aload_n 1, 1) := by decide +kernel
theorem dX5_copyFrom_45 : decode cX5_copyFrom 45 = .ok (.getfield 24, 3) := by decide +kernel
theorem dX5_copyFrom_48 : decode cX5_copyFrom 48 = .ok (.aload_n 0, 1) := by decide +kernel
theorem dX5_copyFrom_49 : decode cX5_copyFrom 49 = .ok (.getfield 24, 3) := by decide +kernel
theorem dX5_copyFrom_52 : decode cX5_copyFrom 52 = .ok (.invokestatic 49, 3) := by decide +kernel
theorem dX5_copyFrom_55 : decode cX5_copyFrom 55 = .ok (.aload_n 1, 1) := by decide +kernel
theorem dX5_copyFrom_56 : decode cX5_copyFrom 56 = .ok (.getfield 27, 3) := by decide +kernel
theorem dX5_copyFrom_59 : decode cX5_copyFrom 59 = .ok (.aload_n 0, 1) := by decide +kernel
theorem dX5_copyFrom_60 : decode cX5_copyFrom 60 = .ok (.getfield 27, 3) := by decide +kernel
theorem dX5_copyFrom_63 : decode cX5_copyFrom 63 = .ok (.invokestatic 49, 3) := by decide +kernel
theorem dX5_copyFrom_66 : decode cX5_copyFrom 66 = .ok (.aload_n 1, 1) := by decide +kernel
theorem dX5_copyFrom_67 : decode cX5_copyFrom 67 = .ok (.getfield 30, 3) := by decide +kernel
theorem dX5_copyFrom_70 : decode cX5_copyFrom 70 = .ok (.aload_n 0, 1) := by decide +kernel
theorem dX5_copyFrom_71 : decode cX5_copyFrom 71 = .ok (.getfield 30, 3) := by decide +kernel
theorem dX5_copyFrom_74 : decode cX5_copyFrom 74 = .ok (.invokestatic 49, 3) := by decide +kernel
theorem dX5_copyFrom_77 : decode cX5_copyFrom 77 = .ok (.aload_n 0, 1) := by decide +kernel
theorem dX5_copyFrom_78 : decode cX5_copyFrom 78 = .ok (.aload_n 1, 1) := by decide +kernel
theorem dX5_copyFrom_79 : decode cX5_copyFrom 79 = .ok (.getfield 33, 3) := by decide +kernel
theorem dX5_copyFrom_82 : decode cX5_copyFrom 82 = .ok (.putfield 33, 3) := by decide +kernel
theorem dX5_copyFrom_85 : decode cX5_copyFrom 85 = .ok (.aload_n 0, 1) := by decide +kernel
theorem dX5_copyFrom_86 : decode cX5_copyFrom 86 = .ok (.aload_n 1, 1) := by decide +kernel
theorem dX5_copyFrom_87 : decode cX5_copyFrom 87 = .ok (.getfield 37, 3) := by decide +kernel
theorem dX5_copyFrom_90 : decode cX5_copyFrom 90 = .ok (.putfield 37, 3) := by decide +kernel
theorem dX5_copyFrom_93 : decode cX5_copyFrom 93 = .ok (.aload_n 0, 1) := by decide +kernel
theorem dX5_copyFrom_94 : decode cX5_copyFrom 94 = .ok (.aload_n 1, 1) := by decide +kernel
theorem dX5_copyFrom_95 : decode cX5_copyFrom 95 = .ok (.getfield 40, 3) := by decide +kernel
theorem dX5_copyFrom_98 : decode cX5_copyFrom 98 = .ok (.putfield 40, 3) := by decide +kernel
theorem dX5_copyFrom_101 : decode cX5_copyFrom 101 = .ok (.aload_n 0, 1) := by decide +kernel
theorem dX5_copyFrom_102 : decode cX5_copyFrom 102 = .ok (.aload_n 1, 1) := by decide +kernel
theorem dX5_copyFrom_103 : decode cX5_copyFrom 103 = .ok (.getfield 43, 3) := by decide +kernel
theorem dX5_copyFrom_106 : decode cX5_copyFrom 106 = .ok (.putfield 43, 3) := by decide +kernel
theorem dX5_copyFrom_109 : decode cX5_copyFrom 109 = .ok (.aload_n 0, 1) := by decide +kernel
theorem dX5_copyFrom_110 : decode cX5_copyFrom 110 = .ok (.aload_n 1, 1) := by decide +kernel
theorem dX5_copyFrom_111 : decode cX5_copyFrom 111 = .ok (.getfield 46, 3) := by decide +kernel
theorem dX5_copyFrom_114 : decode cX5_copyFrom 114 = .ok (.putfield 46, 3) := by decide +kernel
theorem dX5_copyFrom_117 : decode cX5_copyFrom 117 = .ok (.return_, 1) := by decide +kernel
theorem dX5_has_0 : decode cX5_has 0 = .ok (.iload_n 1, 1) := by decide +kernel
theorem dX5_has_1 : decode cX5_has 1 = .ok (.ifCond .lt 21, 3) := by decide +kernel
theorem dX5_has_4 : decode cX5_has 4 = .ok (.iload_n 1, 1) := by decide +kernel
theorem dX5_has_5 : decode cX5_has 5 = .ok (.aload_n 0, 1) := by decide +kernel
theorem dX5_has_6 : decode cX5_has 6 = .ok (.getfield 33, 3) := by decide +kernel
theorem dX5_has_9 : decode cX5_has 9 = .ok (.if_icmp .ge 13, 3) := by decide +kernel
theorem dX5_has_12 : decode cX5_has 12 = .ok (.iload_n 1, 1) := by decide +kernel
theorem dX5_has_13 : decode cX5_has 13 = .ok (.bipush 6, 2) := by decide +kernel
theorem dX5_has_15 : decode cX5_has 15 = .ok (.if_icmp .ge 7, 3) := by decide +kernel
theorem dX5_has_18 : decode cX5_has 18 = .ok (.iconst 1, 1) := by decide +kernel
theorem dX5_has_19 : decode cX5_has 19 = .ok (.goto 4, 3) := by decide +kernel
theorem dX5_has_22 : decode cX5_has 22 = .ok (.iconst 0, 1) := by decide +kernel
theorem dX5_has_23 : decode cX5_has 23 = .ok (.ireturn, 1) := by decide +kernel
theorem dX5_standingOn_0 : decode cX5_standingOn 0 = .ok (.iconst 0, 1) := by decide +kernel
theorem dX5_standingOn_1 : decode cX5_standingOn 1 = .ok (.istore_n 2, 1) := by decide +kernel
theorem dX5_standingOn_2 : decode cX5_standingOn 2 = .ok (.iload_n 2, 1) := by decide +kernel
theorem dX5_standingOn_3 : decode cX5_standingOn 3 = .ok (.aload_n 0, 1) := by decide +kernel
theorem dX5_standingOn_4 : decode cX5_standingOn 4 = .ok (.getfield 33, 3) := by decide +kernel
theorem dX5_standingOn_7 : decode cX5_standingOn 7 = .ok (.if_icmp .ge 27, 3) := by decide +kernel
theorem dX5_standingOn_10 : decode cX5_standingOn 10 = .ok (.iload_n 2, 1) := by decide +kernel
theorem dX5_standingOn_11 : decode cX5_standingOn 11 = .ok (.bipush 6, 2) := by decide +kernel
theorem dX5_standingOn_13 : decode cX5_standingOn 13 = .ok (.if_icmp .ge 21, 3) := by decide +kernel
theorem dX5_standingOn_16 : decode cX5_standingOn 16 = .ok (.aload_n 0, 1) := by decide +kernel
theorem dX5_standingOn_17 : decode cX5_standingOn 17 = .ok (.getfield 9, 3) := by decide +kernel
theorem dX5_standingOn_20 : decode cX5_standingOn 20 = .ok (.iload_n 2, 1) := by decide +kernel
theorem dX5_standingOn_21 : decode cX5_standingOn 21 = .ok (.iaload, 1) := by decide +kernel
theorem dX5_standingOn_22 : decode cX5_standingOn 22 = .ok (.iload_n 1, 1) := by decide +kernel
theorem dX5_standingOn_23 : decode cX5_standingOn 23 = .ok (.if_icmp .ne 5, 3) := by decide +kernel
theorem dX5_standingOn_26 : decode cX5_standingOn 26 = .ok (.iload_n 2, 1) := by decide +kernel
theorem dX5_standingOn_27 : decode cX5_standingOn 27 = .ok (.ireturn, 1) := by decide +kernel
theorem dX5_standingOn_28 : decode cX5_standingOn 28 = .ok (.iinc 2 1, 3) := by decide +kernel
theorem dX5_standingOn_31 : decode cX5_standingOn 31 = .ok (.goto (-29), 3) := by decide +kernel
theorem dX5_standingOn_34 : decode cX5_standingOn 34 = .ok (.bipush (-5), 2) := by decide +kernel
theorem dX5_standingOn_36 : decode cX5_standingOn 36 = .ok (.ireturn, 1) := by decide +kernel
theorem dX5_welcome_0 : decode cX5_welcome 0 = .ok (.iload_n 1, 1) := by decide +kernel
theorem dX5_welcome_1 : decode cX5_welcome 1 = .ok (.invokestatic 53, 3) := by decide +kernel
theorem dX5_welcome_4 : decode cX5_welcome 4 = .ok (.ifCond .ne 5, 3) := by decide +kernel
theorem dX5_welcome_7 : decode cX5_welcome 7 = .ok (.iconst (-1), 1) := by decide +kernel
theorem dX5_welcome_8 : decode cX5_welcome 8 = .ok (.ireturn, 1) := by decide +kernel
theorem dX5_welcome_9 : decode cX5_welcome 9 = .ok (.iload_n 2, 1) := by decide +kernel
theorem dX5_welcome_10 : decode cX5_welcome 10 = .ok (.iconst 1, 1) := by decide +kernel
theorem dX5_welcome_11 : decode cX5_welcome 11 = .ok (.if_icmp .lt 8, 3) := by decide +kernel
theorem dX5_welcome_14 : decode cX5_welcome 14 = .ok (.iload_n 2, 1) := by decide +kernel
theorem dX5_welcome_15 : decode cX5_welcome 15 = .ok (.iconst 5, 1) := by decide +kernel
theorem dX5_welcome_16 : decode cX5_welcome 16 = .ok (.if_icmp .le 6, 3) := by decide +kernel
theorem dX5_welcome_19 : decode cX5_welcome 19 = .ok (.bipush (-2), 2) := by decide +kernel
theorem dX5_welcome_21 : decode cX5_welcome 21 = .ok (.ireturn, 1) := by decide +kernel
theorem dX5_welcome_22 : decode cX5_welcome 22 = .ok (.aload_n 0, 1) := by decide +kernel
theorem dX5_welcome_23 : decode cX5_welcome 23 = .ok (.iload_n 1, 1) := by decide +kernel
theorem dX5_welcome_24 : decode cX5_welcome 24 = .ok (.invokevirtual 57, 3) := by decide +kernel
theorem dX5_welcome_27 : decode cX5_welcome 27 = .ok (.bipush (-5), 2) := by decide +kernel
theorem dX5_welcome_29 : decode cX5_welcome 29 = .ok (.if_icmp .eq 6, 3) := by decide +kernel
theorem dX5_welcome_32 : decode cX5_welcome 32 = .ok (.bipush (-4), 2) := by decide +kernel
theorem dX5_welcome_34 : decode cX5_welcome 34 = .ok (.ireturn, 1) := by decide +kernel
theorem dX5_welcome_35 : decode cX5_welcome 35 = .ok (.aload_n 0, 1) := by decide +kernel
theorem dX5_welcome_36 : decode cX5_welcome 36 = .ok (.getfield 33, 3) := by decide +kernel
theorem dX5_welcome_39 : decode cX5_welcome 39 = .ok (.ifCond .lt 12, 3) := by decide +kernel
theorem dX5_welcome_42 : decode cX5_welcome 42 = .ok (.aload_n 0, 1) := by decide +kernel
theorem dX5_welcome_43 : decode cX5_welcome 43 = .ok (.getfield 33, 3) := by decide +kernel
theorem dX5_welcome_46 : decode cX5_welcome 46 = .ok (.bipush 6, 2) := by decide +kernel
theorem dX5_welcome_48 : decode cX5_welcome 48 = .ok (.if_icmp .lt 6, 3) := by decide +kernel
theorem dX5_welcome_51 : decode cX5_welcome 51 = .ok (.bipush (-3), 2) := by decide +kernel
theorem dX5_welcome_53 : decode cX5_welcome 53 = .ok (.ireturn, 1) := by decide +kernel
theorem dX5_welcome_54 : decode cX5_welcome 54 = .ok (.aload_n 0, 1) := by decide +kernel
theorem dX5_welcome_55 : decode cX5_welcome 55 = .ok (.getfield 33, 3) := by decide +kernel
theorem dX5_welcome_58 : decode cX5_welcome 58 = .ok (.istore_n 3, 1) := by decide +kernel
theorem dX5_welcome_59 : decode cX5_welcome 59 = .ok (.aload_n 0, 1) := by decide +kernel
theorem dX5_welcome_60 : decode cX5_welcome 60 = .ok (.getfield 9, 3) := by decide +kernel
theorem dX5_welcome_63 : decode cX5_welcome 63 = .ok (.iload_n 3, 1) := by decide +kernel
theorem dX5_welcome_64 : decode cX5_welcome 64 = .ok (.iload_n 1, 1) := by decide +kernel
theorem dX5_welcome_65 : decode cX5_welcome 65 = .ok (.iastore, 1) := by decide +kernel
theorem dX5_welcome_66 : decode cX5_welcome 66 = .ok (.aload_n 0, 1) := by decide +kernel
theorem dX5_welcome_67 : decode cX5_welcome 67 = .ok (.getfield 15, 3) := by decide +kernel
theorem dX5_welcome_70 : decode cX5_welcome 70 = .ok (.iload_n 3, 1) := by decide +kernel
theorem dX5_welcome_71 : decode cX5_welcome 71 = .ok (.iload_n 2, 1) := by decide +kernel
theorem dX5_welcome_72 : decode cX5_welcome 72 = .ok (.iastore, 1) := by decide +kernel
theorem dX5_welcome_73 : decode cX5_welcome 73 = .ok (.aload_n 0, 1) := by decide +kernel
theorem dX5_welcome_74 : decode cX5_welcome 74 = .ok (.getfield 18, 3) := by decide +kernel
theorem dX5_welcome_77 : decode cX5_welcome 77 = .ok (.iload_n 3, 1) := by decide +kernel
theorem dX5_welcome_78 : decode cX5_welcome 78 = .ok (.iconst 4, 1) := by decide +kernel
theorem dX5_welcome_79 : decode cX5_welcome 79 = .ok (.iastore, 1) := by decide +kernel
theorem dX5_welcome_80 : decode cX5_welcome 80 = .ok (.aload_n 0, 1) := by decide +kernel
theorem dX5_welcome_81 : decode cX5_welcome 81 = .ok (.getfield 21, 3) := by decide +kernel
theorem dX5_welcome_84 : decode cX5_welcome 84 = .ok (.iload_n 3, 1) := by decide +kernel
theorem dX5_welcome_85 : decode cX5_welcome 85 = .ok (.iconst 0, 1) := by decide +kernel
theorem dX5_welcome_86 : decode cX5_welcome 86 = .ok (.iastore, 1) := by decide +kernel
theorem dX5_welcome_87 : decode cX5_welcome 87 = .ok (.aload_n 0, 1) := by decide +kernel
theorem dX5_welcome_88 : decode cX5_welcome 88 = .ok (.getfield 24, 3) := by decide +kernel
theorem dX5_welcome_91 : decode cX5_welcome 91 = .ok (.iload_n 3, 1) := by decide +kernel
theorem dX5_welcome_92 : decode cX5_welcome 92 = .ok (.iconst 0, 1) := by decide +kernel
theorem dX5_welcome_93 : decode cX5_welcome 93 = .ok (.iastore, 1) := by decide +kernel
theorem dX5_welcome_94 : decode cX5_welcome 94 = .ok (.aload_n 0, 1) := by decide +kernel
theorem dX5_welcome_95 : decode cX5_welcome 95 = .ok (.getfield 27, 3) := by decide +kernel
theorem dX5_welcome_98 : decode cX5_welcome 98 = .ok (.iload_n 3, 1) := by decide +kernel
theorem dX5_welcome_99 : decode cX5_welcome 99 = .ok (.iconst 0, 1) := by decide +kernel
theorem dX5_welcome_100 : decode cX5_welcome 100 = .ok (.iastore, 1) := by decide +kernel
theorem dX5_welcome_101 : decode cX5_welcome 101 = .ok (.aload_n 0, 1) := by decide +kernel
theorem dX5_welcome_102 : decode cX5_welcome 102 = .ok (.getfield 30, 3) := by decide +kernel
theorem dX5_welcome_105 : decode cX5_welcome 105 = .ok (.iload_n 3, 1) := by decide +kernel
theorem dX5_welcome_106 : decode cX5_welcome 106 = .ok (.iconst 0, 1) := by decide +kernel
theorem dX5_welcome_107 : decode cX5_welcome 107 = .ok (.iastore, 1) := by decide +kernel
theorem dX5_welcome_108 : decode cX5_welcome 108 = .ok (.aload_n 0, 1) := by decide +kernel
theorem dX5_welcome_109 : decode cX5_welcome 109 = .ok (.dup, 1) := by decide +kernel
theorem dX5_welcome_110 : decode cX5_welcome 110 = .ok (.getfield 33, 3) := by decide +kernel
theorem dX5_welcome_113 : decode cX5_welcome 113 = .ok (.iconst 1, 1) := by decide +kernel
theorem dX5_welcome_114 : decode cX5_welcome 114 = .ok (.iadd, 1) := by decide +kernel
theorem dX5_welcome_115 : decode cX5_welcome 115 = .ok (.putfield 33, 3) := by decide +kernel
theorem dX5_welcome_118 : decode cX5_welcome 118 = .ok (.aload_n 0, 1) := by decide +kernel
theorem dX5_welcome_119 : decode cX5_welcome 119 = .ok (.aload_n 0, 1) := by decide +kernel
theorem dX5_welcome_120 : decode cX5_welcome 120 = .ok (.getfield 37, 3) := by decide +kernel
theorem dX5_welcome_123 : decode cX5_welcome 123 = .ok (.bipush (-5), 2) := by decide +kernel
theorem dX5_welcome_125 : decode cX5_welcome 125 = .ok (.if_icmp .ne 7, 3) := by decide +kernel
theorem dX5_welcome_128 : decode cX5_welcome 128 = .ok (.iload_n 3, 1) := by decide +kernel
theorem dX5_welcome_129 : decode cX5_welcome 129 = .ok (.goto 7, 3) := by decide +kernel
theorem dX5_welcome_132 : decode cX5_welcome 132 = .ok (.aload_n 0, 1) := by decide +kernel
theorem dX5_welcome_133 : decode cX5_welcome 133 = .ok (.getfield 37, 3) := by decide +kernel
theorem dX5_welcome_136 : decode cX5_welcome 136 = .ok (.putfield 37, 3) := by decide +kernel
theorem dX5_welcome_139 : decode cX5_welcome 139 = .ok (.iload_n 3, 1) := by decide +kernel
theorem dX5_welcome_140 : decode cX5_welcome 140 = .ok (.ireturn, 1) := by decide +kernel
theorem dX5_steer_0 : decode cX5_steer 0 = .ok (.aload_n 0, 1) := by decide +kernel
theorem dX5_steer_1 : decode cX5_steer 1 = .ok (.iload_n 1, 1) := by decide +kernel
theorem dX5_steer_2 : decode cX5_steer 2 = .ok (.invokevirtual 61, 3) := by decide +kernel
theorem dX5_steer_5 : decode cX5_steer 5 = .ok (.ifCond .ne 5, 3) := by decide +kernel
theorem dX5_steer_8 : decode cX5_steer 8 = .ok (.iconst (-1), 1) := by decide +kernel
theorem dX5_steer_9 : decode cX5_steer 9 = .ok (.ireturn, 1) := by decide +kernel
theorem dX5_steer_10 : decode cX5_steer 10 = .ok (.iload_n 2, 1) := by decide +kernel
theorem dX5_steer_11 : decode cX5_steer 11 = .ok (.iconst (-1), 1) := by decide +kernel
theorem dX5_steer_12 : decode cX5_steer 12 = .ok (.if_icmp .lt 8, 3) := by decide +kernel
theorem dX5_steer_15 : decode cX5_steer 15 = .ok (.iload_n 2, 1) := by decide +kernel
theorem dX5_steer_16 : decode cX5_steer 16 = .ok (.iconst 4, 1) := by decide +kernel
theorem dX5_steer_17 : decode cX5_steer 17 = .ok (.if_icmp .lt 6, 3) := by decide +kernel
theorem dX5_steer_20 : decode cX5_steer 20 = .ok (.bipush (-2), 2) := by decide +kernel
theorem dX5_steer_22 : decode cX5_steer 22 = .ok (.ireturn, 1) := by decide +kernel
theorem dX5_steer_23 : decode cX5_steer 23 = .ok (.aload_n 0, 1) := by decide +kernel
theorem dX5_steer_24 : decode cX5_steer 24 = .ok (.getfield 18, 3) := by decide +kernel
theorem dX5_steer_27 : decode cX5_steer 27 = .ok (.iload_n 1, 1) := by decide +kernel
theorem dX5_steer_28 : decode cX5_steer 28 = .ok (.iload_n 2, 1) := by decide +kernel
theorem dX5_steer_29 : decode cX5_steer 29 = .ok (.iconst (-1), 1) := by decide +kernel
theorem dX5_steer_30 : decode cX5_steer 30 = .ok (.if_icmp .ne 7, 3) := by decide +kernel
theorem dX5_steer_33 : decode cX5_steer 33 = .ok (.iconst 4, 1) := by decide +kernel
theorem dX5_steer_34 : decode cX5_steer 34 = .ok (.goto 4, 3) := by decide +kernel
theorem dX5_steer_37 : decode cX5_steer 37 = .ok (.iload_n 2, 1) := by decide +kernel
theorem dX5_steer_38 : decode cX5_steer 38 = .ok (.iconst 0, 1) := by decide +kernel
theorem dX5_steer_39 : decode cX5_steer 39 = .ok (.iconst 4, 1) := by decide +kernel
theorem dX5_steer_40 : decode cX5_steer 40 = .ok (.invokestatic 64, 3) := by decide +kernel
theorem dX5_steer_43 : decode cX5_steer 43 = .ok (.ireturn, 1) := by decide +kernel
theorem dX5_stepAll_0 : decode cX5_stepAll 0 = .ok (.iconst 0, 1) := by decide +kernel
theorem dX5_stepAll_1 : decode cX5_stepAll 1 = .ok (.istore_n 1, 1) := by decide +kernel
theorem dX5_stepAll_2 : decode cX5_stepAll 2 = .ok (.iload_n 1, 1) := by decide +kernel
theorem dX5_stepAll_3 : decode cX5_stepAll 3 = .ok (.aload_n 0, 1) := by decide +kernel
theorem dX5_stepAll_4 : decode cX5_stepAll 4 = .ok (.getfield 33, 3) := by decide +kernel
theorem dX5_stepAll_7 : decode cX5_stepAll 7 = .ok (.if_icmp .ge 14, 3) := by decide +kernel
theorem dX5_stepAll_10 : decode cX5_stepAll 10 = .ok (.aload_n 0, 1) := by decide +kernel
theorem dX5_stepAll_11 : decode cX5_stepAll 11 = .ok (.iload_n 1, 1) := by decide +kernel
theorem dX5_stepAll_12 : decode cX5_stepAll 12 = .ok (.invokevirtual 68, 3) := by decide +kernel
theorem dX5_stepAll_15 : decode cX5_stepAll 15 = .ok (.iinc 1 1, 3) := by decide +kernel
theorem dX5_stepAll_18 : decode cX5_stepAll 18 = .ok (.goto (-16), 3) := by decide +kernel
theorem dX5_stepAll_21 : decode cX5_stepAll 21 = .ok (.return_, 1) := by decide +kernel
theorem dX5_step_0 : decode cX5_step 0 = .ok (.aload_n 0, 1) := by decide +kernel
theorem dX5_step_1 : decode cX5_step 1 = .ok (.iload_n 1, 1) := by decide +kernel
theorem dX5_step_2 : decode cX5_step 2 = .ok (.invokevirtual 61, 3) := by decide +kernel
theorem dX5_step_5 : decode cX5_step 5 = .ok (.ifCond .eq 13, 3) := by decide +kernel
theorem dX5_step_8 : decode cX5_step 8 = .ok (.aload_n 0, 1) := by decide +kernel
theorem dX5_step_9 : decode cX5_step 9 = .ok (.getfield 18, 3) := by decide +kernel
theorem dX5_step_12 : decode cX5_step 12 = .ok (.iload_n 1, 1) := by decide +kernel
theorem dX5_step_13 : decode cX5_step 13 = .ok (.iaload, 1) := by decide +kernel
theorem dX5_step_14 : decode cX5_step 14 = .ok (.iconst 4, 1) := by decide +kernel
theorem dX5_step_15 : decode cX5_step 15 = .ok (.if_icmp .ne 4, 3) := by decide +kernel
theorem dX5_step_18 : decode cX5_step 18 = .ok (.return_, 1) := by decide +kernel
theorem dX5_step_19 : decode cX5_step 19 = .ok (.aload_n 0, 1) := by decide +kernel
theorem dX5_step_20 : decode cX5_step 20 = .ok (.getfield 9, 3) := by decide +kernel
theorem dX5_step_23 : decode cX5_step 23 = .ok (.iload_n 1, 1) := by decide +kernel
theorem dX5_step_24 : decode cX5_step 24 = .ok (.iaload, 1) := by decide +kernel
theorem dX5_step_25 : decode cX5_step 25 = .ok (.istore_n 2, 1) := by decide +kernel
theorem dX5_step_26 : decode cX5_step 26 = .ok (.aload_n 0, 1) := by decide +kernel
theorem dX5_step_27 : decode cX5_step 27 = .ok (.getfield 18, 3) := by decide +kernel
theorem dX5_step_30 : decode cX5_step 30 = .ok (.iload_n 1, 1) := by decide +kernel
theorem dX5_step_31 : decode cX5_step 31 = .ok (.iaload, 1) := by decide +kernel
theorem dX5_step_32 : decode cX5_step 32 = .ok (.istore_n 3, 1) := by decide +kernel
theorem dX5_step_33 : decode cX5_step 33 = .ok (.iload_n 2, 1) := by decide +kernel
theorem dX5_step_34 : decode cX5_step 34 = .ok (.iload_n 3, 1) := by decide +kernel
theorem dX5_step_35 : decode cX5_step 35 = .ok (.iconst 1, 1) := by decide +kernel
theorem dX5_step_36 : decode cX5_step 36 = .ok (.invokestatic 72, 3) := by decide +kernel
theorem dX5_step_39 : decode cX5_step 39 = .ok (.istore 4, 2) := by decide +kernel
theorem dX5_step_41 : decode cX5_step 41 = .ok (.iload_n 2, 1) := by decide +kernel
theorem dX5_step_42 : decode cX5_step 42 = .ok (.iload_n 3, 1) := by decide +kernel
theorem dX5_step_43 : decode cX5_step 43 = .ok (.invokestatic 76, 3) := by decide +kernel
theorem dX5_step_46 : decode cX5_step 46 = .ok (.ifCond .eq 14, 3) := by decide +kernel
theorem dX5_step_49 : decode cX5_step 49 = .ok (.aload_n 0, 1) := by decide +kernel
theorem dX5_step_50 : decode cX5_step 50 = .ok (.iload 4, 2) := by decide +kernel
theorem dX5_step_52 : decode cX5_step 52 = .ok (.invokevirtual 57, 3) := by decide +kernel
theorem dX5_step_55 : decode cX5_step 55 = .ok (.bipush (-5), 2) := by decide +kernel
theorem dX5_step_57 : decode cX5_step 57 = .ok (.if_icmp .eq 16, 3) := by decide +kernel
theorem dX5_step_60 : decode cX5_step 60 = .ok (.aload_n 0, 1) := by decide +kernel
theorem dX5_step_61 : decode cX5_step 61 = .ok (.dup, 1) := by decide +kernel
theorem dX5_step_62 : decode cX5_step 62 = .ok (.getfield 46, 3) := by decide +kernel
theorem dX5_step_65 : decode cX5_step 65 = .ok (.iconst 1, 1) := by decide +kernel
theorem dX5_step_66 : decode cX5_step 66 = .ok (.iadd, 1) := by decide +kernel
theorem dX5_step_67 : decode cX5_step 67 = .ok (.putfield 46, 3) := by decide +kernel
theorem dX5_step_70 : decode cX5_step 70 = .ok (.goto 21, 3) := by decide +kernel
theorem dX5_step_73 : decode cX5_step 73 = .ok (.aload_n 0, 1) := by decide +kernel
theorem dX5_step_74 : decode cX5_step 74 = .ok (.getfield 9, 3) := by decide +kernel
theorem dX5_step_77 : decode cX5_step 77 = .ok (.iload_n 1, 1) := by decide +kernel
theorem dX5_step_78 : decode cX5_step 78 = .ok (.iload 4, 2) := by decide +kernel
theorem dX5_step_80 : decode cX5_step 80 = .ok (.iastore, 1) := by decide +kernel
theorem dX5_step_81 : decode cX5_step 81 = .ok (.aload_n 0, 1) := by decide +kernel
theorem dX5_step_82 : decode cX5_step 82 = .ok (.dup, 1) := by decide +kernel
theorem dX5_step_83 : decode cX5_step 83 = .ok (.getfield 43, 3) := by decide +kernel
theorem dX5_step_86 : decode cX5_step 86 = .ok (.iconst 1, 1) := by decide +kernel
theorem dX5_step_87 : decode cX5_step 87 = .ok (.iadd, 1) := by decide +kernel
theorem dX5_step_88 : decode cX5_step 88 = .ok (.putfield 43, 3) := by decide +kernel
theorem dX5_step_91 : decode cX5_step 91 = .ok (.return_, 1) := by decide +kernel
theorem dX5_handOver_0 : decode cX5_handOver 0 = .ok (.aload_n 0, 1) := by decide +kernel
theorem dX5_handOver_1 : decode cX5_handOver 1 = .ok (.iload_n 1, 1) := by decide +kernel
theorem dX5_handOver_2 : decode cX5_handOver 2 = .ok (.invokevirtual 61, 3) := by decide +kernel
theorem dX5_handOver_5 : decode cX5_handOver 5 = .ok (.ifCond .eq 14, 3) := by decide +kernel
theorem dX5_handOver_8 : decode cX5_handOver 8 = .ok (.aload_n 0, 1) := by decide +kernel
theorem dX5_handOver_9 : decode cX5_handOver 9 = .ok (.aload_n 0, 1) := by decide +kernel
theorem dX5_handOver_10 : decode cX5_handOver 10 = .ok (.getfield 37, 3) := by decide +kernel
theorem dX5_handOver_13 : decode cX5_handOver 13 = .ok (.invokevirtual 61, 3) := by decide +kernel
theorem dX5_handOver_16 : decode cX5_handOver 16 = .ok (.ifCond .ne 4, 3) := by decide +kernel
theorem dX5_handOver_19 : decode cX5_handOver 19 = .ok (.return_, 1) := by decide +kernel
theorem dX5_handOver_20 : decode cX5_handOver 20 = .ok (.aload_n 0, 1) := by decide +kernel
theorem dX5_handOver_21 : decode cX5_handOver 21 = .ok (.getfield 24, 3) := by decide +kernel
theorem dX5_handOver_24 : decode cX5_handOver 24 = .ok (.iload_n 1, 1) := by decide +kernel
theorem dX5_handOver_25 : decode cX5_handOver 25 = .ok (.dup2, 1) := by decide +kernel
theorem dX5_handOver_26 : decode cX5_handOver 26 = .ok (.iaload, 1) := by decide +kernel
theorem dX5_handOver_27 : decode cX5_handOver 27 = .ok (.iconst 1, 1) := by decide +kernel
theorem dX5_handOver_28 : decode cX5_handOver 28 = .ok (.iadd, 1) := by decide +kernel
theorem dX5_handOver_29 : decode cX5_handOver 29 = .ok (.iastore, 1) := by decide +kernel
theorem dX5_handOver_30 : decode cX5_handOver 30 = .ok (.aload_n 0, 1) := by decide +kernel
theorem dX5_handOver_31 : decode cX5_handOver 31 = .ok (.getfield 27, 3) := by decide +kernel
theorem dX5_handOver_34 : decode cX5_handOver 34 = .ok (.aload_n 0, 1) := by decide +kernel
theorem dX5_handOver_35 : decode cX5_handOver 35 = .ok (.getfield 37, 3) := by decide +kernel
theorem dX5_handOver_38 : decode cX5_handOver 38 = .ok (.dup2, 1) := by decide +kernel
theorem dX5_handOver_39 : decode cX5_handOver 39 = .ok (.iaload, 1) := by decide +kernel
theorem dX5_handOver_40 : decode cX5_handOver 40 = .ok (.iconst 1, 1) := by decide +kernel
theorem dX5_handOver_41 : decode cX5_handOver 41 = .ok (.iadd, 1) := by decide +kernel
theorem dX5_handOver_42 : decode cX5_handOver 42 = .ok (.iastore, 1) := by decide +kernel
theorem dX5_handOver_43 : decode cX5_handOver 43 = .ok (.aload_n 0, 1) := by decide +kernel
theorem dX5_handOver_44 : decode cX5_handOver 44 = .ok (.getfield 21, 3) := by decide +kernel
theorem dX5_handOver_47 : decode cX5_handOver 47 = .ok (.aload_n 0, 1) := by decide +kernel
theorem dX5_handOver_48 : decode cX5_handOver 48 = .ok (.getfield 37, 3) := by decide +kernel
theorem dX5_handOver_51 : decode cX5_handOver 51 = .ok (.iload_n 2, 1) := by decide +kernel
theorem dX5_handOver_52 : decode cX5_handOver 52 = .ok (.iastore, 1) := by decide +kernel
theorem dX5_handOver_53 : decode cX5_handOver 53 = .ok (.aload_n 0, 1) := by decide +kernel
theorem dX5_handOver_54 : decode cX5_handOver 54 = .ok (.iload_n 1, 1) := by decide +kernel
theorem dX5_handOver_55 : decode cX5_handOver 55 = .ok (.putfield 37, 3) := by decide +kernel
theorem dX5_handOver_58 : decode cX5_handOver 58 = .ok (.aload_n 0, 1) := by decide +kernel
theorem dX5_handOver_59 : decode cX5_handOver 59 = .ok (.dup, 1) := by decide +kernel
theorem dX5_handOver_60 : decode cX5_handOver 60 = .ok (.getfield 40, 3) := by decide +kernel
theorem dX5_handOver_63 : decode cX5_handOver 63 = .ok (.iconst 1, 1) := by decide +kernel
theorem dX5_handOver_64 : decode cX5_handOver 64 = .ok (.iadd, 1) := by decide +kernel
theorem dX5_handOver_65 : decode cX5_handOver 65 = .ok (.putfield 40, 3) := by decide +kernel
theorem dX5_handOver_68 : decode cX5_handOver 68 = .ok (.return_, 1) := by decide +kernel
theorem dX5_shortenRespites_0 : decode cX5_shortenRespites 0 = .ok (.iconst 0, 1) := by decide +kernel
theorem dX5_shortenRespites_1 : decode cX5_shortenRespites 1 = .ok (.istore_n 1, 1) := by decide +kernel
theorem dX5_shortenRespites_2 : decode cX5_shortenRespites 2 = .ok (.iload_n 1, 1) := by decide +kernel
theorem dX5_shortenRespites_3 : decode cX5_shortenRespites 3 = .ok (.aload_n 0, 1) := by decide +kernel
theorem dX5_shortenRespites_4 : decode cX5_shortenRespites 4 = .ok (.getfield 33, 3) := by decide +kernel
theorem dX5_shortenRespites_7 : decode cX5_shortenRespites 7 = .ok (.if_icmp .ge 34, 3) := by decide +kernel
theorem dX5_shortenRespites_10 : decode cX5_shortenRespites 10 = .ok (.iload_n 1, 1) := by decide +kernel
theorem dX5_shortenRespites_11 : decode cX5_shortenRespites 11 = .ok (.bipush 6, 2) := by decide +kernel
theorem dX5_shortenRespites_13 : decode cX5_shortenRespites 13 = .ok (.if_icmp .ge 28, 3) := by decide +kernel
theorem dX5_shortenRespites_16 : decode cX5_shortenRespites 16 = .ok (.aload_n 0, 1) := by decide +kernel
theorem dX5_shortenRespites_17 : decode cX5_shortenRespites 17 = .ok (.getfield 21, 3) := by decide +kernel
theorem dX5_shortenRespites_20 : decode cX5_shortenRespites 20 = .ok (.iload_n 1, 1) := by decide +kernel
theorem dX5_shortenRespites_21 : decode cX5_shortenRespites 21 = .ok (.iaload, 1) := by decide +kernel
theorem dX5_shortenRespites_22 : decode cX5_shortenRespites 22 = .ok (.ifCond .le 13, 3) := by decide +kernel
theorem dX5_shortenRespites_25 : decode cX5_shortenRespites 25 = .ok (.aload_n 0, 1) := by decide +kernel
theorem dX5_shortenRespites_26 : decode cX5_shortenRespites 26 = .ok (.getfield 21, 3) := by decide +kernel
theorem dX5_shortenRespites_29 : decode cX5_shortenRespites 29 = .ok (.iload_n 1, 1) := by decide +kernel
theorem dX5_shortenRespites_30 : decode cX5_shortenRespites 30 = .ok (.dup2, 1) := by decide +kernel
theorem dX5_shortenRespites_31 : decode cX5_shortenRespites 31 = .ok (.iaload, 1) := by decide +kernel
theorem dX5_shortenRespites_32 : decode cX5_shortenRespites 32 = .ok (.iconst 1, 1) := by decide +kernel
theorem dX5_shortenRespites_33 : decode cX5_shortenRespites 33 = .ok (.isub, 1) := by decide +kernel
theorem dX5_shortenRespites_34 : decode cX5_shortenRespites 34 = .ok (.iastore, 1) := by decide +kernel
theorem dX5_shortenRespites_35 : decode cX5_shortenRespites 35 = .ok (.iinc 1 1, 3) := by decide +kernel
theorem dX5_shortenRespites_38 : decode cX5_shortenRespites 38 = .ok (.goto (-36), 3) := by decide +kernel
theorem dX5_shortenRespites_41 : decode cX5_shortenRespites 41 = .ok (.return_, 1) := by decide +kernel
theorem dX5_addToAccounts_0 : decode cX5_addToAccounts 0 = .ok (.iconst 0, 1) := by decide +kernel
theorem dX5_addToAccounts_1 : decode cX5_addToAccounts 1 = .ok (.istore_n 1, 1) := by decide +kernel
theorem dX5_addToAccounts_2 : decode cX5_addToAccounts 2 = .ok (.iload_n 1, 1) := by decide +kernel
theorem dX5_addToAccounts_3 : decode cX5_addToAccounts 3 = .ok (.aload_n 0, 1) := by decide +kernel
theorem dX5_addToAccounts_4 : decode cX5_addToAccounts 4 = .ok (.getfield 33, 3) := by decide +kernel
theorem dX5_addToAccounts_7 : decode cX5_addToAccounts 7 = .ok (.if_icmp .ge 33, 3) := by decide +kernel
theorem dX5_addToAccounts_10 : decode cX5_addToAccounts 10 = .ok (.iload_n 1, 1) := by decide +kernel
theorem dX5_addToAccounts_11 : decode cX5_addToAccounts 11 = .ok (.bipush 6, 2) := by decide +kernel
theorem dX5_addToAccounts_13 : decode cX5_addToAccounts 13 = .ok (.if_icmp .ge 27, 3) := by decide +kernel
theorem dX5_addToAccounts_16 : decode cX5_addToAccounts 16 = .ok (.iload_n 1, 1) := by decide +kernel
theorem dX5_addToAccounts_17 : decode cX5_addToAccounts 17 = .ok (.aload_n 0, 1) := by decide +kernel
theorem dX5_addToAccounts_18 : decode cX5_addToAccounts 18 = .ok (.getfield 37, 3) := by decide +kernel
theorem dX5_addToAccounts_21 : decode cX5_addToAccounts 21 = .ok (.if_icmp .eq 13, 3) := by decide +kernel
theorem dX5_addToAccounts_24 : decode cX5_addToAccounts 24 = .ok (.aload_n 0, 1) := by decide +kernel
theorem dX5_addToAccounts_25 : decode cX5_addToAccounts 25 = .ok (.getfield 30, 3) := by decide +kernel
theorem dX5_addToAccounts_28 : decode cX5_addToAccounts 28 = .ok (.iload_n 1, 1) := by decide +kernel
theorem dX5_addToAccounts_29 : decode cX5_addToAccounts 29 = .ok (.dup2, 1) := by decide +kernel
theorem dX5_addToAccounts_30 : decode cX5_addToAccounts 30 = .ok (.iaload, 1) := by decide +kernel
theorem dX5_addToAccounts_31 : decode cX5_addToAccounts 31 = .ok (.iconst 1, 1) := by decide +kernel
theorem dX5_addToAccounts_32 : decode cX5_addToAccounts 32 = .ok (.iadd, 1) := by decide +kernel
theorem dX5_addToAccounts_33 : decode cX5_addToAccounts 33 = .ok (.iastore, 1) := by decide +kernel
theorem dX5_addToAccounts_34 : decode cX5_addToAccounts 34 = .ok (.iinc 1 1, 3) := by decide +kernel
theorem dX5_addToAccounts_37 : decode cX5_addToAccounts 37 = .ok (.goto (-35), 3) := by decide +kernel
theorem dX5_addToAccounts_40 : decode cX5_addToAccounts 40 = .ok (.return_, 1) := by decide +kernel
theorem dX5_spin_0 : decode cX5_spin 0 = .ok (.iconst 0, 1) := by decide +kernel
theorem dX5_spin_1 : decode cX5_spin 1 = .ok (.istore_n 1, 1) := by decide +kernel
theorem dX5_spin_2 : decode cX5_spin 2 = .ok (.iload_n 1, 1) := by decide +kernel
theorem dX5_spin_3 : decode cX5_spin 3 = .ok (.aload_n 0, 1) := by decide +kernel
theorem dX5_spin_4 : decode cX5_spin 4 = .ok (.getfield 33, 3) := by decide +kernel
theorem dX5_spin_7 : decode cX5_spin 7 = .ok (.if_icmp .ge 78, 3) := by decide +kernel
theorem dX5_spin_10 : decode cX5_spin 10 = .ok (.iload_n 1, 1) := by decide +kernel
theorem dX5_spin_11 : decode cX5_spin 11 = .ok (.bipush 6, 2) := by decide +kernel
theorem dX5_spin_13 : decode cX5_spin 13 = .ok (.if_icmp .ge 72, 3) := by decide +kernel
theorem dX5_spin_16 : decode cX5_spin 16 = .ok (.aload_n 0, 1) := by decide +kernel
theorem dX5_spin_17 : decode cX5_spin 17 = .ok (.getfield 9, 3) := by decide +kernel
theorem dX5_spin_20 : decode cX5_spin 20 = .ok (.iload_n 1, 1) := by decide +kernel
theorem dX5_spin_21 : decode cX5_spin 21 = .ok (.iaload, 1) := by decide +kernel
theorem dX5_spin_22 : decode cX5_spin 22 = .ok (.bipush 10, 2) := by decide +kernel
theorem dX5_spin_24 : decode cX5_spin 24 = .ok (.idiv, 1) := by decide +kernel
theorem dX5_spin_25 : decode cX5_spin 25 = .ok (.istore_n 2, 1) := by decide +kernel
theorem dX5_spin_26 : decode cX5_spin 26 = .ok (.aload_n 0, 1) := by decide +kernel
theorem dX5_spin_27 : decode cX5_spin 27 = .ok (.getfield 9, 3) := by decide +kernel
theorem dX5_spin_30 : decode cX5_spin 30 = .ok (.iload_n 1, 1) := by decide +kernel
theorem dX5_spin_31 : decode cX5_spin 31 = .ok (.iaload, 1) := by decide +kernel
theorem dX5_spin_32 : decode cX5_spin 32 = .ok (.bipush 10, 2) := by decide +kernel
theorem dX5_spin_34 : decode cX5_spin 34 = .ok (.irem, 1) := by decide +kernel
theorem dX5_spin_35 : decode cX5_spin 35 = .ok (.istore_n 3, 1) := by decide +kernel
theorem dX5_spin_36 : decode cX5_spin 36 = .ok (.aload_n 0, 1) := by decide +kernel
theorem dX5_spin_37 : decode cX5_spin 37 = .ok (.getfield 9, 3) := by decide +kernel
theorem dX5_spin_40 : decode cX5_spin 40 = .ok (.iload_n 1, 1) := by decide +kernel
theorem dX5_spin_41 : decode cX5_spin 41 = .ok (.iload_n 3, 1) := by decide +kernel
theorem dX5_spin_42 : decode cX5_spin 42 = .ok (.bipush 10, 2) := by decide +kernel
theorem dX5_spin_44 : decode cX5_spin 44 = .ok (.imul, 1) := by decide +kernel
theorem dX5_spin_45 : decode cX5_spin 45 = .ok (.bipush 10, 2) := by decide +kernel
theorem dX5_spin_47 : decode cX5_spin 47 = .ok (.iadd, 1) := by decide +kernel
theorem dX5_spin_48 : decode cX5_spin 48 = .ok (.iconst 1, 1) := by decide +kernel
theorem dX5_spin_49 : decode cX5_spin 49 = .ok (.isub, 1) := by decide +kernel
theorem dX5_spin_50 : decode cX5_spin 50 = .ok (.iload_n 2, 1) := by decide +kernel
theorem dX5_spin_51 : decode cX5_spin 51 = .ok (.isub, 1) := by decide +kernel
theorem dX5_spin_52 : decode cX5_spin 52 = .ok (.iastore, 1) := by decide +kernel
theorem dX5_spin_53 : decode cX5_spin 53 = .ok (.aload_n 0, 1) := by decide +kernel
theorem dX5_spin_54 : decode cX5_spin 54 = .ok (.getfield 18, 3) := by decide +kernel
theorem dX5_spin_57 : decode cX5_spin 57 = .ok (.iload_n 1, 1) := by decide +kernel
theorem dX5_spin_58 : decode cX5_spin 58 = .ok (.iaload, 1) := by decide +kernel
theorem dX5_spin_59 : decode cX5_spin 59 = .ok (.iconst 4, 1) := by decide +kernel
theorem dX5_spin_60 : decode cX5_spin 60 = .ok (.if_icmp .eq 19, 3) := by decide +kernel
theorem dX5_spin_63 : decode cX5_spin 63 = .ok (.aload_n 0, 1) := by decide +kernel
theorem dX5_spin_64 : decode cX5_spin 64 = .ok (.getfield 18, 3) := by decide +kernel
theorem dX5_spin_67 : decode cX5_spin 67 = .ok (.iload_n 1, 1) := by decide +kernel
theorem dX5_spin_68 : decode cX5_spin 68 = .ok (.aload_n 0, 1) := by decide +kernel
theorem dX5_spin_69 : decode cX5_spin 69 = .ok (.getfield 18, 3) := by decide +kernel
theorem dX5_spin_72 : decode cX5_spin 72 = .ok (.iload_n 1, 1) := by decide +kernel
theorem dX5_spin_73 : decode cX5_spin 73 = .ok (.iaload, 1) := by decide +kernel
theorem dX5_spin_74 : decode cX5_spin 74 = .ok (.iconst 1, 1) := by decide +kernel
theorem dX5_spin_75 : decode cX5_spin 75 = .ok (.iadd, 1) := by decide +kernel
theorem dX5_spin_76 : decode cX5_spin 76 = .ok (.iconst 4, 1) := by decide +kernel
theorem dX5_spin_77 : decode cX5_spin 77 = .ok (.irem, 1) := by decide +kernel
theorem dX5_spin_78 : decode cX5_spin 78 = .ok (.iastore, 1) := by decide +kernel
theorem dX5_spin_79 : decode cX5_spin 79 = .ok (.iinc 1 1, 3) := by decide +kernel
theorem dX5_spin_82 : decode cX5_spin 82 = .ok (.goto (-80), 3) := by decide +kernel
theorem dX5_spin_85 : decode cX5_spin 85 = .ok (.return_, 1) := by decide +kernel
theorem dX6_init_0 : decode cX6_init 0 = .ok (.aload_n 0, 1) := by decide +kernel
theorem dX6_init_1 : decode cX6_init 1 = .ok (.invokespecial 3, 3) := by decide +kernel
theorem dX6_init_4 : decode cX6_init 4 = .ok (.aload_n 0, 1) := by decide +kernel
theorem dX6_init_5 : decode cX6_init 5 = .ok (.new 9, 3) := by decide +kernel
theorem dX6_init_8 : decode cX6_init 8 = .ok (.dup, 1) := by decide +kernel
theorem dX6_init_9 : decode cX6_init 9 = .ok (.invokespecial 11, 3) := by decide +kernel
theorem dX6_init_12 : decode cX6_init 12 = .ok (.putfield 12, 3) := by decide +kernel
theorem dX6_init_15 : decode cX6_init 15 = .ok (.aload_n 0, 1) := by decide +kernel
theorem dX6_init_16 : decode cX6_init 16 = .ok (.new 9, 3) := by decide +kernel
theorem dX6_init_19 : decode cX6_init 19 = .ok (.dup, 1) := by decide +kernel
theorem dX6_init_20 : decode cX6_init 20 = .ok (.invokespecial 11, 3) := by decide +kernel
theorem dX6_init_23 : decode cX6_init 23 = .ok (.putfield 16, 3) := by decide +kernel
theorem dX6_init_26 : decode cX6_init 26 = .ok (.aload_n 0, 1) := by decide +kernel
theorem dX6_init_27 : decode cX6_init 27 = .ok (.new 9, 3) := by decide +kernel
theorem dX6_init_30 : decode cX6_init 30 = .ok (.dup, 1) := by decide +kernel
theorem dX6_init_31 : decode cX6_init 31 = .ok (.invokespecial 11, 3) := by decide +kernel
theorem dX6_init_34 : decode cX6_init 34 = .ok (.putfield 19, 3) := by decide +kernel
theorem dX6_init_37 : decode cX6_init 37 = .ok (.aload_n 0, 1) := by decide +kernel
theorem dX6_init_38 : decode cX6_init 38 = .ok (.new 22, 3) := by decide +kernel
theorem dX6_init_41 : decode cX6_init 41 = .ok (.dup, 1) := by decide +kernel
theorem dX6_init_42 : decode cX6_init 42 = .ok (.invokespecial 24, 3) := by decide +kernel
theorem dX6_init_45 : decode cX6_init 45 = .ok (.putfield 25, 3) := by decide +kernel
theorem dX6_init_48 : decode cX6_init 48 = .ok (.aload_n 0, 1) := by decide +kernel
theorem dX6_init_49 : decode cX6_init 49 = .ok (.new 29, 3) := by decide +kernel
theorem dX6_init_52 : decode cX6_init 52 = .ok (.dup, 1) := by decide +kernel
theorem dX6_init_53 : decode cX6_init 53 = .ok (.invokespecial 31, 3) := by decide +kernel
theorem dX6_init_56 : decode cX6_init 56 = .ok (.putfield 32, 3) := by decide +kernel
theorem dX6_init_59 : decode cX6_init 59 = .ok (.aload_n 0, 1) := by decide +kernel
theorem dX6_init_60 : decode cX6_init 60 = .ok (.new 36, 3) := by decide +kernel
theorem dX6_init_63 : decode cX6_init 63 = .ok (.dup, 1) := by decide +kernel
theorem dX6_init_64 : decode cX6_init 64 = .ok (.invokespecial 38, 3) := by decide +kernel
theorem dX6_init_67 : decode cX6_init 67 = .ok (.putfield 39, 3) := by decide +kernel
theorem dX6_init_70 : decode cX6_init 70 = .ok (.aload_n 0, 1) := by decide +kernel
theorem dX6_init_71 : decode cX6_init 71 = .ok (.iconst 0, 1) := by decide +kernel
theorem dX6_init_72 : decode cX6_init 72 = .ok (.putfield 43, 3) := by decide +kernel
theorem dX6_init_75 : decode cX6_init 75 = .ok (.aload_n 0, 1) := by decide +kernel
theorem dX6_init_76 : decode cX6_init 76 = .ok (.bipush (-5), 2) := by decide +kernel
theorem dX6_init_78 : decode cX6_init 78 = .ok (.putfield 47, 3) := by decide +kernel
theorem dX6_init_81 : decode cX6_init 81 = .ok (.aload_n 0, 1) := by decide +kernel
theorem dX6_init_82 : decode cX6_init 82 = .ok (.bipush (-5), 2) := by decide +kernel
theorem dX6_init_84 : decode cX6_init 84 = .ok (.putfield 51, 3) := by decide +kernel
theorem dX6_init_87 : decode cX6_init 87 = .ok (.return_, 1) := by decide +kernel
theorem dX6_come_0 : decode cX6_come 0 = .ok (.aload_n 0, 1) := by decide +kernel
theorem dX6_come_1 : decode cX6_come 1 = .ok (.getfield 16, 3) := by decide +kernel
theorem dX6_come_4 : decode cX6_come 4 = .ok (.aload_n 0, 1) := by decide +kernel
theorem dX6_come_5 : decode cX6_come 5 = .ok (.getfield 12, 3) := by decide +kernel
theorem dX6_come_8 : decode cX6_come 8 = .ok (.invokevirtual 54, 3) := by decide +kernel
theorem dX6_come_11 : decode cX6_come 11 = .ok (.aload_n 0, 1) := by decide +kernel
theorem dX6_come_12 : decode cX6_come 12 = .ok (.aload_n 0, 1) := by decide +kernel
theorem dX6_come_13 : decode cX6_come 13 = .ok (.getfield 16, 3) := by decide +kernel
theorem dX6_come_16 : decode cX6_come 16 = .ok (.getfield 58, 3) := by decide +kernel
theorem dX6_come_19 : decode cX6_come 19 = .ok (.iload_n 1, 1) := by decide +kernel
theorem dX6_come_20 : decode cX6_come 20 = .ok (.iload_n 2, 1) := by decide +kernel
theorem dX6_come_21 : decode cX6_come 21 = .ok (.invokevirtual 62, 3) := by decide +kernel
theorem dX6_come_24 : decode cX6_come 24 = .ok (.invokevirtual 68, 3) := by decide +kernel
theorem dX6_come_27 : decode cX6_come 27 = .ok (.ireturn, 1) := by decide +kernel
theorem dX6_head_0 : decode cX6_head 0 = .ok (.aload_n 0, 1) := by decide +kernel
theorem dX6_head_1 : decode cX6_head 1 = .ok (.getfield 16, 3) := by decide +kernel
theorem dX6_head_4 : decode cX6_head 4 = .ok (.aload_n 0, 1) := by decide +kernel
theorem dX6_head_5 : decode cX6_head 5 = .ok (.getfield 12, 3) := by decide +kernel
theorem dX6_head_8 : decode cX6_head 8 = .ok (.invokevirtual 54, 3) := by decide +kernel
theorem dX6_head_11 : decode cX6_head 11 = .ok (.aload_n 0, 1) := by decide +kernel
theorem dX6_head_12 : decode cX6_head 12 = .ok (.aload_n 0, 1) := by decide +kernel
theorem dX6_head_13 : decode cX6_head 13 = .ok (.getfield 16, 3) := by decide +kernel
theorem dX6_head_16 : decode cX6_head 16 = .ok (.getfield 58, 3) := by decide +kernel
theorem dX6_head_19 : decode cX6_head 19 = .ok (.iload_n 1, 1) := by decide +kernel
theorem dX6_head_20 : decode cX6_head 20 = .ok (.iload_n 2, 1) := by decide +kernel
theorem dX6_head_21 : decode cX6_head 21 = .ok (.invokevirtual 72, 3) := by decide +kernel
theorem dX6_head_24 : decode cX6_head 24 = .ok (.invokevirtual 68, 3) := by decide +kernel
theorem dX6_head_27 : decode cX6_head 27 = .ok (.ireturn, 1) := by decide +kernel
theorem dX6_light_0 : decode cX6_light 0 = .ok (.aload_n 0, 1) := by decide +kernel
theorem dX6_light_1 : decode cX6_light 1 = .ok (.getfield 16, 3) := by decide +kernel
theorem dX6_light_4 : decode cX6_light 4 = .ok (.aload_n 0, 1) := by decide +kernel
theorem dX6_light_5 : decode cX6_light 5 = .ok (.getfield 12, 3) := by decide +kernel
theorem dX6_light_8 : decode cX6_light 8 = .ok (.invokevirtual 54, 3) := by decide +kernel
theorem dX6_light_11 : decode cX6_light 11 = .ok (.aload_n 0, 1) := by decide +kernel
theorem dX6_light_12 : decode cX6_light 12 = .ok (.aload_n 0, 1) := by decide +kernel
theorem dX6_light_13 : decode cX6_light 13 = .ok (.getfield 16, 3) := by decide +kernel
theorem dX6_light_16 : decode cX6_light 16 = .ok (.getfield 75, 3) := by decide +kernel
theorem dX6_light_19 : decode cX6_light 19 = .ok (.iload_n 1, 1) := by decide +kernel
theorem dX6_light_20 : decode cX6_light 20 = .ok (.iload_n 2, 1) := by decide +kernel
theorem dX6_light_21 : decode cX6_light 21 = .ok (.ifCond .eq 7, 3) := by decide +kernel
theorem dX6_light_24 : decode cX6_light 24 = .ok (.iconst 1, 1) := by decide +kernel
theorem dX6_light_25 : decode cX6_light 25 = .ok (.goto 4, 3) := by decide +kernel
theorem dX6_light_28 : decode cX6_light 28 = .ok (.iconst 0, 1) := by decide +kernel
theorem dX6_light_29 : decode cX6_light 29 = .ok (.invokevirtual 79, 3) := by decide +kernel
theorem dX6_light_32 : decode cX6_light 32 = .ok (.invokevirtual 68, 3) := by decide +kernel
theorem dX6_light_35 : decode cX6_light 35 = .ok (.ireturn, 1) := by decide +kernel
theorem dX6_setLamp_0 : decode cX6_setLamp 0 = .ok (.aload_n 0, 1) := by decide +kernel
theorem dX6_setLamp_1 : decode cX6_setLamp 1 = .ok (.getfield 16, 3) := by decide +kernel
theorem dX6_setLamp_4 : decode cX6_setLamp 4 = .ok (.aload_n 0, 1) := by decide +kernel
theorem dX6_setLamp_5 : decode cX6_setLamp 5 = .ok (.getfield 12, 3) := by decide +kernel
theorem dX6_setLamp_8 : decode cX6_setLamp 8 = .ok (.invokevirtual 54, 3) := by decide +kernel
theorem dX6_setLamp_11 : decode cX6_setLamp 11 = .ok (.aload_n 0, 1) := by decide +kernel
theorem dX6_setLamp_12 : decode cX6_setLamp 12 = .ok (.aload_n 0, 1) := by decide +kernel
theorem dX6_setLamp_13 : decode cX6_setLamp 13 = .ok (.getfield 16, 3) := by decide +kernel
theorem dX6_setLamp_16 : decode cX6_setLamp 16 = .ok (.getfield 75, 3) := by decide +kernel
theorem dX6_setLamp_19 : decode cX6_setLamp 19 = .ok (.iload_n 1, 1) := by decide +kernel
theorem dX6_setLamp_20 : decode cX6_setLamp 20 = .ok (.iload_n 2, 1) := by decide +kernel
theorem dX6_setLamp_21 : decode cX6_setLamp 21 = .ok (.iload_n 3, 1) := by decide +kernel
theorem dX6_setLamp_22 : decode cX6_setLamp 22 = .ok (.invokevirtual 84, 3) := by decide +kernel
theorem dX6_setLamp_25 : decode cX6_setLamp 25 = .ok (.invokevirtual 68, 3) := by decide +kernel
theorem dX6_setLamp_28 : decode cX6_setLamp 28 = .ok (.ireturn, 1) := by decide +kernel
theorem dX6_set_0 : decode cX6_set 0 = .ok (.aload_n 0, 1) := by decide +kernel
theorem dX6_set_1 : decode cX6_set 1 = .ok (.getfield 16, 3) := by decide +kernel
theorem dX6_set_4 : decode cX6_set 4 = .ok (.aload_n 0, 1) := by decide +kernel
theorem dX6_set_5 : decode cX6_set 5 = .ok (.getfield 12, 3) := by decide +kernel
theorem dX6_set_8 : decode cX6_set 8 = .ok (.invokevirtual 54, 3) := by decide +kernel
theorem dX6_set_11 : decode cX6_set 11 = .ok (.aload_n 0, 1) := by decide +kernel
theorem dX6_set_12 : decode cX6_set 12 = .ok (.aload_n 0, 1) := by decide +kernel
theorem dX6_set_13 : decode cX6_set 13 = .ok (.getfield 16, 3) := by decide +kernel
theorem dX6_set_16 : decode cX6_set 16 = .ok (.getfield 88, 3) := by decide +kernel
theorem dX6_set_19 : decode cX6_set 19 = .ok (.iload_n 1, 1) := by decide +kernel
theorem dX6_set_20 : decode cX6_set 20 = .ok (.iload_n 2, 1) := by decide +kernel
theorem dX6_set_21 : decode cX6_set 21 = .ok (.iconst 0, 1) := by decide +kernel
theorem dX6_set_22 : decode cX6_set 22 = .ok (.bipush 9, 2) := by decide +kernel
theorem dX6_set_24 : decode cX6_set 24 = .ok (.invokestatic 92, 3) := by decide +kernel
theorem dX6_set_27 : decode cX6_set 27 = .ok (.invokevirtual 68, 3) := by decide +kernel
theorem dX6_set_30 : decode cX6_set 30 = .ok (.ireturn, 1) := by decide +kernel
theorem dX6_pass_0 : decode cX6_pass 0 = .ok (.aload_n 0, 1) := by decide +kernel
theorem dX6_pass_1 : decode cX6_pass 1 = .ok (.getfield 16, 3) := by decide +kernel
theorem dX6_pass_4 : decode cX6_pass 4 = .ok (.aload_n 0, 1) := by decide +kernel
theorem dX6_pass_5 : decode cX6_pass 5 = .ok (.getfield 12, 3) := by decide +kernel
theorem dX6_pass_8 : decode cX6_pass 8 = .ok (.invokevirtual 54, 3) := by decide +kernel
theorem dX6_pass_11 : decode cX6_pass 11 = .ok (.aload_n 0, 1) := by decide +kernel
theorem dX6_pass_12 : decode cX6_pass 12 = .ok (.aload_n 0, 1) := by decide +kernel
theorem dX6_pass_13 : decode cX6_pass 13 = .ok (.getfield 16, 3) := by decide +kernel
theorem dX6_pass_16 : decode cX6_pass 16 = .ok (.iload_n 1, 1) := by decide +kernel
theorem dX6_pass_17 : decode cX6_pass 17 = .ok (.invokevirtual 96, 3) := by decide +kernel
theorem dX6_pass_20 : decode cX6_pass 20 = .ok (.invokevirtual 68, 3) := by decide +kernel
theorem dX6_pass_23 : decode cX6_pass 23 = .ok (.ireturn, 1) := by decide +kernel
theorem dX6_runner_0 : decode cX6_runner 0 = .ok (.aload_n 0, 1) := by decide +kernel
theorem dX6_runner_1 : decode cX6_runner 1 = .ok (.getfield 12, 3) := by decide +kernel
theorem dX6_runner_4 : decode cX6_runner 4 = .ok (.getfield 58, 3) := by decide +kernel
theorem dX6_runner_7 : decode cX6_runner 7 = .ok (.astore_n 3, 1) := by decide +kernel
theorem dX6_runner_8 : decode cX6_runner 8 = .ok (.aload_n 3, 1) := by decide +kernel
theorem dX6_runner_9 : decode cX6_runner 9 = .ok (.iload_n 1, 1) := by decide +kernel
theorem dX6_runner_10 : decode cX6_runner 10 = .ok (.invokevirtual 126, 3) := by decide +kernel
theorem dX6_runner_13 : decode cX6_runner 13 = .ok (.ifCond .ne 5, 3) := by decide +kernel
theorem dX6_runner_16 : decode cX6_runner 16 = .ok (.iconst (-1), 1) := by decide +kernel
theorem dX6_runner_17 : decode cX6_runner 17 = .ok (.ireturn, 1) := by decide +kernel
theorem dX6_runner_18 : decode cX6_runner 18 = .ok (.iload_n 2, 1) := by decide +kernel
theorem dX6_runner_19 : decode cX6_runner 19 = .ok (.tableswitch 100 0 7 #[45, 52, 59, 66, 73, 80, 87, 94], 45) := by decide +kernel
theorem dX6_runner_64 : decode cX6_runner 64 = .ok (.aload_n 3, 1) := by decide +kernel
theorem dX6_runner_65 : decode cX6_runner 65 = .ok (.getfield 130, 3) := by decide +kernel
theorem dX6_runner_68 : decode cX6_runner 68 = .ok (.iload_n 1, 1) := by decide +kernel
theorem dX6_runner_69 : decode cX6_runner 69 = .ok (.iaload, 1) := by decide +kernel
theorem dX6_runner_70 : decode cX6_runner 70 = .ok (.ireturn, 1) := by decide +kernel
theorem dX6_runner_71 : decode cX6_runner 71 = .ok (.aload_n 3, 1) := by decide +kernel
theorem dX6_runner_72 : decode cX6_runner 72 = .ok (.getfield 133, 3) := by decide +kernel
theorem dX6_runner_75 : decode cX6_runner 75 = .ok (.iload_n 1, 1) := by decide +kernel
theorem dX6_runner_76 : decode cX6_runner 76 = .ok (.iaload, 1) := by decide +kernel
theorem dX6_runner_77 : decode cX6_runner 77 = .ok (.ireturn, 1) := by decide +kernel
theorem dX6_runner_78 : decode cX6_runner 78 = .ok (.aload_n 3, 1) := by decide +kernel
theorem dX6_runner_79 : decode cX6_runner 79 = .ok (.getfield 136, 3) := by decide +kernel
theorem dX6_runner_82 : decode cX6_runner 82 = .ok (.iload_n 1, 1) := by decide +kernel
theorem dX6_runner_83 : decode cX6_runner 83 = .ok (.iaload, 1) := by decide +kernel
theorem dX6_runner_84 : decode cX6_runner 84 = .ok (.ireturn, 1) := by decide +kernel
theorem dX6_runner_85 : decode cX6_runner 85 = .ok (.aload_n 3, 1) := by decide +kernel
theorem dX6_runner_86 : decode cX6_runner 86 = .ok (.getfield 139, 3) := by decide +kernel
theorem dX6_runner_89 : decode cX6_runner 89 = .ok (.iload_n 1, 1) := by decide +kernel
theorem dX6_runner_90 : decode cX6_runner 90 = .ok (.iaload, 1) := by decide +kernel
theorem dX6_runner_91 : decode cX6_runner 91 = .ok (.ireturn, 1) := by decide +kernel
theorem dX6_runner_92 : decode cX6_runner 92 = .ok (.aload_n 3, 1) := by decide +kernel
theorem dX6_runner_93 : decode cX6_runner 93 = .ok (.getfield 142, 3) := by decide +kernel
theorem dX6_runner_96 : decode cX6_runner 96 = .ok (.iload_n 1, 1) := by decide +kernel
theorem dX6_runner_97 : decode cX6_runner 97 = .ok (.iaload, 1) := by decide +kernel
theorem dX6_runner_98 : decode cX6_runner 98 = .ok (.ireturn, 1) := by decide +kernel
theorem dX6_runner_99 : decode cX6_runner 99 = .ok (.aload_n 3, 1) := by decide +kernel
theorem dX6_runner_100 : decode cX6_runner 100 = .ok (.getfield 145, 3) := by decide +kernel
theorem dX6_runner_103 : decode cX6_runner 103 = .ok (.iload_n 1, 1) := by decide +kernel
theorem dX6_runner_104 : decode cX6_runner 104 = .ok (.iaload, 1) := by decide +kernel
theorem dX6_runner_105 : decode cX6_runner 105 = .ok (.ireturn, 1) := by decide +kernel
theorem dX6_runner_106 : decode cX6_runner 106 = .ok (.aload_n 3, 1) := by decide +kernel
theorem dX6_runner_107 : decode cX6_runner 107 = .ok (.getfield 148, 3) := by decide +kernel
theorem dX6_runner_110 : decode cX6_runner 110 = .ok (.iload_n 1, 1) := by decide +kernel
theorem dX6_runner_111 : decode cX6_runner 111 = .ok (.iaload, 1) := by decide +kernel
theorem dX6_runner_112 : decode cX6_runner 112 = .ok (.ireturn, 1) := by decide +kernel
theorem dX6_runner_113 : decode cX6_runner 113 = .ok (.aload_n 0, 1) := by decide +kernel
theorem dX6_runner_114 : decode cX6_runner 114 = .ok (.iload_n 1, 1) := by decide +kernel
theorem dX6_runner_115 : decode cX6_runner 115 = .ok (.invokevirtual 151, 3) := by decide +kernel
theorem dX6_runner_118 : decode cX6_runner 118 = .ok (.ireturn, 1) := by decide +kernel
theorem dX6_runner_119 : decode cX6_runner 119 = .ok (.bipush (-2), 2) := by decide +kernel
theorem dX6_runner_121 : decode cX6_runner 121 = .ok (.ireturn, 1) := by decide +kernel
theorem dX6_lamp_0 : decode cX6_lamp 0 = .ok (.aload_n 0, 1) := by decide +kernel
theorem dX6_lamp_1 : decode cX6_lamp 1 = .ok (.getfield 12, 3) := by decide +kernel
theorem dX6_lamp_4 : decode cX6_lamp 4 = .ok (.getfield 75, 3) := by decide +kernel
theorem dX6_lamp_7 : decode cX6_lamp 7 = .ok (.astore_n 3, 1) := by decide +kernel
theorem dX6_lamp_8 : decode cX6_lamp 8 = .ok (.iload_n 1, 1) := by decide +kernel
theorem dX6_lamp_9 : decode cX6_lamp 9 = .ok (.invokestatic 154, 3) := by decide +kernel
theorem dX6_lamp_12 : decode cX6_lamp 12 = .ok (.ifCond .ne 5, 3) := by decide +kernel
theorem dX6_lamp_15 : decode cX6_lamp 15 = .ok (.iconst (-1), 1) := by decide +kernel
theorem dX6_lamp_16 : decode cX6_lamp 16 = .ok (.ireturn, 1) := by decide +kernel
theorem dX6_lamp_17 : decode cX6_lamp 17 = .ok (.iload_n 2, 1) := by decide +kernel
theorem dX6_lamp_18 : decode cX6_lamp 18 = .ok (.tableswitch 68 0 4 #[34, 41, 48, 55, 62], 34) := by decide +kernel
theorem dX6_lamp_52 : decode cX6_lamp 52 = .ok (.aload_n 3, 1) := by decide +kernel
theorem dX6_lamp_53 : decode cX6_lamp 53 = .ok (.getfield 157, 3) := by decide +kernel
theorem dX6_lamp_56 : decode cX6_lamp 56 = .ok (.iload_n 1, 1) := by decide +kernel
theorem dX6_lamp_57 : decode cX6_lamp 57 = .ok (.iaload, 1) := by decide +kernel
theorem dX6_lamp_58 : decode cX6_lamp 58 = .ok (.ireturn, 1) := by decide +kernel
theorem dX6_lamp_59 : decode cX6_lamp 59 = .ok (.aload_n 3, 1) := by decide +kernel
theorem dX6_lamp_60 : decode cX6_lamp 60 = .ok (.getfield 160, 3) := by decide +kernel
theorem dX6_lamp_63 : decode cX6_lamp 63 = .ok (.iload_n 1, 1) := by decide +kernel
theorem dX6_lamp_64 : decode cX6_lamp 64 = .ok (.iaload, 1) := by decide +kernel
theorem dX6_lamp_65 : decode cX6_lamp 65 = .ok (.ireturn, 1) := by decide +kernel
theorem dX6_lamp_66 : decode cX6_lamp 66 = .ok (.aload_n 3, 1) := by decide +kernel
theorem dX6_lamp_67 : decode cX6_lamp 67 = .ok (.getfield 163, 3) := by decide +kernel
theorem dX6_lamp_70 : decode cX6_lamp 70 = .ok (.iload_n 1, 1) := by decide +kernel
theorem dX6_lamp_71 : decode cX6_lamp 71 = .ok (.iaload, 1) := by decide +kernel
theorem dX6_lamp_72 : decode cX6_lamp 72 = .ok (.ireturn, 1) := by decide +kernel
theorem dX6_lamp_73 : decode cX6_lamp 73 = .ok (.aload_n 3, 1) := by decide +kernel
theorem dX6_lamp_74 : decode cX6_lamp 74 = .ok (.getfield 166, 3) := by decide +kernel
theorem dX6_lamp_77 : decode cX6_lamp 77 = .ok (.iload_n 1, 1) := by decide +kernel
theorem dX6_lamp_78 : decode cX6_lamp 78 = .ok (.iaload, 1) := by decide +kernel
theorem dX6_lamp_79 : decode cX6_lamp 79 = .ok (.ireturn, 1) := by decide +kernel
theorem dX6_lamp_80 : decode cX6_lamp 80 = .ok (.aload_n 0, 1) := by decide +kernel
theorem dX6_lamp_81 : decode cX6_lamp 81 = .ok (.iload_n 1, 1) := by decide +kernel
theorem dX6_lamp_82 : decode cX6_lamp 82 = .ok (.invokevirtual 169, 3) := by decide +kernel
theorem dX6_lamp_85 : decode cX6_lamp 85 = .ok (.ireturn, 1) := by decide +kernel
theorem dX6_lamp_86 : decode cX6_lamp 86 = .ok (.bipush (-2), 2) := by decide +kernel
theorem dX6_lamp_88 : decode cX6_lamp 88 = .ok (.ireturn, 1) := by decide +kernel
theorem dX6_shadow_0 : decode cX6_shadow 0 = .ok (.aload_n 0, 1) := by decide +kernel
theorem dX6_shadow_1 : decode cX6_shadow 1 = .ok (.getfield 12, 3) := by decide +kernel
theorem dX6_shadow_4 : decode cX6_shadow 4 = .ok (.getfield 58, 3) := by decide +kernel
theorem dX6_shadow_7 : decode cX6_shadow 7 = .ok (.iload_n 1, 1) := by decide +kernel
theorem dX6_shadow_8 : decode cX6_shadow 8 = .ok (.invokevirtual 126, 3) := by decide +kernel
theorem dX6_shadow_11 : decode cX6_shadow 11 = .ok (.ifCond .eq 10, 3) := by decide +kernel
theorem dX6_shadow_14 : decode cX6_shadow 14 = .ok (.iload_n 2, 1) := by decide +kernel
theorem dX6_shadow_15 : decode cX6_shadow 15 = .ok (.invokestatic 154, 3) := by decide +kernel
theorem dX6_shadow_18 : decode cX6_shadow 18 = .ok (.ifCond .ne 5, 3) := by decide +kernel
theorem dX6_shadow_21 : decode cX6_shadow 21 = .ok (.iconst (-1), 1) := by decide +kernel
theorem dX6_shadow_22 : decode cX6_shadow 22 = .ok (.ireturn, 1) := by decide +kernel
theorem dX6_shadow_23 : decode cX6_shadow 23 = .ok (.iload_n 3, 1) := by decide +kernel
theorem dX6_shadow_24 : decode cX6_shadow 24 = .ok (.tableswitch 68 0 2 #[28, 38, 48], 28) := by decide +kernel
theorem dX6_shadow_52 : decode cX6_shadow 52 = .ok (.aload_n 0, 1) := by decide +kernel
theorem dX6_shadow_53 : decode cX6_shadow 53 = .ok (.getfield 12, 3) := by decide +kernel
theorem dX6_shadow_56 : decode cX6_shadow 56 = .ok (.iload_n 1, 1) := by decide +kernel
theorem dX6_shadow_57 : decode cX6_shadow 57 = .ok (.iload_n 2, 1) := by decide +kernel
theorem dX6_shadow_58 : decode cX6_shadow 58 = .ok (.invokevirtual 172, 3) := by decide +kernel
theorem dX6_shadow_61 : decode cX6_shadow 61 = .ok (.ireturn, 1) := by decide +kernel
theorem dX6_shadow_62 : decode cX6_shadow 62 = .ok (.aload_n 0, 1) := by decide +kernel
theorem dX6_shadow_63 : decode cX6_shadow 63 = .ok (.getfield 12, 3) := by decide +kernel
theorem dX6_shadow_66 : decode cX6_shadow 66 = .ok (.iload_n 1, 1) := by decide +kernel
theorem dX6_shadow_67 : decode cX6_shadow 67 = .ok (.iload_n 2, 1) := by decide +kernel
theorem dX6_shadow_68 : decode cX6_shadow 68 = .ok (.invokevirtual 175, 3) := by decide +kernel
theorem dX6_shadow_71 : decode cX6_shadow 71 = .ok (.ireturn, 1) := by decide +kernel
theorem dX6_shadow_72 : decode cX6_shadow 72 = .ok (.aload_n 0, 1) := by decide +kernel
theorem dX6_shadow_73 : decode cX6_shadow 73 = .ok (.getfield 12, 3) := by decide +kernel
theorem dX6_shadow_76 : decode cX6_shadow 76 = .ok (.getfield 58, 3) := by decide +kernel
theorem dX6_shadow_79 : decode cX6_shadow 79 = .ok (.aload_n 0, 1) := by decide +kernel
theorem dX6_shadow_80 : decode cX6_shadow 80 = .ok (.getfield 12, 3) := by decide +kernel
theorem dX6_shadow_83 : decode cX6_shadow 83 = .ok (.iload_n 1, 1) := by decide +kernel
theorem dX6_shadow_84 : decode cX6_shadow 84 = .ok (.iload_n 2, 1) := by decide +kernel
theorem dX6_shadow_85 : decode cX6_shadow 85 = .ok (.invokevirtual 175, 3) := by decide +kernel
theorem dX6_shadow_88 : decode cX6_shadow 88 = .ok (.invokevirtual 178, 3) := by decide +kernel
theorem dX6_shadow_91 : decode cX6_shadow 91 = .ok (.ireturn, 1) := by decide +kernel
theorem dX6_shadow_92 : decode cX6_shadow 92 = .ok (.bipush (-2), 2) := by decide +kernel
theorem dX6_shadow_94 : decode cX6_shadow 94 = .ok (.ireturn, 1) := by decide +kernel
theorem dX6_darkness_0 : decode cX6_darkness 0 = .ok (.iload_n 1, 1) := by decide +kernel
theorem dX6_darkness_1 : decode cX6_darkness 1 = .ok (.invokestatic 181, 3) := by decide +kernel
theorem dX6_darkness_4 : decode cX6_darkness 4 = .ok (.ifCond .ne 5, 3) := by decide +kernel
theorem dX6_darkness_7 : decode cX6_darkness 7 = .ok (.iconst (-1), 1) := by decide +kernel
theorem dX6_darkness_8 : decode cX6_darkness 8 = .ok (.ireturn, 1) := by decide +kernel
theorem dX6_darkness_9 : decode cX6_darkness 9 = .ok (.iconst 0, 1) := by decide +kernel
theorem dX6_darkness_10 : decode cX6_darkness 10 = .ok (.istore_n 2, 1) := by decide +kernel
theorem dX6_darkness_11 : decode cX6_darkness 11 = .ok (.iconst 0, 1) := by decide +kernel
theorem dX6_darkness_12 : decode cX6_darkness 12 = .ok (.istore_n 3, 1) := by decide +kernel
theorem dX6_darkness_13 : decode cX6_darkness 13 = .ok (.iload_n 3, 1) := by decide +kernel
theorem dX6_darkness_14 : decode cX6_darkness 14 = .ok (.aload_n 0, 1) := by decide +kernel
theorem dX6_darkness_15 : decode cX6_darkness 15 = .ok (.getfield 12, 3) := by decide +kernel
theorem dX6_darkness_18 : decode cX6_darkness 18 = .ok (.getfield 58, 3) := by decide +kernel
theorem dX6_darkness_21 : decode cX6_darkness 21 = .ok (.getfield 123, 3) := by decide +kernel
theorem dX6_darkness_24 : decode cX6_darkness 24 = .ok (.if_icmp .ge 41, 3) := by decide +kernel
theorem dX6_darkness_27 : decode cX6_darkness 27 = .ok (.iconst 0, 1) := by decide +kernel
theorem dX6_darkness_28 : decode cX6_darkness 28 = .ok (.istore 4, 2) := by decide +kernel
theorem dX6_darkness_30 : decode cX6_darkness 30 = .ok (.iload 4, 2) := by decide +kernel
theorem dX6_darkness_32 : decode cX6_darkness 32 = .ok (.iconst 3, 1) := by decide +kernel
theorem dX6_darkness_33 : decode cX6_darkness 33 = .ok (.if_icmp .ge 26, 3) := by decide +kernel
theorem dX6_darkness_36 : decode cX6_darkness 36 = .ok (.aload_n 0, 1) := by decide +kernel
theorem dX6_darkness_37 : decode cX6_darkness 37 = .ok (.getfield 12, 3) := by decide +kernel
theorem dX6_darkness_40 : decode cX6_darkness 40 = .ok (.iload_n 1, 1) := by decide +kernel
theorem dX6_darkness_41 : decode cX6_darkness 41 = .ok (.iload_n 3, 1) := by decide +kernel
theorem dX6_darkness_42 : decode cX6_darkness 42 = .ok (.iload 4, 2) := by decide +kernel
theorem dX6_darkness_44 : decode cX6_darkness 44 = .ok (.invokevirtual 184, 3) := by decide +kernel
theorem dX6_darkness_47 : decode cX6_darkness 47 = .ok (.ifCond .eq 6, 3) := by decide +kernel
theorem dX6_darkness_50 : decode cX6_darkness 50 = .ok (.iinc 2 1, 3) := by decide +kernel
theorem dX6_darkness_53 : decode cX6_darkness 53 = .ok (.iinc 4 1, 3) := by decide +kernel
theorem dX6_darkness_56 : decode cX6_darkness 56 = .ok (.goto (-26), 3) := by decide +kernel
theorem dX6_darkness_59 : decode cX6_darkness 59 = .ok (.iinc 3 1, 3) := by decide +kernel
theorem dX6_darkness_62 : decode cX6_darkness 62 = .ok (.goto (-49), 3) := by decide +kernel
theorem dX6_darkness_65 : decode cX6_darkness 65 = .ok (.iload_n 2, 1) := by decide +kernel
theorem dX6_darkness_66 : decode cX6_darkness 66 = .ok (.ireturn, 1) := by decide +kernel
theorem dX6_looked_0 : decode cX6_looked 0 = .ok (.iload_n 1, 1) := by decide +kernel
theorem dX6_looked_1 : decode cX6_looked 1 = .ok (.invokestatic 181, 3) := by decide +kernel
theorem dX6_looked_4 : decode cX6_looked 4 = .ok (.ifCond .ne 5, 3) := by decide +kernel
theorem dX6_looked_7 : decode cX6_looked 7 = .ok (.iconst (-1), 1) := by decide +kernel
theorem dX6_looked_8 : decode cX6_looked 8 = .ok (.ireturn, 1) := by decide +kernel
theorem dX6_looked_9 : decode cX6_looked 9 = .ok (.iconst 0, 1) := by decide +kernel
theorem dX6_looked_10 : decode cX6_looked 10 = .ok (.istore_n 2, 1) := by decide +kernel
theorem dX6_looked_11 : decode cX6_looked 11 = .ok (.iconst 0, 1) := by decide +kernel
theorem dX6_looked_12 : decode cX6_looked 12 = .ok (.istore_n 3, 1) := by decide +kernel
theorem dX6_looked_13 : decode cX6_looked 13 = .ok (.iload_n 3, 1) := by decide +kernel
theorem dX6_looked_14 : decode cX6_looked 14 = .ok (.iconst 3, 1) := by decide +kernel
theorem dX6_looked_15 : decode cX6_looked 15 = .ok (.if_icmp .ge 26, 3) := by decide +kernel
theorem dX6_looked_18 : decode cX6_looked 18 = .ok (.aload_n 0, 1) := by decide +kernel
theorem dX6_looked_19 : decode cX6_looked 19 = .ok (.getfield 12, 3) := by decide +kernel
theorem dX6_looked_22 : decode cX6_looked 22 = .ok (.iload_n 1, 1) := by decide +kernel
theorem dX6_looked_23 : decode cX6_looked 23 = .ok (.iload_n 3, 1) := by decide +kernel
theorem dX6_looked_24 : decode cX6_looked 24 = .ok (.invokevirtual 188, 3) := by decide +kernel
theorem dX6_looked_27 : decode cX6_looked 27 = .ok (.bipush (-5), 2) := by decide +kernel
theorem dX6_looked_29 : decode cX6_looked 29 = .ok (.if_icmp .eq 6, 3) := by decide +kernel
theorem dX6_looked_32 : decode cX6_looked 32 = .ok (.iinc 2 1, 3) := by decide +kernel
theorem dX6_looked_35 : decode cX6_looked 35 = .ok (.iinc 3 1, 3) := by decide +kernel
theorem dX6_looked_38 : decode cX6_looked 38 = .ok (.goto (-25), 3) := by decide +kernel
theorem dX6_looked_41 : decode cX6_looked 41 = .ok (.iload_n 2, 1) := by decide +kernel
theorem dX6_looked_42 : decode cX6_looked 42 = .ok (.ireturn, 1) := by decide +kernel
theorem dX6_at_0 : decode cX6_at 0 = .ok (.iload_n 1, 1) := by decide +kernel
theorem dX6_at_1 : decode cX6_at 1 = .ok (.invokestatic 181, 3) := by decide +kernel
theorem dX6_at_4 : decode cX6_at 4 = .ok (.ifCond .eq 17, 3) := by decide +kernel
theorem dX6_at_7 : decode cX6_at 7 = .ok (.aload_n 0, 1) := by decide +kernel
theorem dX6_at_8 : decode cX6_at 8 = .ok (.getfield 12, 3) := by decide +kernel
theorem dX6_at_11 : decode cX6_at 11 = .ok (.getfield 58, 3) := by decide +kernel
theorem dX6_at_14 : decode cX6_at 14 = .ok (.iload_n 1, 1) := by decide +kernel
theorem dX6_at_15 : decode cX6_at 15 = .ok (.invokevirtual 178, 3) := by decide +kernel
theorem dX6_at_18 : decode cX6_at 18 = .ok (.goto 4, 3) := by decide +kernel
theorem dX6_at_21 : decode cX6_at 21 = .ok (.iconst (-1), 1) := by decide +kernel
theorem dX6_at_22 : decode cX6_at 22 = .ok (.ireturn, 1) := by decide +kernel
theorem dX6_reason_0 : decode cX6_reason 0 = .ok (.aload_n 0, 1) := by decide +kernel
theorem dX6_reason_1 : decode cX6_reason 1 = .ok (.getfield 12, 3) := by decide +kernel
theorem dX6_reason_4 : decode cX6_reason 4 = .ok (.getfield 58, 3) := by decide +kernel
theorem dX6_reason_7 : decode cX6_reason 7 = .ok (.astore_n 2, 1) := by decide +kernel
theorem dX6_reason_8 : decode cX6_reason 8 = .ok (.aload_n 2, 1) := by decide +kernel
theorem dX6_reason_9 : decode cX6_reason 9 = .ok (.iload_n 1, 1) := by decide +kernel
theorem dX6_reason_10 : decode cX6_reason 10 = .ok (.invokevirtual 126, 3) := by decide +kernel
theorem dX6_reason_13 : decode cX6_reason 13 = .ok (.ifCond .ne 5, 3) := by decide +kernel
theorem dX6_reason_16 : decode cX6_reason 16 = .ok (.iconst (-1), 1) := by decide +kernel
theorem dX6_reason_17 : decode cX6_reason 17 = .ok (.ireturn, 1) := by decide +kernel
theorem dX6_reason_18 : decode cX6_reason 18 = .ok (.iload_n 1, 1) := by decide +kernel
theorem dX6_reason_19 : decode cX6_reason 19 = .ok (.aload_n 2, 1) := by decide +kernel
theorem dX6_reason_20 : decode cX6_reason 20 = .ok (.getfield 191, 3) := by decide +kernel
theorem dX6_reason_23 : decode cX6_reason 23 = .ok (.if_icmp .ne 5, 3) := by decide +kernel
theorem dX6_reason_26 : decode cX6_reason 26 = .ok (.iconst 1, 1) := by decide +kernel
theorem dX6_reason_27 : decode cX6_reason 27 = .ok (.ireturn, 1) := by decide +kernel
theorem dX6_reason_28 : decode cX6_reason 28 = .ok (.aload_n 0, 1) := by decide +kernel
theorem dX6_reason_29 : decode cX6_reason 29 = .ok (.getfield 12, 3) := by decide +kernel
theorem dX6_reason_32 : decode cX6_reason 32 = .ok (.iload_n 1, 1) := by decide +kernel
theorem dX6_reason_33 : decode cX6_reason 33 = .ok (.invokevirtual 194, 3) := by decide +kernel
theorem dX6_reason_36 : decode cX6_reason 36 = .ok (.ifCond .ne 5, 3) := by decide +kernel
theorem dX6_reason_39 : decode cX6_reason 39 = .ok (.iconst 2, 1) := by decide +kernel
theorem dX6_reason_40 : decode cX6_reason 40 = .ok (.ireturn, 1) := by decide +kernel
theorem dX6_reason_41 : decode cX6_reason 41 = .ok (.aload_n 2, 1) := by decide +kernel
theorem dX6_reason_42 : decode cX6_reason 42 = .ok (.getfield 139, 3) := by decide +kernel
theorem dX6_reason_45 : decode cX6_reason 45 = .ok (.iload_n 1, 1) := by decide +kernel
theorem dX6_reason_46 : decode cX6_reason 46 = .ok (.iaload, 1) := by decide +kernel
theorem dX6_reason_47 : decode cX6_reason 47 = .ok (.ifCond .eq 5, 3) := by decide +kernel
theorem dX6_reason_50 : decode cX6_reason 50 = .ok (.iconst 3, 1) := by decide +kernel
theorem dX6_reason_51 : decode cX6_reason 51 = .ok (.ireturn, 1) := by decide +kernel
theorem dX6_reason_52 : decode cX6_reason 52 = .ok (.aload_n 0, 1) := by decide +kernel
theorem dX6_reason_53 : decode cX6_reason 53 = .ok (.getfield 12, 3) := by decide +kernel
theorem dX6_reason_56 : decode cX6_reason 56 = .ok (.iload_n 1, 1) := by decide +kernel
theorem dX6_reason_57 : decode cX6_reason 57 = .ok (.invokevirtual 197, 3) := by decide +kernel
theorem dX6_reason_60 : decode cX6_reason 60 = .ok (.ifCond .ne 5, 3) := by decide +kernel
theorem dX6_reason_63 : decode cX6_reason 63 = .ok (.iconst 4, 1) := by decide +kernel
theorem dX6_reason_64 : decode cX6_reason 64 = .ok (.ireturn, 1) := by decide +kernel
theorem dX6_reason_65 : decode cX6_reason 65 = .ok (.aload_n 0, 1) := by decide +kernel
theorem dX6_reason_66 : decode cX6_reason 66 = .ok (.getfield 12, 3) := by decide +kernel
theorem dX6_reason_69 : decode cX6_reason 69 = .ok (.invokevirtual 200, 3) := by decide +kernel
theorem dX6_reason_72 : decode cX6_reason 72 = .ok (.iload_n 1, 1) := by decide +kernel
theorem dX6_reason_73 : decode cX6_reason 73 = .ok (.if_icmp .ne 7, 3) := by decide +kernel
theorem dX6_reason_76 : decode cX6_reason 76 = .ok (.iconst 0, 1) := by decide +kernel
theorem dX6_reason_77 : decode cX6_reason 77 = .ok (.goto 4, 3) := by decide +kernel
theorem dX6_reason_80 : decode cX6_reason 80 = .ok (.iconst 5, 1) := by decide +kernel
theorem dX6_reason_81 : decode cX6_reason 81 = .ok (.ireturn, 1) := by decide +kernel
theorem dX6_stepsTo_0 : decode cX6_stepsTo 0 = .ok (.aload_n 0, 1) := by decide +kernel
theorem dX6_stepsTo_1 : decode cX6_stepsTo 1 = .ok (.getfield 12, 3) := by decide +kernel
theorem dX6_stepsTo_4 : decode cX6_stepsTo 4 = .ok (.getfield 58, 3) := by decide +kernel
theorem dX6_stepsTo_7 : decode cX6_stepsTo 7 = .ok (.astore_n 2, 1) := by decide +kernel
theorem dX6_stepsTo_8 : decode cX6_stepsTo 8 = .ok (.aload_n 2, 1) := by decide +kernel
theorem dX6_stepsTo_9 : decode cX6_stepsTo 9 = .ok (.getfield 191, 3) := by decide +kernel
theorem dX6_stepsTo_12 : decode cX6_stepsTo 12 = .ok (.istore_n 3, 1) := by decide +kernel
theorem dX6_stepsTo_13 : decode cX6_stepsTo 13 = .ok (.aload_n 2, 1) := by decide +kernel
theorem dX6_stepsTo_14 : decode cX6_stepsTo 14 = .ok (.iload_n 1, 1) := by decide +kernel
theorem dX6_stepsTo_15 : decode cX6_stepsTo 15 = .ok (.invokevirtual 126, 3) := by decide +kernel
theorem dX6_stepsTo_18 : decode cX6_stepsTo 18 = .ok (.ifCond .eq 11, 3) := by decide +kernel
theorem dX6_stepsTo_21 : decode cX6_stepsTo 21 = .ok (.aload_n 2, 1) := by decide +kernel
theorem dX6_stepsTo_22 : decode cX6_stepsTo 22 = .ok (.iload_n 3, 1) := by decide +kernel
theorem dX6_stepsTo_23 : decode cX6_stepsTo 23 = .ok (.invokevirtual 126, 3) := by decide +kernel
theorem dX6_stepsTo_26 : decode cX6_stepsTo 26 = .ok (.ifCond .ne 5, 3) := by decide +kernel
theorem dX6_stepsTo_29 : decode cX6_stepsTo 29 = .ok (.iconst (-1), 1) := by decide +kernel
theorem dX6_stepsTo_30 : decode cX6_stepsTo 30 = .ok (.ireturn, 1) := by decide +kernel
theorem dX6_stepsTo_31 : decode cX6_stepsTo 31 = .ok (.iload_n 1, 1) := by decide +kernel
theorem dX6_stepsTo_32 : decode cX6_stepsTo 32 = .ok (.iload_n 3, 1) := by decide +kernel
theorem dX6_stepsTo_33 : decode cX6_stepsTo 33 = .ok (.if_icmp .eq 23, 3) := by decide +kernel
theorem dX6_stepsTo_36 : decode cX6_stepsTo 36 = .ok (.aload_n 2, 1) := by decide +kernel
theorem dX6_stepsTo_37 : decode cX6_stepsTo 37 = .ok (.getfield 139, 3) := by decide +kernel
theorem dX6_stepsTo_40 : decode cX6_stepsTo 40 = .ok (.iload_n 1, 1) := by decide +kernel
theorem dX6_stepsTo_41 : decode cX6_stepsTo 41 = .ok (.iaload, 1) := by decide +kernel
theorem dX6_stepsTo_42 : decode cX6_stepsTo 42 = .ok (.ifCond .ne 14, 3) := by decide +kernel
theorem dX6_stepsTo_45 : decode cX6_stepsTo 45 = .ok (.aload_n 0, 1) := by decide +kernel
theorem dX6_stepsTo_46 : decode cX6_stepsTo 46 = .ok (.getfield 12, 3) := by decide +kernel
theorem dX6_stepsTo_49 : decode cX6_stepsTo 49 = .ok (.iload_n 1, 1) := by decide +kernel
theorem dX6_stepsTo_50 : decode cX6_stepsTo 50 = .ok (.invokevirtual 194, 3) := by decide +kernel
theorem dX6_stepsTo_53 : decode cX6_stepsTo 53 = .ok (.ifCond .ne 6, 3) := by decide +kernel
theorem dX6_stepsTo_56 : decode cX6_stepsTo 56 = .ok (.bipush (-4), 2) := by decide +kernel
theorem dX6_stepsTo_58 : decode cX6_stepsTo 58 = .ok (.ireturn, 1) := by decide +kernel
theorem dX6_stepsTo_59 : decode cX6_stepsTo 59 = .ok (.aload_n 0, 1) := by decide +kernel
theorem dX6_stepsTo_60 : decode cX6_stepsTo 60 = .ok (.getfield 39, 3) := by decide +kernel
theorem dX6_stepsTo_63 : decode cX6_stepsTo 63 = .ok (.invokevirtual 203, 3) := by decide +kernel
theorem dX6_stepsTo_66 : decode cX6_stepsTo 66 = .ok (.aload_n 0, 1) := by decide +kernel
theorem dX6_stepsTo_67 : decode cX6_stepsTo 67 = .ok (.getfield 12, 3) := by decide +kernel
theorem dX6_stepsTo_70 : decode cX6_stepsTo 70 = .ok (.iload_n 1, 1) := by decide +kernel
theorem dX6_stepsTo_71 : decode cX6_stepsTo 71 = .ok (.aload_n 0, 1) := by decide +kernel
theorem dX6_stepsTo_72 : decode cX6_stepsTo 72 = .ok (.getfield 39, 3) := by decide +kernel
theorem dX6_stepsTo_75 : decode cX6_stepsTo 75 = .ok (.invokevirtual 205, 3) := by decide +kernel
theorem dX6_stepsTo_78 : decode cX6_stepsTo 78 = .ok (.iconst 0, 1) := by decide +kernel
theorem dX6_stepsTo_79 : decode cX6_stepsTo 79 = .ok (.istore 4, 2) := by decide +kernel
theorem dX6_stepsTo_81 : decode cX6_stepsTo 81 = .ok (.iload 4, 2) := by decide +kernel
theorem dX6_stepsTo_83 : decode cX6_stepsTo 83 = .ok (.aload_n 2, 1) := by decide +kernel
theorem dX6_stepsTo_84 : decode cX6_stepsTo 84 = .ok (.getfield 123, 3) := by decide +kernel
theorem dX6_stepsTo_87 : decode cX6_stepsTo 87 = .ok (.if_icmp .ge 36, 3) := by decide +kernel
theorem dX6_stepsTo_90 : decode cX6_stepsTo 90 = .ok (.iload 4, 2) := by decide +kernel
theorem dX6_stepsTo_92 : decode cX6_stepsTo 92 = .ok (.bipush 6, 2) := by decide +kernel
theorem dX6_stepsTo_94 : decode cX6_stepsTo 94 = .ok (.if_icmp .ge 29, 3) := by decide +kernel
theorem dX6_stepsTo_97 : decode cX6_stepsTo 97 = .ok (.iload 4, 2) := by decide +kernel
theorem dX6_stepsTo_99 : decode cX6_stepsTo 99 = .ok (.iload_n 3, 1) := by decide +kernel
theorem dX6_stepsTo_100 : decode cX6_stepsTo 100 = .ok (.if_icmp .eq 17, 3) := by decide +kernel
theorem dX6_stepsTo_103 : decode cX6_stepsTo 103 = .ok (.aload_n 0, 1) := by decide +kernel
theorem dX6_stepsTo_104 : decode cX6_stepsTo 104 = .ok (.getfield 39, 3) := by decide +kernel
theorem dX6_stepsTo_107 : decode cX6_stepsTo 107 = .ok (.aload_n 2, 1) := by decide +kernel
theorem dX6_stepsTo_108 : decode cX6_stepsTo 108 = .ok (.getfield 130, 3) := by decide +kernel
theorem dX6_stepsTo_111 : decode cX6_stepsTo 111 = .ok (.iload 4, 2) := by decide +kernel
theorem dX6_stepsTo_113 : decode cX6_stepsTo 113 = .ok (.iaload, 1) := by decide +kernel
theorem dX6_stepsTo_114 : decode cX6_stepsTo 114 = .ok (.invokevirtual 209, 3) := by decide +kernel
theorem dX6_stepsTo_117 : decode cX6_stepsTo 117 = .ok (.iinc 4 1, 3) := by decide +kernel
theorem dX6_stepsTo_120 : decode cX6_stepsTo 120 = .ok (.goto (-39), 3) := by decide +kernel
theorem dX6_stepsTo_123 : decode cX6_stepsTo 123 = .ok (.aload_n 0, 1) := by decide +kernel
theorem dX6_stepsTo_124 : decode cX6_stepsTo 124 = .ok (.getfield 39, 3) := by decide +kernel
theorem dX6_stepsTo_127 : decode cX6_stepsTo 127 = .ok (.aload_n 2, 1) := by decide +kernel
theorem dX6_stepsTo_128 : decode cX6_stepsTo 128 = .ok (.getfield 130, 3) := by decide +kernel
theorem dX6_stepsTo_131 : decode cX6_stepsTo 131 = .ok (.iload_n 3, 1) := by decide +kernel
theorem dX6_stepsTo_132 : decode cX6_stepsTo 132 = .ok (.iaload, 1) := by decide +kernel
theorem dX6_stepsTo_133 : decode cX6_stepsTo 133 = .ok (.invokevirtual 213, 3) := by decide +kernel
theorem dX6_stepsTo_136 : decode cX6_stepsTo 136 = .ok (.ireturn, 1) := by decide +kernel
theorem dX6_safest_0 : decode cX6_safest 0 = .ok (.aload_n 0, 1) := by decide +kernel
theorem dX6_safest_1 : decode cX6_safest 1 = .ok (.getfield 12, 3) := by decide +kernel
theorem dX6_safest_4 : decode cX6_safest 4 = .ok (.getfield 58, 3) := by decide +kernel
theorem dX6_safest_7 : decode cX6_safest 7 = .ok (.astore_n 1, 1) := by decide +kernel
theorem dX6_safest_8 : decode cX6_safest 8 = .ok (.aload_n 1, 1) := by decide +kernel
theorem dX6_safest_9 : decode cX6_safest 9 = .ok (.getfield 123, 3) := by decide +kernel
theorem dX6_safest_12 : decode cX6_safest 12 = .ok (.iconst 2, 1) := by decide +kernel
theorem dX6_safest_13 : decode cX6_safest 13 = .ok (.if_icmp .ge 6, 3) := by decide +kernel
theorem dX6_safest_16 : decode cX6_safest 16 = .ok (.bipush (-5), 2) := by decide +kernel
theorem dX6_safest_18 : decode cX6_safest 18 = .ok (.ireturn, 1) := by decide +kernel
theorem dX6_safest_19 : decode cX6_safest 19 = .ok (.bipush (-5), 2) := by decide +kernel
theorem dX6_safest_21 : decode cX6_safest 21 = .ok (.istore_n 2, 1) := by decide +kernel
theorem dX6_safest_22 : decode cX6_safest 22 = .ok (.iconst (-1), 1) := by decide +kernel
theorem dX6_safest_23 : decode cX6_safest 23 = .ok (.istore_n 3, 1) := by decide +kernel
theorem dX6_safest_24 : decode cX6_safest 24 = .ok (.iconst 0, 1) := by decide +kernel
theorem dX6_safest_25 : decode cX6_safest 25 = .ok (.istore 4, 2) := by decide +kernel
theorem dX6_safest_27 : decode cX6_safest 27 = .ok (.iload 4, 2) := by decide +kernel
theorem dX6_safest_29 : decode cX6_safest 29 = .ok (.aload_n 1, 1) := by decide +kernel
theorem dX6_safest_30 : decode cX6_safest 30 = .ok (.getfield 123, 3) := by decide +kernel
theorem dX6_safest_33 : decode cX6_safest 33 = .ok (.if_icmp .ge 42, 3) := by decide +kernel
theorem dX6_safest_36 : decode cX6_safest 36 = .ok (.iload 4, 2) := by decide +kernel
theorem dX6_safest_38 : decode cX6_safest 38 = .ok (.aload_n 1, 1) := by decide +kernel
theorem dX6_safest_39 : decode cX6_safest 39 = .ok (.getfield 191, 3) := by decide +kernel
theorem dX6_safest_42 : decode cX6_safest 42 = .ok (.if_icmp .ne 7, 3) := by decide +kernel
theorem dX6_safest_45 : decode cX6_safest 45 = .ok (.iconst (-1), 1) := by decide +kernel
theorem dX6_safest_46 : decode cX6_safest 46 = .ok (.goto 9, 3) := by decide +kernel
theorem dX6_safest_49 : decode cX6_safest 49 = .ok (.aload_n 0, 1) := by decide +kernel
theorem dX6_safest_50 : decode cX6_safest 50 = .ok (.iload 4, 2) := by decide +kernel
theorem dX6_safest_52 : decode cX6_safest 52 = .ok (.invokevirtual 216, 3) := by decide +kernel
theorem dX6_safest_55 : decode cX6_safest 55 = .ok (.istore 5, 2) := by decide +kernel
theorem dX6_safest_57 : decode cX6_safest 57 = .ok (.iload 5, 2) := by decide +kernel
theorem dX6_safest_59 : decode cX6_safest 59 = .ok (.iload_n 3, 1) := by decide +kernel
theorem dX6_safest_60 : decode cX6_safest 60 = .ok (.if_icmp .le 9, 3) := by decide +kernel
theorem dX6_safest_63 : decode cX6_safest 63 = .ok (.iload 4, 2) := by decide +kernel
theorem dX6_safest_65 : decode cX6_safest 65 = .ok (.istore_n 2, 1) := by decide +kernel
theorem dX6_safest_66 : decode cX6_safest 66 = .ok (.iload 5, 2) := by decide +kernel
theorem dX6_safest_68 : decode cX6_safest 68 = .ok (.istore_n 3, 1) := by decide +kernel
theorem dX6_safest_69 : decode cX6_safest 69 = .ok (.iinc 4 1, 3) := by decide +kernel
theorem dX6_safest_72 : decode cX6_safest 72 = .ok (.goto (-45), 3) := by decide +kernel
theorem dX6_safest_75 : decode cX6_safest 75 = .ok (.iload_n 2, 1) := by decide +kernel
theorem dX6_safest_76 : decode cX6_safest 76 = .ok (.ireturn, 1) := by decide +kernel
theorem dX6_ifTurns_0 : decode cX6_ifTurns 0 = .ok (.iload_n 1, 1) := by decide +kernel
theorem dX6_ifTurns_1 : decode cX6_ifTurns 1 = .ok (.iconst 1, 1) := by decide +kernel
theorem dX6_ifTurns_2 : decode cX6_ifTurns 2 = .ok (.if_icmp .lt 18, 3) := by decide +kernel
theorem dX6_ifTurns_5 : decode cX6_ifTurns 5 = .ok (.iload_n 1, 1) := by decide +kernel
theorem dX6_ifTurns_6 : decode cX6_ifTurns 6 = .ok (.bipush 99, 2) := by decide +kernel
theorem dX6_ifTurns_8 : decode cX6_ifTurns 8 = .ok (.if_icmp .gt 12, 3) := by decide +kernel
theorem dX6_ifTurns_11 : decode cX6_ifTurns 11 = .ok (.iload_n 2, 1) := by decide +kernel
theorem dX6_ifTurns_12 : decode cX6_ifTurns 12 = .ok (.ifCond .lt 8, 3) := by decide +kernel
theorem dX6_ifTurns_15 : decode cX6_ifTurns 15 = .ok (.iload_n 2, 1) := by decide +kernel
theorem dX6_ifTurns_16 : decode cX6_ifTurns 16 = .ok (.iconst 2, 1) := by decide +kernel
theorem dX6_ifTurns_17 : decode cX6_ifTurns 17 = .ok (.if_icmp .le 6, 3) := by decide +kernel
theorem dX6_ifTurns_20 : decode cX6_ifTurns 20 = .ok (.bipush (-2), 2) := by decide +kernel
theorem dX6_ifTurns_22 : decode cX6_ifTurns 22 = .ok (.ireturn, 1) := by decide +kernel
theorem dX6_ifTurns_23 : decode cX6_ifTurns 23 = .ok (.aload_n 0, 1) := by decide +kernel
theorem dX6_ifTurns_24 : decode cX6_ifTurns 24 = .ok (.getfield 16, 3) := by decide +kernel
theorem dX6_ifTurns_27 : decode cX6_ifTurns 27 = .ok (.aload_n 0, 1) := by decide +kernel
theorem dX6_ifTurns_28 : decode cX6_ifTurns 28 = .ok (.getfield 12, 3) := by decide +kernel
theorem dX6_ifTurns_31 : decode cX6_ifTurns 31 = .ok (.invokevirtual 54, 3) := by decide +kernel
theorem dX6_ifTurns_34 : decode cX6_ifTurns 34 = .ok (.iconst 0, 1) := by decide +kernel
theorem dX6_ifTurns_35 : decode cX6_ifTurns 35 = .ok (.istore_n 3, 1) := by decide +kernel
theorem dX6_ifTurns_36 : decode cX6_ifTurns 36 = .ok (.bipush (-5), 2) := by decide +kernel
theorem dX6_ifTurns_38 : decode cX6_ifTurns 38 = .ok (.istore 4, 2) := by decide +kernel
theorem dX6_ifTurns_40 : decode cX6_ifTurns 40 = .ok (.iconst 1, 1) := by decide +kernel
theorem dX6_ifTurns_41 : decode cX6_ifTurns 41 = .ok (.istore 5, 2) := by decide +kernel
theorem dX6_ifTurns_43 : decode cX6_ifTurns 43 = .ok (.iload 5, 2) := by decide +kernel
theorem dX6_ifTurns_45 : decode cX6_ifTurns 45 = .ok (.iload_n 1, 1) := by decide +kernel
theorem dX6_ifTurns_46 : decode cX6_ifTurns 46 = .ok (.if_icmp .gt 38, 3) := by decide +kernel
theorem dX6_ifTurns_49 : decode cX6_ifTurns 49 = .ok (.aload_n 0, 1) := by decide +kernel
theorem dX6_ifTurns_50 : decode cX6_ifTurns 50 = .ok (.getfield 16, 3) := by decide +kernel
theorem dX6_ifTurns_53 : decode cX6_ifTurns 53 = .ok (.invokevirtual 219, 3) := by decide +kernel
theorem dX6_ifTurns_56 : decode cX6_ifTurns 56 = .ok (.ifCond .eq 22, 3) := by decide +kernel
theorem dX6_ifTurns_59 : decode cX6_ifTurns 59 = .ok (.iinc 3 1, 3) := by decide +kernel
theorem dX6_ifTurns_62 : decode cX6_ifTurns 62 = .ok (.iload 4, 2) := by decide +kernel
theorem dX6_ifTurns_64 : decode cX6_ifTurns 64 = .ok (.bipush (-5), 2) := by decide +kernel
theorem dX6_ifTurns_66 : decode cX6_ifTurns 66 = .ok (.if_icmp .ne 8, 3) := by decide +kernel
theorem dX6_ifTurns_69 : decode cX6_ifTurns 69 = .ok (.iload 5, 2) := by decide +kernel
theorem dX6_ifTurns_71 : decode cX6_ifTurns 71 = .ok (.goto 5, 3) := by decide +kernel
theorem dX6_ifTurns_74 : decode cX6_ifTurns 74 = .ok (.iload 4, 2) := by decide +kernel
theorem dX6_ifTurns_76 : decode cX6_ifTurns 76 = .ok (.istore 4, 2) := by decide +kernel
theorem dX6_ifTurns_78 : decode cX6_ifTurns 78 = .ok (.iinc 5 1, 3) := by decide +kernel
theorem dX6_ifTurns_81 : decode cX6_ifTurns 81 = .ok (.goto (-38), 3) := by decide +kernel
theorem dX6_ifTurns_84 : decode cX6_ifTurns 84 = .ok (.iload_n 2, 1) := by decide +kernel
theorem dX6_ifTurns_85 : decode cX6_ifTurns 85 = .ok (.lookupswitch 40 #[(0, 27), (1, 29)], 27) := by decide +kernel
theorem dX6_ifTurns_112 : decode cX6_ifTurns 112 = .ok (.iload_n 3, 1) := by decide +kernel
theorem dX6_ifTurns_113 : decode cX6_ifTurns 113 = .ok (.ireturn, 1) := by decide +kernel
theorem dX6_ifTurns_114 : decode cX6_ifTurns 114 = .ok (.aload_n 0, 1) := by decide +kernel
theorem dX6_ifTurns_115 : decode cX6_ifTurns 115 = .ok (.getfield 16, 3) := by decide +kernel
theorem dX6_ifTurns_118 : decode cX6_ifTurns 118 = .ok (.getfield 58, 3) := by decide +kernel
theorem dX6_ifTurns_121 : decode cX6_ifTurns 121 = .ok (.getfield 191, 3) := by decide +kernel
theorem dX6_ifTurns_124 : decode cX6_ifTurns 124 = .ok (.ireturn, 1) := by decide +kernel
theorem dX6_ifTurns_125 : decode cX6_ifTurns 125 = .ok (.iload 4, 2) := by decide +kernel
theorem dX6_ifTurns_127 : decode cX6_ifTurns 127 = .ok (.ireturn, 1) := by decide +kernel
theorem dX6_count_0 : decode cX6_count 0 = .ok (.iload_n 1, 1) := by decide +kernel
theorem dX6_count_1 : decode cX6_count 1 = .ok (.tableswitch 202 0 13 #[71, 79, 90, 101, 112, 117, 125, 136, 147, 158, 166, 176, 186, 194], 71) := by decide +kernel
theorem dX6_count_72 : decode cX6_count 72 = .ok (.aload_n 0, 1) := by decide +kernel
theorem dX6_count_73 : decode cX6_count 73 = .ok (.getfield 12, 3) := by decide +kernel
theorem dX6_count_76 : decode cX6_count 76 = .ok (.getfield 223, 3) := by decide +kernel
theorem dX6_count_79 : decode cX6_count 79 = .ok (.ireturn, 1) := by decide +kernel
theorem dX6_count_80 : decode cX6_count 80 = .ok (.aload_n 0, 1) := by decide +kernel
theorem dX6_count_81 : decode cX6_count 81 = .ok (.getfield 12, 3) := by decide +kernel
theorem dX6_count_84 : decode cX6_count 84 = .ok (.getfield 58, 3) := by decide +kernel
theorem dX6_count_87 : decode cX6_count 87 = .ok (.getfield 123, 3) := by decide +kernel
theorem dX6_count_90 : decode cX6_count 90 = .ok (.ireturn, 1) := by decide +kernel
theorem dX6_count_91 : decode cX6_count 91 = .ok (.aload_n 0, 1) := by decide +kernel
theorem dX6_count_92 : decode cX6_count 92 = .ok (.getfield 12, 3) := by decide +kernel
theorem dX6_count_95 : decode cX6_count 95 = .ok (.getfield 58, 3) := by decide +kernel
theorem dX6_count_98 : decode cX6_count 98 = .ok (.getfield 191, 3) := by decide +kernel
theorem dX6_count_101 : decode cX6_count 101 = .ok (.ireturn, 1) := by decide +kernel
theorem dX6_count_102 : decode cX6_count 102 = .ok (.aload_n 0, 1) := by decide +kernel
theorem dX6_count_103 : decode cX6_count 103 = .ok (.getfield 12, 3) := by decide +kernel
theorem dX6_count_106 : decode cX6_count 106 = .ok (.getfield 75, 3) := by decide +kernel
theorem dX6_count_109 : decode cX6_count 109 = .ok (.invokevirtual 226, 3) := by decide +kernel
theorem dX6_count_112 : decode cX6_count 112 = .ok (.ireturn, 1) := by decide +kernel
theorem dX6_count_113 : decode cX6_count 113 = .ok (.aload_n 0, 1) := by decide +kernel
theorem dX6_count_114 : decode cX6_count 114 = .ok (.invokevirtual 229, 3) := by decide +kernel
theorem dX6_count_117 : decode cX6_count 117 = .ok (.ireturn, 1) := by decide +kernel
theorem dX6_count_118 : decode cX6_count 118 = .ok (.aload_n 0, 1) := by decide +kernel
theorem dX6_count_119 : decode cX6_count 119 = .ok (.getfield 12, 3) := by decide +kernel
theorem dX6_count_122 : decode cX6_count 122 = .ok (.invokevirtual 232, 3) := by decide +kernel
theorem dX6_count_125 : decode cX6_count 125 = .ok (.ireturn, 1) := by decide +kernel
theorem dX6_count_126 : decode cX6_count 126 = .ok (.aload_n 0, 1) := by decide +kernel
theorem dX6_count_127 : decode cX6_count 127 = .ok (.getfield 12, 3) := by decide +kernel
theorem dX6_count_130 : decode cX6_count 130 = .ok (.getfield 58, 3) := by decide +kernel
theorem dX6_count_133 : decode cX6_count 133 = .ok (.getfield 235, 3) := by decide +kernel
theorem dX6_count_136 : decode cX6_count 136 = .ok (.ireturn, 1) := by decide +kernel
theorem dX6_count_137 : decode cX6_count 137 = .ok (.aload_n 0, 1) := by decide +kernel
theorem dX6_count_138 : decode cX6_count 138 = .ok (.getfield 12, 3) := by decide +kernel
theorem dX6_count_141 : decode cX6_count 141 = .ok (.getfield 58, 3) := by decide +kernel
theorem dX6_count_144 : decode cX6_count 144 = .ok (.getfield 238, 3) := by decide +kernel
theorem dX6_count_147 : decode cX6_count 147 = .ok (.ireturn, 1) := by decide +kernel
theorem dX6_count_148 : decode cX6_count 148 = .ok (.aload_n 0, 1) := by decide +kernel
theorem dX6_count_149 : decode cX6_count 149 = .ok (.getfield 12, 3) := by decide +kernel
theorem dX6_count_152 : decode cX6_count 152 = .ok (.getfield 58, 3) := by decide +kernel
theorem dX6_count_155 : decode cX6_count 155 = .ok (.getfield 241, 3) := by decide +kernel
theorem dX6_count_158 : decode cX6_count 158 = .ok (.ireturn, 1) := by decide +kernel
theorem dX6_count_159 : decode cX6_count 159 = .ok (.aload_n 0, 1) := by decide +kernel
theorem dX6_count_160 : decode cX6_count 160 = .ok (.getfield 12, 3) := by decide +kernel
theorem dX6_count_163 : decode cX6_count 163 = .ok (.getfield 244, 3) := by decide +kernel
theorem dX6_count_166 : decode cX6_count 166 = .ok (.ireturn, 1) := by decide +kernel
theorem dX6_count_167 : decode cX6_count 167 = .ok (.aload_n 0, 1) := by decide +kernel
theorem dX6_count_168 : decode cX6_count 168 = .ok (.getfield 12, 3) := by decide +kernel
theorem dX6_count_171 : decode cX6_count 171 = .ok (.getfield 88, 3) := by decide +kernel
theorem dX6_count_174 : decode cX6_count 174 = .ok (.iconst 0, 1) := by decide +kernel
theorem dX6_count_175 : decode cX6_count 175 = .ok (.iaload, 1) := by decide +kernel
theorem dX6_count_176 : decode cX6_count 176 = .ok (.ireturn, 1) := by decide +kernel
theorem dX6_count_177 : decode cX6_count 177 = .ok (.aload_n 0, 1) := by decide +kernel
theorem dX6_count_178 : decode cX6_count 178 = .ok (.getfield 12, 3) := by decide +kernel
theorem dX6_count_181 : decode cX6_count 181 = .ok (.getfield 88, 3) := by decide +kernel
theorem dX6_count_184 : decode cX6_count 184 = .ok (.iconst 1, 1) := by decide +kernel
theorem dX6_count_185 : decode cX6_count 185 = .ok (.iaload, 1) := by decide +kernel
theorem dX6_count_186 : decode cX6_count 186 = .ok (.ireturn, 1) := by decide +kernel
theorem dX6_count_187 : decode cX6_count 187 = .ok (.aload_n 0, 1) := by decide +kernel
theorem dX6_count_188 : decode cX6_count 188 = .ok (.getfield 25, 3) := by decide +kernel
theorem dX6_count_191 : decode cX6_count 191 = .ok (.getfield 120, 3) := by decide +kernel
theorem dX6_count_194 : decode cX6_count 194 = .ok (.ireturn, 1) := by decide +kernel
theorem dX6_count_195 : decode cX6_count 195 = .ok (.aload_n 0, 1) := by decide +kernel
theorem dX6_count_196 : decode cX6_count 196 = .ok (.getfield 32, 3) := by decide +kernel
theorem dX6_count_199 : decode cX6_count 199 = .ok (.getfield 247, 3) := by decide +kernel
theorem dX6_count_202 : decode cX6_count 202 = .ok (.ireturn, 1) := by decide +kernel
theorem dX6_count_203 : decode cX6_count 203 = .ok (.bipush (-2), 2) := by decide +kernel
theorem dX6_count_205 : decode cX6_count 205 = .ok (.ireturn, 1) := by decide +kernel
theorem dX6_takeOver_0 : decode cX6_takeOver 0 = .ok (.iload_n 1, 1) := by decide +kernel
theorem dX6_takeOver_1 : decode cX6_takeOver 1 = .ok (.ifCond .lt 25, 3) := by decide +kernel
theorem dX6_takeOver_4 : decode cX6_takeOver 4 = .ok (.aload_n 0, 1) := by decide +kernel
theorem dX6_takeOver_5 : decode cX6_takeOver 5 = .ok (.getfield 25, 3) := by decide +kernel
theorem dX6_takeOver_8 : decode cX6_takeOver 8 = .ok (.aload_n 0, 1) := by decide +kernel
theorem dX6_takeOver_9 : decode cX6_takeOver 9 = .ok (.getfield 12, 3) := by decide +kernel
theorem dX6_takeOver_12 : decode cX6_takeOver 12 = .ok (.invokevirtual 250, 3) := by decide +kernel
theorem dX6_takeOver_15 : decode cX6_takeOver 15 = .ok (.aload_n 0, 1) := by decide +kernel
theorem dX6_takeOver_16 : decode cX6_takeOver 16 = .ok (.getfield 12, 3) := by decide +kernel
theorem dX6_takeOver_19 : decode cX6_takeOver 19 = .ok (.aload_n 0, 1) := by decide +kernel
theorem dX6_takeOver_20 : decode cX6_takeOver 20 = .ok (.getfield 16, 3) := by decide +kernel
theorem dX6_takeOver_23 : decode cX6_takeOver 23 = .ok (.invokevirtual 54, 3) := by decide +kernel
theorem dX6_takeOver_26 : decode cX6_takeOver 26 = .ok (.iload_n 1, 1) := by decide +kernel
theorem dX6_takeOver_27 : decode cX6_takeOver 27 = .ok (.ireturn, 1) := by decide +kernel
theorem dX6_cellsInShadowsOf_0 : decode cX6_cellsInShadowsOf 0 = .ok (.aload_n 0, 1) := by decide +kernel
theorem dX6_cellsInShadowsOf_1 : decode cX6_cellsInShadowsOf 1 = .ok (.getfield 39, 3) := by decide +kernel
theorem dX6_cellsInShadowsOf_4 : decode cX6_cellsInShadowsOf 4 = .ok (.invokevirtual 203, 3) := by decide +kernel
theorem dX6_cellsInShadowsOf_7 : decode cX6_cellsInShadowsOf 7 = .ok (.aload_n 0, 1) := by decide +kernel
theorem dX6_cellsInShadowsOf_8 : decode cX6_cellsInShadowsOf 8 = .ok (.getfield 12, 3) := by decide +kernel
theorem dX6_cellsInShadowsOf_11 : decode cX6_cellsInShadowsOf 11 = .ok (.iload_n 1, 1) := by decide +kernel
theorem dX6_cellsInShadowsOf_12 : decode cX6_cellsInShadowsOf 12 = .ok (.aload_n 0, 1) := by decide +kernel
theorem dX6_cellsInShadowsOf_13 : decode cX6_cellsInShadowsOf 13 = .ok (.getfield 39, 3) := by decide +kernel
theorem dX6_cellsInShadowsOf_16 : decode cX6_cellsInShadowsOf 16 = .ok (.invokevirtual 205, 3) := by decide +kernel
theorem dX6_cellsInShadowsOf_19 : decode cX6_cellsInShadowsOf 19 = .ok (.aload_n 0, 1) := by decide +kernel
theorem dX6_cellsInShadowsOf_20 : decode cX6_cellsInShadowsOf 20 = .ok (.getfield 39, 3) := by decide +kernel
theorem dX6_cellsInShadowsOf_23 : decode cX6_cellsInShadowsOf 23 = .ok (.invokevirtual 262, 3) := by decide +kernel
theorem dX6_cellsInShadowsOf_26 : decode cX6_cellsInShadowsOf 26 = .ok (.ireturn, 1) := by decide +kernel
theorem dX6_cellsInShadowsBy_0 : decode cX6_cellsInShadowsBy 0 = .ok (.aload_n 0, 1) := by decide +kernel
theorem dX6_cellsInShadowsBy_1 : decode cX6_cellsInShadowsBy 1 = .ok (.getfield 39, 3) := by decide +kernel
theorem dX6_cellsInShadowsBy_4 : decode cX6_cellsInShadowsBy 4 = .ok (.invokevirtual 203, 3) := by decide +kernel
theorem dX6_cellsInShadowsBy_7 : decode cX6_cellsInShadowsBy 7 = .ok (.iconst 0, 1) := by decide +kernel
theorem dX6_cellsInShadowsBy_8 : decode cX6_cellsInShadowsBy 8 = .ok (.istore_n 2, 1) := by decide +kernel
theorem dX6_cellsInShadowsBy_9 : decode cX6_cellsInShadowsBy 9 = .ok (.iload_n 2, 1) := by decide +kernel
theorem dX6_cellsInShadowsBy_10 : decode cX6_cellsInShadowsBy 10 = .ok (.aload_n 0, 1) := by decide +kernel
theorem dX6_cellsInShadowsBy_11 : decode cX6_cellsInShadowsBy 11 = .ok (.getfield 12, 3) := by decide +kernel
theorem dX6_cellsInShadowsBy_14 : decode cX6_cellsInShadowsBy 14 = .ok (.getfield 58, 3) := by decide +kernel
theorem dX6_cellsInShadowsBy_17 : decode cX6_cellsInShadowsBy 17 = .ok (.getfield 123, 3) := by decide +kernel
theorem dX6_cellsInShadowsBy_20 : decode cX6_cellsInShadowsBy 20 = .ok (.if_icmp .ge 22, 3) := by decide +kernel
theorem dX6_cellsInShadowsBy_23 : decode cX6_cellsInShadowsBy 23 = .ok (.aload_n 0, 1) := by decide +kernel
theorem dX6_cellsInShadowsBy_24 : decode cX6_cellsInShadowsBy 24 = .ok (.getfield 12, 3) := by decide +kernel
theorem dX6_cellsInShadowsBy_27 : decode cX6_cellsInShadowsBy 27 = .ok (.iload_n 2, 1) := by decide +kernel
theorem dX6_cellsInShadowsBy_28 : decode cX6_cellsInShadowsBy 28 = .ok (.iload_n 1, 1) := by decide +kernel
theorem dX6_cellsInShadowsBy_29 : decode cX6_cellsInShadowsBy 29 = .ok (.aload_n 0, 1) := by decide +kernel
theorem dX6_cellsInShadowsBy_30 : decode cX6_cellsInShadowsBy 30 = .ok (.getfield 39, 3) := by decide +kernel
theorem dX6_cellsInShadowsBy_33 : decode cX6_cellsInShadowsBy 33 = .ok (.invokevirtual 265, 3) := by decide +kernel
theorem dX6_cellsInShadowsBy_36 : decode cX6_cellsInShadowsBy 36 = .ok (.iinc 2 1, 3) := by decide +kernel
theorem dX6_cellsInShadowsBy_39 : decode cX6_cellsInShadowsBy 39 = .ok (.goto (-30), 3) := by decide +kernel
theorem dX6_cellsInShadowsBy_42 : decode cX6_cellsInShadowsBy 42 = .ok (.aload_n 0, 1) := by decide +kernel
theorem dX6_cellsInShadowsBy_43 : decode cX6_cellsInShadowsBy 43 = .ok (.getfield 39, 3) := by decide +kernel
theorem dX6_cellsInShadowsBy_46 : decode cX6_cellsInShadowsBy 46 = .ok (.invokevirtual 262, 3) := by decide +kernel
theorem dX6_cellsInShadowsBy_49 : decode cX6_cellsInShadowsBy 49 = .ok (.ireturn, 1) := by decide +kernel
theorem dX6_cellsInAnyShadow_0 : decode cX6_cellsInAnyShadow 0 = .ok (.aload_n 0, 1) := by decide +kernel
theorem dX6_cellsInAnyShadow_1 : decode cX6_cellsInAnyShadow 1 = .ok (.getfield 39, 3) := by decide +kernel
theorem dX6_cellsInAnyShadow_4 : decode cX6_cellsInAnyShadow 4 = .ok (.invokevirtual 203, 3) := by decide +kernel
theorem dX6_cellsInAnyShadow_7 : decode cX6_cellsInAnyShadow 7 = .ok (.iconst 0, 1) := by decide +kernel
theorem dX6_cellsInAnyShadow_8 : decode cX6_cellsInAnyShadow 8 = .ok (.istore_n 1, 1) := by decide +kernel
theorem dX6_cellsInAnyShadow_9 : decode cX6_cellsInAnyShadow 9 = .ok (.iload_n 1, 1) := by decide +kernel
theorem dX6_cellsInAnyShadow_10 : decode cX6_cellsInAnyShadow 10 = .ok (.aload_n 0, 1) := by decide +kernel
theorem dX6_cellsInAnyShadow_11 : decode cX6_cellsInAnyShadow 11 = .ok (.getfield 12, 3) := by decide +kernel
theorem dX6_cellsInAnyShadow_14 : decode cX6_cellsInAnyShadow 14 = .ok (.getfield 58, 3) := by decide +kernel
theorem dX6_cellsInAnyShadow_17 : decode cX6_cellsInAnyShadow 17 = .ok (.getfield 123, 3) := by decide +kernel
theorem dX6_cellsInAnyShadow_20 : decode cX6_cellsInAnyShadow 20 = .ok (.if_icmp .ge 21, 3) := by decide +kernel
theorem dX6_cellsInAnyShadow_23 : decode cX6_cellsInAnyShadow 23 = .ok (.aload_n 0, 1) := by decide +kernel
theorem dX6_cellsInAnyShadow_24 : decode cX6_cellsInAnyShadow 24 = .ok (.getfield 12, 3) := by decide +kernel
theorem dX6_cellsInAnyShadow_27 : decode cX6_cellsInAnyShadow 27 = .ok (.iload_n 1, 1) := by decide +kernel
theorem dX6_cellsInAnyShadow_28 : decode cX6_cellsInAnyShadow 28 = .ok (.aload_n 0, 1) := by decide +kernel
theorem dX6_cellsInAnyShadow_29 : decode cX6_cellsInAnyShadow 29 = .ok (.getfield 39, 3) := by decide +kernel
theorem dX6_cellsInAnyShadow_32 : decode cX6_cellsInAnyShadow 32 = .ok (.invokevirtual 205, 3) := by decide +kernel
theorem dX6_cellsInAnyShadow_35 : decode cX6_cellsInAnyShadow 35 = .ok (.iinc 1 1, 3) := by decide +kernel
theorem dX6_cellsInAnyShadow_38 : decode cX6_cellsInAnyShadow 38 = .ok (.goto (-29), 3) := by decide +kernel
theorem dX6_cellsInAnyShadow_41 : decode cX6_cellsInAnyShadow 41 = .ok (.aload_n 0, 1) := by decide +kernel
theorem dX6_cellsInAnyShadow_42 : decode cX6_cellsInAnyShadow 42 = .ok (.getfield 39, 3) := by decide +kernel
theorem dX6_cellsInAnyShadow_45 : decode cX6_cellsInAnyShadow 45 = .ok (.invokevirtual 262, 3) := by decide +kernel
theorem dX6_cellsInAnyShadow_48 : decode cX6_cellsInAnyShadow 48 = .ok (.ireturn, 1) := by decide +kernel
theorem dX6_stepsOrFarthest_0 : decode cX6_stepsOrFarthest 0 = .ok (.aload_n 0, 1) := by decide +kernel
theorem dX6_stepsOrFarthest_1 : decode cX6_stepsOrFarthest 1 = .ok (.iload_n 1, 1) := by decide +kernel
theorem dX6_stepsOrFarthest_2 : decode cX6_stepsOrFarthest 2 = .ok (.invokevirtual 269, 3) := by decide +kernel
theorem dX6_stepsOrFarthest_5 : decode cX6_stepsOrFarthest 5 = .ok (.istore_n 2, 1) := by decide +kernel
theorem dX6_stepsOrFarthest_6 : decode cX6_stepsOrFarthest 6 = .ok (.iload_n 2, 1) := by decide +kernel
theorem dX6_stepsOrFarthest_7 : decode cX6_stepsOrFarthest 7 = .ok (.ifCond .ge 8, 3) := by decide +kernel
theorem dX6_stepsOrFarthest_10 : decode cX6_stepsOrFarthest 10 = .ok (.bipush 100, 2) := by decide +kernel
theorem dX6_stepsOrFarthest_12 : decode cX6_stepsOrFarthest 12 = .ok (.goto 4, 3) := by decide +kernel
theorem dX6_stepsOrFarthest_15 : decode cX6_stepsOrFarthest 15 = .ok (.iload_n 2, 1) := by decide +kernel
theorem dX6_stepsOrFarthest_16 : decode cX6_stepsOrFarthest 16 = .ok (.ireturn, 1) := by decide +kernel
theorem dX6_isCell_0 : decode cX6_isCell 0 = .ok (.iload_n 0, 1) := by decide +kernel
theorem dX6_isCell_1 : decode cX6_isCell 1 = .ok (.ifCond .lt 13, 3) := by decide +kernel
theorem dX6_isCell_4 : decode cX6_isCell 4 = .ok (.iload_n 0, 1) := by decide +kernel
theorem dX6_isCell_5 : decode cX6_isCell 5 = .ok (.bipush 100, 2) := by decide +kernel
theorem dX6_isCell_7 : decode cX6_isCell 7 = .ok (.if_icmp .ge 7, 3) := by decide +kernel
theorem dX6_isCell_10 : decode cX6_isCell 10 = .ok (.iconst 1, 1) := by decide +kernel
theorem dX6_isCell_11 : decode cX6_isCell 11 = .ok (.goto 4, 3) := by decide +kernel
theorem dX6_isCell_14 : decode cX6_isCell 14 = .ok (.iconst 0, 1) := by decide +kernel
theorem dX6_isCell_15 : decode cX6_isCell 15 = .ok (.ireturn, 1) := by decide +kernel
theorem dX6_isLamp_0 : decode cX6_isLamp 0 = .ok (.iload_n 0, 1) := by decide +kernel
theorem dX6_isLamp_1 : decode cX6_isLamp 1 = .ok (.ifCond .lt 12, 3) := by decide +kernel
theorem dX6_isLamp_4 : decode cX6_isLamp 4 = .ok (.iload_n 0, 1) := by decide +kernel
theorem dX6_isLamp_5 : decode cX6_isLamp 5 = .ok (.iconst 3, 1) := by decide +kernel
theorem dX6_isLamp_6 : decode cX6_isLamp 6 = .ok (.if_icmp .ge 7, 3) := by decide +kernel
theorem dX6_isLamp_9 : decode cX6_isLamp 9 = .ok (.iconst 1, 1) := by decide +kernel
theorem dX6_isLamp_10 : decode cX6_isLamp 10 = .ok (.goto 4, 3) := by decide +kernel
theorem dX6_isLamp_13 : decode cX6_isLamp 13 = .ok (.iconst 0, 1) := by decide +kernel
theorem dX6_isLamp_14 : decode cX6_isLamp 14 = .ok (.ireturn, 1) := by decide +kernel
theorem dX6_replace_0 : decode cX6_replace 0 = .ok (.iload_n 1, 1) := by decide +kernel
theorem dX6_replace_1 : decode cX6_replace 1 = .ok (.ifCond .lt 9, 3) := by decide +kernel
theorem dX6_replace_4 : decode cX6_replace 4 = .ok (.iload_n 1, 1) := by decide +kernel
theorem dX6_replace_5 : decode cX6_replace 5 = .ok (.aload_n 0, 1) := by decide +kernel
theorem dX6_replace_6 : decode cX6_replace 6 = .ok (.arraylength, 1) := by decide +kernel
theorem dX6_replace_7 : decode cX6_replace 7 = .ok (.if_icmp .lt 5, 3) := by decide +kernel
theorem dX6_replace_10 : decode cX6_replace 10 = .ok (.iconst (-1), 1) := by decide +kernel
theorem dX6_replace_11 : decode cX6_replace 11 = .ok (.ireturn, 1) := by decide +kernel
theorem dX6_replace_12 : decode cX6_replace 12 = .ok (.iload_n 2, 1) := by decide +kernel
theorem dX6_replace_13 : decode cX6_replace 13 = .ok (.iload_n 3, 1) := by decide +kernel
theorem dX6_replace_14 : decode cX6_replace 14 = .ok (.if_icmp .lt 9, 3) := by decide +kernel
theorem dX6_replace_17 : decode cX6_replace 17 = .ok (.iload_n 2, 1) := by decide +kernel
theorem dX6_replace_18 : decode cX6_replace 18 = .ok (.iload 4, 2) := by decide +kernel
theorem dX6_replace_20 : decode cX6_replace 20 = .ok (.if_icmp .le 6, 3) := by decide +kernel
theorem dX6_replace_23 : decode cX6_replace 23 = .ok (.bipush (-2), 2) := by decide +kernel
theorem dX6_replace_25 : decode cX6_replace 25 = .ok (.ireturn, 1) := by decide +kernel
theorem dX6_replace_26 : decode cX6_replace 26 = .ok (.aload_n 0, 1) := by decide +kernel
theorem dX6_replace_27 : decode cX6_replace 27 = .ok (.iload_n 1, 1) := by decide +kernel
theorem dX6_replace_28 : decode cX6_replace 28 = .ok (.iaload, 1) := by decide +kernel
theorem dX6_replace_29 : decode cX6_replace 29 = .ok (.istore 5, 2) := by decide +kernel
theorem dX6_replace_31 : decode cX6_replace 31 = .ok (.iload 5, 2) := by decide +kernel
theorem dX6_replace_33 : decode cX6_replace 33 = .ok (.iload_n 2, 1) := by decide +kernel
theorem dX6_replace_34 : decode cX6_replace 34 = .ok (.if_icmp .ne 6, 3) := by decide +kernel
theorem dX6_replace_37 : decode cX6_replace 37 = .ok (.bipush (-5), 2) := by decide +kernel
theorem dX6_replace_39 : decode cX6_replace 39 = .ok (.ireturn, 1) := by decide +kernel
theorem dX6_replace_40 : decode cX6_replace 40 = .ok (.aload_n 0, 1) := by decide +kernel
theorem dX6_replace_41 : decode cX6_replace 41 = .ok (.iload_n 1, 1) := by decide +kernel
theorem dX6_replace_42 : decode cX6_replace 42 = .ok (.iload_n 2, 1) := by decide +kernel
theorem dX6_replace_43 : decode cX6_replace 43 = .ok (.iastore, 1) := by decide +kernel
theorem dX6_replace_44 : decode cX6_replace 44 = .ok (.iload 5, 2) := by decide +kernel
theorem dX6_replace_46 : decode cX6_replace 46 = .ok (.ireturn, 1) := by decide +kernel
theorem dX6_copyRow_0 : decode cX6_copyRow 0 = .ok (.aload_n 0, 1) := by decide +kernel
theorem dX6_copyRow_1 : decode cX6_copyRow 1 = .ok (.iconst 0, 1) := by decide +kernel
theorem dX6_copyRow_2 : decode cX6_copyRow 2 = .ok (.aload_n 1, 1) := by decide +kernel
theorem dX6_copyRow_3 : decode cX6_copyRow 3 = .ok (.iconst 0, 1) := by decide +kernel
theorem dX6_copyRow_4 : decode cX6_copyRow 4 = .ok (.aload_n 0, 1) := by decide +kernel
theorem dX6_copyRow_5 : decode cX6_copyRow 5 = .ok (.arraylength, 1) := by decide +kernel
theorem dX6_copyRow_6 : decode cX6_copyRow 6 = .ok (.aload_n 1, 1) := by decide +kernel
theorem dX6_copyRow_7 : decode cX6_copyRow 7 = .ok (.arraylength, 1) := by decide +kernel
theorem dX6_copyRow_8 : decode cX6_copyRow 8 = .ok (.invokestatic 272, 3) := by decide +kernel
theorem dX6_copyRow_11 : decode cX6_copyRow 11 = .ok (.invokestatic 277, 3) := by decide +kernel
theorem dX6_copyRow_14 : decode cX6_copyRow 14 = .ok (.return_, 1) := by decide +kernel
theorem dX6_opposite_0 : decode cX6_opposite 0 = .ok (.iload_n 0, 1) := by decide +kernel
theorem dX6_opposite_1 : decode cX6_opposite 1 = .ok (.iconst 2, 1) := by decide +kernel
theorem dX6_opposite_2 : decode cX6_opposite 2 = .ok (.iadd, 1) := by decide +kernel
theorem dX6_opposite_3 : decode cX6_opposite 3 = .ok (.iconst 4, 1) := by decide +kernel
theorem dX6_opposite_4 : decode cX6_opposite 4 = .ok (.irem, 1) := by decide +kernel
theorem dX6_opposite_5 : decode cX6_opposite 5 = .ok (.ireturn, 1) := by decide +kernel
theorem dX6_cellsToEdge_0 : decode cX6_cellsToEdge 0 = .ok (.iload_n 1, 1) := by decide +kernel
theorem dX6_cellsToEdge_1 : decode cX6_cellsToEdge 1 = .ok (.tableswitch 57 0 3 #[31, 36, 44, 52], 31) := by decide +kernel
theorem dX6_cellsToEdge_32 : decode cX6_cellsToEdge 32 = .ok (.iload_n 0, 1) := by decide +kernel
theorem dX6_cellsToEdge_33 : decode cX6_cellsToEdge 33 = .ok (.bipush 10, 2) := by decide +kernel
theorem dX6_cellsToEdge_35 : decode cX6_cellsToEdge 35 = .ok (.idiv, 1) := by decide +kernel
theorem dX6_cellsToEdge_36 : decode cX6_cellsToEdge 36 = .ok (.ireturn, 1) := by decide +kernel
theorem dX6_cellsToEdge_37 : decode cX6_cellsToEdge 37 = .ok (.bipush 9, 2) := by decide +kernel
theorem dX6_cellsToEdge_39 : decode cX6_cellsToEdge 39 = .ok (.iload_n 0, 1) := by decide +kernel
theorem dX6_cellsToEdge_40 : decode cX6_cellsToEdge 40 = .ok (.bipush 10, 2) := by decide +kernel
theorem dX6_cellsToEdge_42 : decode cX6_cellsToEdge 42 = .ok (.irem, 1) := by decide +kernel
theorem dX6_cellsToEdge_43 : decode cX6_cellsToEdge 43 = .ok (.isub, 1) := by decide +kernel
theorem dX6_cellsToEdge_44 : decode cX6_cellsToEdge 44 = .ok (.ireturn, 1) := by decide +kernel
theorem dX6_cellsToEdge_45 : decode cX6_cellsToEdge 45 = .ok (.bipush 9, 2) := by decide +kernel
theorem dX6_cellsToEdge_47 : decode cX6_cellsToEdge 47 = .ok (.iload_n 0, 1) := by decide +kernel
theorem dX6_cellsToEdge_48 : decode cX6_cellsToEdge 48 = .ok (.bipush 10, 2) := by decide +kernel
theorem dX6_cellsToEdge_50 : decode cX6_cellsToEdge 50 = .ok (.idiv, 1) := by decide +kernel
theorem dX6_cellsToEdge_51 : decode cX6_cellsToEdge 51 = .ok (.isub, 1) := by decide +kernel
theorem dX6_cellsToEdge_52 : decode cX6_cellsToEdge 52 = .ok (.ireturn, 1) := by decide +kernel
theorem dX6_cellsToEdge_53 : decode cX6_cellsToEdge 53 = .ok (.iload_n 0, 1) := by decide +kernel
theorem dX6_cellsToEdge_54 : decode cX6_cellsToEdge 54 = .ok (.bipush 10, 2) := by decide +kernel
theorem dX6_cellsToEdge_56 : decode cX6_cellsToEdge 56 = .ok (.irem, 1) := by decide +kernel
theorem dX6_cellsToEdge_57 : decode cX6_cellsToEdge 57 = .ok (.ireturn, 1) := by decide +kernel
theorem dX6_cellsToEdge_58 : decode cX6_cellsToEdge 58 = .ok (.iconst 0, 1) := by decide +kernel
theorem dX6_cellsToEdge_59 : decode cX6_cellsToEdge 59 = .ok (.ireturn, 1) := by decide +kernel
theorem dX6_cellAlong_0 : decode cX6_cellAlong 0 = .ok (.iload_n 1, 1) := by decide +kernel
theorem dX6_cellAlong_1 : decode cX6_cellAlong 1 = .ok (.tableswitch 53 0 3 #[31, 38, 42, 49], 31) := by decide +kernel
theorem dX6_cellAlong_32 : decode cX6_cellAlong 32 = .ok (.iload_n 0, 1) := by decide +kernel
theorem dX6_cellAlong_33 : decode cX6_cellAlong 33 = .ok (.bipush 10, 2) := by decide +kernel
theorem dX6_cellAlong_35 : decode cX6_cellAlong 35 = .ok (.iload_n 2, 1) := by decide +kernel
theorem dX6_cellAlong_36 : decode cX6_cellAlong 36 = .ok (.imul, 1) := by decide +kernel
theorem dX6_cellAlong_37 : decode cX6_cellAlong 37 = .ok (.isub, 1) := by decide +kernel
theorem dX6_cellAlong_38 : decode cX6_cellAlong 38 = .ok (.ireturn, 1) := by decide +kernel
theorem dX6_cellAlong_39 : decode cX6_cellAlong 39 = .ok (.iload_n 0, 1) := by decide +kernel
theorem dX6_cellAlong_40 : decode cX6_cellAlong 40 = .ok (.iload_n 2, 1) := by decide +kernel
theorem dX6_cellAlong_41 : decode cX6_cellAlong 41 = .ok (.iadd, 1) := by decide +kernel
theorem dX6_cellAlong_42 : decode cX6_cellAlong 42 = .ok (.ireturn, 1) := by decide +kernel
theorem dX6_cellAlong_43 : decode cX6_cellAlong 43 = .ok (.iload_n 0, 1) := by decide +kernel
theorem dX6_cellAlong_44 : decode cX6_cellAlong 44 = .ok (.bipush 10, 2) := by decide +kernel
theorem dX6_cellAlong_46 : decode cX6_cellAlong 46 = .ok (.iload_n 2, 1) := by decide +kernel
theorem dX6_cellAlong_47 : decode cX6_cellAlong 47 = .ok (.imul, 1) := by decide +kernel
theorem dX6_cellAlong_48 : decode cX6_cellAlong 48 = .ok (.iadd, 1) := by decide +kernel
theorem dX6_cellAlong_49 : decode cX6_cellAlong 49 = .ok (.ireturn, 1) := by decide +kernel
theorem dX6_cellAlong_50 : decode cX6_cellAlong 50 = .ok (.iload_n 0, 1) := by decide +kernel
theorem dX6_cellAlong_51 : decode cX6_cellAlong 51 = .ok (.iload_n 2, 1) := by decide +kernel
theorem dX6_cellAlong_52 : decode cX6_cellAlong 52 = .ok (.isub, 1) := by decide +kernel
theorem dX6_cellAlong_53 : decode cX6_cellAlong 53 = .ok (.ireturn, 1) := by decide +kernel
theorem dX6_cellAlong_54 : decode cX6_cellAlong 54 = .ok (.iload_n 0, 1) := by decide +kernel
theorem dX6_cellAlong_55 : decode cX6_cellAlong 55 = .ok (.ireturn, 1) := by decide +kernel
theorem dX6_distanceAlong_0 : decode cX6_distanceAlong 0 = .ok (.iload_n 1, 1) := by decide +kernel
theorem dX6_distanceAlong_1 : decode cX6_distanceAlong 1 = .ok (.bipush 10, 2) := by decide +kernel
theorem dX6_distanceAlong_3 : decode cX6_distanceAlong 3 = .ok (.idiv, 1) := by decide +kernel
theorem dX6_distanceAlong_4 : decode cX6_distanceAlong 4 = .ok (.iload_n 0, 1) := by decide +kernel
theorem dX6_distanceAlong_5 : decode cX6_distanceAlong 5 = .ok (.bipush 10, 2) := by decide +kernel
theorem dX6_distanceAlong_7 : decode cX6_distanceAlong 7 = .ok (.idiv, 1) := by decide +kernel
theorem dX6_distanceAlong_8 : decode cX6_distanceAlong 8 = .ok (.isub, 1) := by decide +kernel
theorem dX6_distanceAlong_9 : decode cX6_distanceAlong 9 = .ok (.istore_n 3, 1) := by decide +kernel
theorem dX6_distanceAlong_10 : decode cX6_distanceAlong 10 = .ok (.iload_n 1, 1) := by decide +kernel
theorem dX6_distanceAlong_11 : decode cX6_distanceAlong 11 = .ok (.bipush 10, 2) := by decide +kernel
theorem dX6_distanceAlong_13 : decode cX6_distanceAlong 13 = .ok (.irem, 1) := by decide +kernel
theorem dX6_distanceAlong_14 : decode cX6_distanceAlong 14 = .ok (.iload_n 0, 1) := by decide +kernel
theorem dX6_distanceAlong_15 : decode cX6_distanceAlong 15 = .ok (.bipush 10, 2) := by decide +kernel
theorem dX6_distanceAlong_17 : decode cX6_distanceAlong 17 = .ok (.irem, 1) := by decide +kernel
theorem dX6_distanceAlong_18 : decode cX6_distanceAlong 18 = .ok (.isub, 1) := by decide +kernel
theorem dX6_distanceAlong_19 : decode cX6_distanceAlong 19 = .ok (.istore 4, 2) := by decide +kernel
theorem dX6_distanceAlong_21 : decode cX6_distanceAlong 21 = .ok (.iload_n 2, 1) := by decide +kernel
theorem dX6_distanceAlong_22 : decode cX6_distanceAlong 22 = .ok (.tableswitch 76 0 3 #[30, 42, 53, 64], 30) := by decide +kernel
theorem dX6_distanceAlong_52 : decode cX6_distanceAlong 52 = .ok (.iload 4, 2) := by decide +kernel
theorem dX6_distanceAlong_54 : decode cX6_distanceAlong 54 = .ok (.ifCond .ne 8, 3) := by decide +kernel
theorem dX6_distanceAlong_57 : decode cX6_distanceAlong 57 = .ok (.iload_n 3, 1) := by decide +kernel
theorem dX6_distanceAlong_58 : decode cX6_distanceAlong 58 = .ok (.ineg, 1) := by decide +kernel
theorem dX6_distanceAlong_59 : decode cX6_distanceAlong 59 = .ok (.goto 4, 3) := by decide +kernel
theorem dX6_distanceAlong_62 : decode cX6_distanceAlong 62 = .ok (.iconst 0, 1) := by decide +kernel
theorem dX6_distanceAlong_63 : decode cX6_distanceAlong 63 = .ok (.ireturn, 1) := by decide +kernel
theorem dX6_distanceAlong_64 : decode cX6_distanceAlong 64 = .ok (.iload_n 3, 1) := by decide +kernel
theorem dX6_distanceAlong_65 : decode cX6_distanceAlong 65 = .ok (.ifCond .ne 8, 3) := by decide +kernel
theorem dX6_distanceAlong_68 : decode cX6_distanceAlong 68 = .ok (.iload 4, 2) := by decide +kernel
theorem dX6_distanceAlong_70 : decode cX6_distanceAlong 70 = .ok (.goto 4, 3) := by decide +kernel
theorem dX6_distanceAlong_73 : decode cX6_distanceAlong 73 = .ok (.iconst 0, 1) := by decide +kernel
theorem dX6_distanceAlong_74 : decode cX6_distanceAlong 74 = .ok (.ireturn, 1) := by decide +kernel
theorem dX6_distanceAlong_75 : decode cX6_distanceAlong 75 = .ok (.iload 4, 2) := by decide +kernel
theorem dX6_distanceAlong_77 : decode cX6_distanceAlong 77 = .ok (.ifCond .ne 7, 3) := by decide +kernel
theorem dX6_distanceAlong_80 : decode cX6_distanceAlong 80 = .ok (.iload_n 3, 1) := by decide +kernel
theorem dX6_distanceAlong_81 : decode cX6_distanceAlong 81 = .ok (.goto 4, 3) := by decide +kernel
theorem dX6_distanceAlong_84 : decode cX6_distanceAlong 84 = .ok (.iconst 0, 1) := by decide +kernel
theorem dX6_distanceAlong_85 : decode cX6_distanceAlong 85 = .ok (.ireturn, 1) := by decide +kernel
theorem dX6_distanceAlong_86 : decode cX6_distanceAlong 86 = .ok (.iload_n 3, 1) := by decide +kernel
theorem dX6_distanceAlong_87 : decode cX6_distanceAlong 87 = .ok (.ifCond .ne 9, 3) := by decide +kernel
theorem dX6_distanceAlong_90 : decode cX6_distanceAlong 90 = .ok (.iload 4, 2) := by decide +kernel
theorem dX6_distanceAlong_92 : decode cX6_distanceAlong 92 = .ok (.ineg, 1) := by decide +kernel
theorem dX6_distanceAlong_93 : decode cX6_distanceAlong 93 = .ok (.goto 4, 3) := by decide +kernel
theorem dX6_distanceAlong_96 : decode cX6_distanceAlong 96 = .ok (.iconst 0, 1) := by decide +kernel
theorem dX6_distanceAlong_97 : decode cX6_distanceAlong 97 = .ok (.ireturn, 1) := by decide +kernel
theorem dX6_distanceAlong_98 : decode cX6_distanceAlong 98 = .ok (.iconst 0, 1) := by decide +kernel
theorem dX6_distanceAlong_99 : decode cX6_distanceAlong 99 = .ok (.ireturn, 1) := by decide +kernel
theorem dJ9_min_7cf53_0 : decode cJ9_min_7cf53 0 = .ok (.iload_n 0, 1) := by decide +kernel
theorem dJ9_min_7cf53_1 : decode cJ9_min_7cf53 1 = .ok (.iload_n 1, 1) := by decide +kernel
theorem dJ9_min_7cf53_2 : decode cJ9_min_7cf53 2 = .ok (.if_icmp .gt 7, 3) := by decide +kernel
theorem dJ9_min_7cf53_5 : decode cJ9_min_7cf53 5 = .ok (.iload_n 0, 1) := by decide +kernel
theorem dJ9_min_7cf53_6 : decode cJ9_min_7cf53 6 = .ok (.goto 4, 3) := by decide +kernel
theorem dJ9_min_7cf53_9 : decode cJ9_min_7cf53 9 = .ok (.iload_n 1, 1) := by decide +kernel
theorem dJ9_min_7cf53_10 : decode cJ9_min_7cf53 10 = .ok (.ireturn, 1) := by decide +kernel
theorem dL_cell_0 : decode cL_cell 0 = .ok (.iload_n 1, 1) := by decide +kernel
theorem dL_cell_1 : decode cL_cell 1 = .ok (.aload_n 0, 1) := by decide +kernel
theorem dL_cell_2 : decode cL_cell 2 = .ok (.arraylength, 1) := by decide +kernel
theorem dL_cell_3 : decode cL_cell 3 = .ok (.if_icmp .ge 9, 3) := by decide +kernel
theorem dL_cell_6 : decode cL_cell 6 = .ok (.aload_n 0, 1) := by decide +kernel
theorem dL_cell_7 : decode cL_cell 7 = .ok (.iload_n 1, 1) := by decide +kernel
theorem dL_cell_8 : decode cL_cell 8 = .ok (.iaload, 1) := by decide +kernel
theorem dL_cell_9 : decode cL_cell 9 = .ok (.goto 9, 3) := by decide +kernel
theorem dL_cell_12 : decode cL_cell 12 = .ok (.ldc 7, 2) := by decide +kernel
theorem dL_cell_14 : decode cL_cell 14 = .ok (.iload_n 1, 1) := by decide +kernel
theorem dL_cell_15 : decode cL_cell 15 = .ok (.iconst 1, 1) := by decide +kernel
theorem dL_cell_16 : decode cL_cell 16 = .ok (.iadd, 1) := by decide +kernel
theorem dL_cell_17 : decode cL_cell 17 = .ok (.imul, 1) := by decide +kernel
theorem dL_cell_18 : decode cL_cell 18 = .ok (.ireturn, 1) := by decide +kernel
theorem dL_low_0 : decode cL_low 0 = .ok (.iload_n 0, 1) := by decide +kernel
theorem dL_low_1 : decode cL_low 1 = .ok (.ldc 8, 2) := by decide +kernel
theorem dL_low_3 : decode cL_low 3 = .ok (.iand, 1) := by decide +kernel
theorem dL_low_4 : decode cL_low 4 = .ok (.iload_n 1, 1) := by decide +kernel
theorem dL_low_5 : decode cL_low 5 = .ok (.irem, 1) := by decide +kernel
theorem dL_low_6 : decode cL_low 6 = .ok (.ireturn, 1) := by decide +kernel
theorem dL_who_0 : decode cL_who 0 = .ok (.iconst 0, 1) := by decide +kernel
theorem dL_who_1 : decode cL_who 1 = .ok (.istore_n 3, 1) := by decide +kernel
theorem dL_who_2 : decode cL_who 2 = .ok (.iload_n 3, 1) := by decide +kernel
theorem dL_who_3 : decode cL_who 3 = .ok (.aload_n 1, 1) := by decide +kernel
theorem dL_who_4 : decode cL_who 4 = .ok (.bipush 8, 2) := by decide +kernel
theorem dL_who_6 : decode cL_who 6 = .ok (.iaload, 1) := by decide +kernel
theorem dL_who_7 : decode cL_who 7 = .ok (.if_icmp .ge 21, 3) := by decide +kernel
theorem dL_who_10 : decode cL_who 10 = .ok (.aload_n 0, 1) := by decide +kernel
theorem dL_who_11 : decode cL_who 11 = .ok (.bipush 7, 2) := by decide +kernel
theorem dL_who_13 : decode cL_who 13 = .ok (.iload_n 3, 1) := by decide +kernel
theorem dL_who_14 : decode cL_who 14 = .ok (.imul, 1) := by decide +kernel
theorem dL_who_15 : decode cL_who 15 = .ok (.iaload, 1) := by decide +kernel
theorem dL_who_16 : decode cL_who 16 = .ok (.iload_n 2, 1) := by decide +kernel
theorem dL_who_17 : decode cL_who 17 = .ok (.if_icmp .ne 5, 3) := by decide +kernel
theorem dL_who_20 : decode cL_who 20 = .ok (.iload_n 3, 1) := by decide +kernel
theorem dL_who_21 : decode cL_who 21 = .ok (.ireturn, 1) := by decide +kernel
theorem dL_who_22 : decode cL_who 22 = .ok (.iinc 3 1, 3) := by decide +kernel
theorem dL_who_25 : decode cL_who 25 = .ok (.goto (-23), 3) := by decide +kernel
theorem dL_who_28 : decode cL_who 28 = .ok (.bipush (-5), 2) := by decide +kernel
theorem dL_who_30 : decode cL_who 30 = .ok (.ireturn, 1) := by decide +kernel
theorem dL_straight_0 : decode cL_straight 0 = .ok (.iload_n 1, 1) := by decide +kernel
theorem dL_straight_1 : decode cL_straight 1 = .ok (.bipush 10, 2) := by decide +kernel
theorem dL_straight_3 : decode cL_straight 3 = .ok (.idiv, 1) := by decide +kernel
theorem dL_straight_4 : decode cL_straight 4 = .ok (.iload_n 0, 1) := by decide +kernel
theorem dL_straight_5 : decode cL_straight 5 = .ok (.bipush 10, 2) := by decide +kernel
theorem dL_straight_7 : decode cL_straight 7 = .ok (.idiv, 1) := by decide +kernel
theorem dL_straight_8 : decode cL_straight 8 = .ok (.isub, 1) := by decide +kernel
theorem dL_straight_9 : decode cL_straight 9 = .ok (.istore_n 3, 1) := by decide +kernel
theorem dL_straight_10 : decode cL_straight 10 = .ok (.iload_n 1, 1) := by decide +kernel
theorem dL_straight_11 : decode cL_straight 11 = .ok (.bipush 10, 2) := by decide +kernel
theorem dL_straight_13 : decode cL_straight 13 = .ok (.irem, 1) := by decide +kernel
theorem dL_straight_14 : decode cL_straight 14 = .ok (.iload_n 0, 1) := by decide +kernel
theorem dL_straight_15 : decode cL_straight 15 = .ok (.bipush 10, 2) := by decide +kernel
theorem dL_straight_17 : decode cL_straight 17 = .ok (.irem, 1) := by decide +kernel
theorem dL_straight_18 : decode cL_straight 18 = .ok (.isub, 1) := by decide +kernel
theorem dL_straight_19 : decode cL_straight 19 = .ok (.istore 4, 2) := by decide +kernel
theorem dL_straight_21 : decode cL_straight 21 = .ok (.iload_n 2, 1) := by decide +kernel
theorem dL_straight_22 : decode cL_straight 22 = .ok (.ifCond .ne 8, 3) := by decide +kernel
theorem dL_straight_25 : decode cL_straight 25 = .ok (.iload_n 3, 1) := by decide +kernel
theorem dL_straight_26 : decode cL_straight 26 = .ok (.ineg, 1) := by decide +kernel
theorem dL_straight_27 : decode cL_straight 27 = .ok (.goto 25, 3) := by decide +kernel
theorem dL_straight_30 : decode cL_straight 30 = .ok (.iload_n 2, 1) := by decide +kernel
theorem dL_straight_31 : decode cL_straight 31 = .ok (.iconst 1, 1) := by decide +kernel
theorem dL_straight_32 : decode cL_straight 32 = .ok (.if_icmp .ne 8, 3) := by decide +kernel
theorem dL_straight_35 : decode cL_straight 35 = .ok (.iload 4, 2) := by decide +kernel
theorem dL_straight_37 : decode cL_straight 37 = .ok (.goto 15, 3) := by decide +kernel
theorem dL_straight_40 : decode cL_straight 40 = .ok (.iload_n 2, 1) := by decide +kernel
theorem dL_straight_41 : decode cL_straight 41 = .ok (.iconst 2, 1) := by decide +kernel
theorem dL_straight_42 : decode cL_straight 42 = .ok (.if_icmp .ne 7, 3) := by decide +kernel
theorem dL_straight_45 : decode cL_straight 45 = .ok (.iload_n 3, 1) := by decide +kernel
theorem dL_straight_46 : decode cL_straight 46 = .ok (.goto 6, 3) := by decide +kernel
theorem dL_straight_49 : decode cL_straight 49 = .ok (.iload 4, 2) := by decide +kernel
theorem dL_straight_51 : decode cL_straight 51 = .ok (.ineg, 1) := by decide +kernel
theorem dL_straight_52 : decode cL_straight 52 = .ok (.istore 5, 2) := by decide +kernel
theorem dL_straight_54 : decode cL_straight 54 = .ok (.iload 5, 2) := by decide +kernel
theorem dL_straight_56 : decode cL_straight 56 = .ok (.ifCond .le 26, 3) := by decide +kernel
theorem dL_straight_59 : decode cL_straight 59 = .ok (.iload_n 2, 1) := by decide +kernel
theorem dL_straight_60 : decode cL_straight 60 = .ok (.iconst 2, 1) := by decide +kernel
theorem dL_straight_61 : decode cL_straight 61 = .ok (.irem, 1) := by decide +kernel
theorem dL_straight_62 : decode cL_straight 62 = .ok (.ifCond .ne 11, 3) := by decide +kernel
theorem dL_straight_65 : decode cL_straight 65 = .ok (.iload 4, 2) := by decide +kernel
theorem dL_straight_67 : decode cL_straight 67 = .ok (.ifCond .ne 15, 3) := by decide +kernel
theorem dL_straight_70 : decode cL_straight 70 = .ok (.goto 7, 3) := by decide +kernel
theorem dL_straight_73 : decode cL_straight 73 = .ok (.iload_n 3, 1) := by decide +kernel
theorem dL_straight_74 : decode cL_straight 74 = .ok (.ifCond .ne 8, 3) := by decide +kernel
theorem dL_straight_77 : decode cL_straight 77 = .ok (.iload 5, 2) := by decide +kernel
theorem dL_straight_79 : decode cL_straight 79 = .ok (.goto 4, 3) := by decide +kernel
theorem dL_straight_82 : decode cL_straight 82 = .ok (.iconst 0, 1) := by decide +kernel
theorem dL_straight_83 : decode cL_straight 83 = .ok (.ireturn, 1) := by decide +kernel
theorem dL_shades_0 : decode cL_shades 0 = .ok (.aload_n 1, 1) := by decide +kernel
theorem dL_shades_1 : decode cL_shades 1 = .ok (.iconst 4, 1) := by decide +kernel
theorem dL_shades_2 : decode cL_shades 2 = .ok (.iload 4, 2) := by decide +kernel
theorem dL_shades_4 : decode cL_shades 4 = .ok (.imul, 1) := by decide +kernel
theorem dL_shades_5 : decode cL_shades 5 = .ok (.iaload, 1) := by decide +kernel
theorem dL_shades_6 : decode cL_shades 6 = .ok (.iconst 2, 1) := by decide +kernel
theorem dL_shades_7 : decode cL_shades 7 = .ok (.iadd, 1) := by decide +kernel
theorem dL_shades_8 : decode cL_shades 8 = .ok (.iconst 4, 1) := by decide +kernel
theorem dL_shades_9 : decode cL_shades 9 = .ok (.irem, 1) := by decide +kernel
theorem dL_shades_10 : decode cL_shades 10 = .ok (.istore 6, 2) := by decide +kernel
theorem dL_shades_12 : decode cL_shades 12 = .ok (.aload_n 0, 1) := by decide +kernel
theorem dL_shades_13 : decode cL_shades 13 = .ok (.bipush 7, 2) := by decide +kernel
theorem dL_shades_15 : decode cL_shades 15 = .ok (.iload_n 3, 1) := by decide +kernel
theorem dL_shades_16 : decode cL_shades 16 = .ok (.imul, 1) := by decide +kernel
theorem dL_shades_17 : decode cL_shades 17 = .ok (.iaload, 1) := by decide +kernel
theorem dL_shades_18 : decode cL_shades 18 = .ok (.iload 5, 2) := by decide +kernel
theorem dL_shades_20 : decode cL_shades 20 = .ok (.iload 6, 2) := by decide +kernel
theorem dL_shades_22 : decode cL_shades 22 = .ok (.invokestatic 11, 3) := by decide +kernel
theorem dL_shades_25 : decode cL_shades 25 = .ok (.istore 7, 2) := by decide +kernel
theorem dL_shades_27 : decode cL_shades 27 = .ok (.aload_n 1, 1) := by decide +kernel
theorem dL_shades_28 : decode cL_shades 28 = .ok (.iconst 4, 1) := by decide +kernel
theorem dL_shades_29 : decode cL_shades 29 = .ok (.iload 4, 2) := by decide +kernel
theorem dL_shades_31 : decode cL_shades 31 = .ok (.imul, 1) := by decide +kernel
theorem dL_shades_32 : decode cL_shades 32 = .ok (.iconst 3, 1) := by decide +kernel
theorem dL_shades_33 : decode cL_shades 33 = .ok (.iadd, 1) := by decide +kernel
theorem dL_shades_34 : decode cL_shades 34 = .ok (.iaload, 1) := by decide +kernel
theorem dL_shades_35 : decode cL_shades 35 = .ok (.iconst 1, 1) := by decide +kernel
theorem dL_shades_36 : decode cL_shades 36 = .ok (.if_icmp .ne 34, 3) := by decide +kernel
theorem dL_shades_39 : decode cL_shades 39 = .ok (.iload 7, 2) := by decide +kernel
theorem dL_shades_41 : decode cL_shades 41 = .ok (.ifCond .le 29, 3) := by decide +kernel
theorem dL_shades_44 : decode cL_shades 44 = .ok (.iload 7, 2) := by decide +kernel
theorem dL_shades_46 : decode cL_shades 46 = .ok (.aload_n 0, 1) := by decide +kernel
theorem dL_shades_47 : decode cL_shades 47 = .ok (.bipush 7, 2) := by decide +kernel
theorem dL_shades_49 : decode cL_shades 49 = .ok (.iload_n 3, 1) := by decide +kernel
theorem dL_shades_50 : decode cL_shades 50 = .ok (.imul, 1) := by decide +kernel
theorem dL_shades_51 : decode cL_shades 51 = .ok (.iconst 1, 1) := by decide +kernel
theorem dL_shades_52 : decode cL_shades 52 = .ok (.iadd, 1) := by decide +kernel
theorem dL_shades_53 : decode cL_shades 53 = .ok (.iaload, 1) := by decide +kernel
theorem dL_shades_54 : decode cL_shades 54 = .ok (.aload_n 1, 1) := by decide +kernel
theorem dL_shades_55 : decode cL_shades 55 = .ok (.iconst 4, 1) := by decide +kernel
theorem dL_shades_56 : decode cL_shades 56 = .ok (.iload 4, 2) := by decide +kernel
theorem dL_shades_58 : decode cL_shades 58 = .ok (.imul, 1) := by decide +kernel
theorem dL_shades_59 : decode cL_shades 59 = .ok (.iconst 1, 1) := by decide +kernel
theorem dL_shades_60 : decode cL_shades 60 = .ok (.iadd, 1) := by decide +kernel
theorem dL_shades_61 : decode cL_shades 61 = .ok (.iaload, 1) := by decide +kernel
theorem dL_shades_62 : decode cL_shades 62 = .ok (.imul, 1) := by decide +kernel
theorem dL_shades_63 : decode cL_shades 63 = .ok (.if_icmp .gt 7, 3) := by decide +kernel
theorem dL_shades_66 : decode cL_shades 66 = .ok (.iconst 1, 1) := by decide +kernel
theorem dL_shades_67 : decode cL_shades 67 = .ok (.goto 4, 3) := by decide +kernel
theorem dL_shades_70 : decode cL_shades 70 = .ok (.iconst 0, 1) := by decide +kernel
theorem dL_shades_71 : decode cL_shades 71 = .ok (.istore 8, 2) := by decide +kernel
theorem dL_shades_73 : decode cL_shades 73 = .ok (.iconst 0, 1) := by decide +kernel
theorem dL_shades_74 : decode cL_shades 74 = .ok (.istore 9, 2) := by decide +kernel
theorem dL_shades_76 : decode cL_shades 76 = .ok (.iload 9, 2) := by decide +kernel
theorem dL_shades_78 : decode cL_shades 78 = .ok (.aload_n 2, 1) := by decide +kernel
theorem dL_shades_79 : decode cL_shades 79 = .ok (.bipush 8, 2) := by decide +kernel
theorem dL_shades_81 : decode cL_shades 81 = .ok (.iaload, 1) := by decide +kernel
theorem dL_shades_82 : decode cL_shades 82 = .ok (.if_icmp .ge 53, 3) := by decide +kernel
theorem dL_shades_85 : decode cL_shades 85 = .ok (.aload_n 0, 1) := by decide +kernel
theorem dL_shades_86 : decode cL_shades 86 = .ok (.bipush 7, 2) := by decide +kernel
theorem dL_shades_88 : decode cL_shades 88 = .ok (.iload_n 3, 1) := by decide +kernel
theorem dL_shades_89 : decode cL_shades 89 = .ok (.imul, 1) := by decide +kernel
theorem dL_shades_90 : decode cL_shades 90 = .ok (.iaload, 1) := by decide +kernel
theorem dL_shades_91 : decode cL_shades 91 = .ok (.aload_n 0, 1) := by decide +kernel
theorem dL_shades_92 : decode cL_shades 92 = .ok (.bipush 7, 2) := by decide +kernel
theorem dL_shades_94 : decode cL_shades 94 = .ok (.iload 9, 2) := by decide +kernel
theorem dL_shades_96 : decode cL_shades 96 = .ok (.imul, 1) := by decide +kernel
theorem dL_shades_97 : decode cL_shades 97 = .ok (.iaload, 1) := by decide +kernel
theorem dL_shades_98 : decode cL_shades 98 = .ok (.iload 6, 2) := by decide +kernel
theorem dL_shades_100 : decode cL_shades 100 = .ok (.invokestatic 11, 3) := by decide +kernel
theorem dL_shades_103 : decode cL_shades 103 = .ok (.istore 10, 2) := by decide +kernel
theorem dL_shades_105 : decode cL_shades 105 = .ok (.iload 8, 2) := by decide +kernel
theorem dL_shades_107 : decode cL_shades 107 = .ok (.ifCond .eq 19, 3) := by decide +kernel
theorem dL_shades_110 : decode cL_shades 110 = .ok (.iload 10, 2) := by decide +kernel
theorem dL_shades_112 : decode cL_shades 112 = .ok (.ifCond .eq 10, 3) := by decide +kernel
theorem dL_shades_115 : decode cL_shades 115 = .ok (.iload 10, 2) := by decide +kernel
theorem dL_shades_117 : decode cL_shades 117 = .ok (.iload 7, 2) := by decide +kernel
theorem dL_shades_119 : decode cL_shades 119 = .ok (.if_icmp .lt 7, 3) := by decide +kernel
theorem dL_shades_122 : decode cL_shades 122 = .ok (.iconst 1, 1) := by decide +kernel
theorem dL_shades_123 : decode cL_shades 123 = .ok (.goto 4, 3) := by decide +kernel
theorem dL_shades_126 : decode cL_shades 126 = .ok (.iconst 0, 1) := by decide +kernel
theorem dL_shades_127 : decode cL_shades 127 = .ok (.istore 8, 2) := by decide +kernel
theorem dL_shades_129 : decode cL_shades 129 = .ok (.iinc 9 1, 3) := by decide +kernel
theorem dL_shades_132 : decode cL_shades 132 = .ok (.goto (-56), 3) := by decide +kernel
theorem dL_shades_135 : decode cL_shades 135 = .ok (.iload 8, 2) := by decide +kernel
theorem dL_shades_137 : decode cL_shades 137 = .ok (.ireturn, 1) := by decide +kernel
theorem dL_shaded_0 : decode cL_shaded 0 = .ok (.aload_n 0, 1) := by decide +kernel
theorem dL_shaded_1 : decode cL_shaded 1 = .ok (.aload_n 1, 1) := by decide +kernel
theorem dL_shaded_2 : decode cL_shaded 2 = .ok (.aload_n 2, 1) := by decide +kernel
theorem dL_shaded_3 : decode cL_shaded 3 = .ok (.iload_n 3, 1) := by decide +kernel
theorem dL_shaded_4 : decode cL_shaded 4 = .ok (.iconst 0, 1) := by decide +kernel
theorem dL_shaded_5 : decode cL_shaded 5 = .ok (.iload 4, 2) := by decide +kernel
theorem dL_shaded_7 : decode cL_shaded 7 = .ok (.invokestatic 15, 3) := by decide +kernel
theorem dL_shaded_10 : decode cL_shaded 10 = .ok (.ifCond .ne 29, 3) := by decide +kernel
theorem dL_shaded_13 : decode cL_shaded 13 = .ok (.aload_n 0, 1) := by decide +kernel
theorem dL_shaded_14 : decode cL_shaded 14 = .ok (.aload_n 1, 1) := by decide +kernel
theorem dL_shaded_15 : decode cL_shaded 15 = .ok (.aload_n 2, 1) := by decide +kernel
theorem dL_shaded_16 : decode cL_shaded 16 = .ok (.iload_n 3, 1) := by decide +kernel
theorem dL_shaded_17 : decode cL_shaded 17 = .ok (.iconst 1, 1) := by decide +kernel
theorem dL_shaded_18 : decode cL_shaded 18 = .ok (.iload 4, 2) := by decide +kernel
theorem dL_shaded_20 : decode cL_shaded 20 = .ok (.invokestatic 15, 3) := by decide +kernel
theorem dL_shaded_23 : decode cL_shaded 23 = .ok (.ifCond .ne 16, 3) := by decide +kernel
theorem dL_shaded_26 : decode cL_shaded 26 = .ok (.aload_n 0, 1) := by decide +kernel
theorem dL_shaded_27 : decode cL_shaded 27 = .ok (.aload_n 1, 1) := by decide +kernel
theorem dL_shaded_28 : decode cL_shaded 28 = .ok (.aload_n 2, 1) := by decide +kernel
theorem dL_shaded_29 : decode cL_shaded 29 = .ok (.iload_n 3, 1) := by decide +kernel
theorem dL_shaded_30 : decode cL_shaded 30 = .ok (.iconst 2, 1) := by decide +kernel
theorem dL_shaded_31 : decode cL_shaded 31 = .ok (.iload 4, 2) := by decide +kernel
theorem dL_shaded_33 : decode cL_shaded 33 = .ok (.invokestatic 15, 3) := by decide +kernel
theorem dL_shaded_36 : decode cL_shaded 36 = .ok (.ifCond .eq 7, 3) := by decide +kernel
theorem dL_shaded_39 : decode cL_shaded 39 = .ok (.iconst 1, 1) := by decide +kernel
theorem dL_shaded_40 : decode cL_shaded 40 = .ok (.goto 4, 3) := by decide +kernel
theorem dL_shaded_43 : decode cL_shaded 43 = .ok (.iconst 0, 1) := by decide +kernel
theorem dL_shaded_44 : decode cL_shaded 44 = .ok (.ireturn, 1) := by decide +kernel
theorem dL_cells_0 : decode cL_cells 0 = .ok (.iconst 0, 1) := by decide +kernel
theorem dL_cells_1 : decode cL_cells 1 = .ok (.istore 4, 2) := by decide +kernel
theorem dL_cells_3 : decode cL_cells 3 = .ok (.iconst 0, 1) := by decide +kernel
theorem dL_cells_4 : decode cL_cells 4 = .ok (.istore 5, 2) := by decide +kernel
theorem dL_cells_6 : decode cL_cells 6 = .ok (.iload 5, 2) := by decide +kernel
theorem dL_cells_8 : decode cL_cells 8 = .ok (.bipush 100, 2) := by decide +kernel
theorem dL_cells_10 : decode cL_cells 10 = .ok (.if_icmp .ge 31, 3) := by decide +kernel
theorem dL_cells_13 : decode cL_cells 13 = .ok (.iload 4, 2) := by decide +kernel
theorem dL_cells_15 : decode cL_cells 15 = .ok (.aload_n 0, 1) := by decide +kernel
theorem dL_cells_16 : decode cL_cells 16 = .ok (.aload_n 1, 1) := by decide +kernel
theorem dL_cells_17 : decode cL_cells 17 = .ok (.aload_n 2, 1) := by decide +kernel
theorem dL_cells_18 : decode cL_cells 18 = .ok (.iload_n 3, 1) := by decide +kernel
theorem dL_cells_19 : decode cL_cells 19 = .ok (.iload 5, 2) := by decide +kernel
theorem dL_cells_21 : decode cL_cells 21 = .ok (.invokestatic 19, 3) := by decide +kernel
theorem dL_cells_24 : decode cL_cells 24 = .ok (.ifCond .eq 7, 3) := by decide +kernel
theorem dL_cells_27 : decode cL_cells 27 = .ok (.iconst 1, 1) := by decide +kernel
theorem dL_cells_28 : decode cL_cells 28 = .ok (.goto 4, 3) := by decide +kernel
theorem dL_cells_31 : decode cL_cells 31 = .ok (.iconst 0, 1) := by decide +kernel
theorem dL_cells_32 : decode cL_cells 32 = .ok (.iadd, 1) := by decide +kernel
theorem dL_cells_33 : decode cL_cells 33 = .ok (.istore 4, 2) := by decide +kernel
theorem dL_cells_35 : decode cL_cells 35 = .ok (.iinc 5 1, 3) := by decide +kernel
theorem dL_cells_38 : decode cL_cells 38 = .ok (.goto (-32), 3) := by decide +kernel
theorem dL_cells_41 : decode cL_cells 41 = .ok (.iload 4, 2) := by decide +kernel
theorem dL_cells_43 : decode cL_cells 43 = .ok (.ireturn, 1) := by decide +kernel
theorem dL_beside_0 : decode cL_beside 0 = .ok (.iload_n 0, 1) := by decide +kernel
theorem dL_beside_1 : decode cL_beside 1 = .ok (.bipush 10, 2) := by decide +kernel
theorem dL_beside_3 : decode cL_beside 3 = .ok (.idiv, 1) := by decide +kernel
theorem dL_beside_4 : decode cL_beside 4 = .ok (.iload_n 1, 1) := by decide +kernel
theorem dL_beside_5 : decode cL_beside 5 = .ok (.iconst 2, 1) := by decide +kernel
theorem dL_beside_6 : decode cL_beside 6 = .ok (.if_icmp .ne 7, 3) := by decide +kernel
theorem dL_beside_9 : decode cL_beside 9 = .ok (.iconst 1, 1) := by decide +kernel
theorem dL_beside_10 : decode cL_beside 10 = .ok (.goto 12, 3) := by decide +kernel
theorem dL_beside_13 : decode cL_beside 13 = .ok (.iload_n 1, 1) := by decide +kernel
theorem dL_beside_14 : decode cL_beside 14 = .ok (.ifCond .ne 7, 3) := by decide +kernel
theorem dL_beside_17 : decode cL_beside 17 = .ok (.iconst (-1), 1) := by decide +kernel
theorem dL_beside_18 : decode cL_beside 18 = .ok (.goto 4, 3) := by decide +kernel
theorem dL_beside_21 : decode cL_beside 21 = .ok (.iconst 0, 1) := by decide +kernel
theorem dL_beside_22 : decode cL_beside 22 = .ok (.iadd, 1) := by decide +kernel
theorem dL_beside_23 : decode cL_beside 23 = .ok (.istore_n 2, 1) := by decide +kernel
theorem dL_beside_24 : decode cL_beside 24 = .ok (.iload_n 0, 1) := by decide +kernel
theorem dL_beside_25 : decode cL_beside 25 = .ok (.bipush 10, 2) := by decide +kernel
theorem dL_beside_27 : decode cL_beside 27 = .ok (.irem, 1) := by decide +kernel
theorem dL_beside_28 : decode cL_beside 28 = .ok (.iload_n 1, 1) := by decide +kernel
theorem dL_beside_29 : decode cL_beside 29 = .ok (.iconst 1, 1) := by decide +kernel
theorem dL_beside_30 : decode cL_beside 30 = .ok (.if_icmp .ne 7, 3) := by decide +kernel
theorem dL_beside_33 : decode cL_beside 33 = .ok (.iconst 1, 1) := by decide +kernel
theorem dL_beside_34 : decode cL_beside 34 = .ok (.goto 13, 3) := by decide +kernel
theorem dL_beside_37 : decode cL_beside 37 = .ok (.iload_n 1, 1) := by decide +kernel
theorem dL_beside_38 : decode cL_beside 38 = .ok (.iconst 3, 1) := by decide +kernel
theorem dL_beside_39 : decode cL_beside 39 = .ok (.if_icmp .ne 7, 3) := by decide +kernel
theorem dL_beside_42 : decode cL_beside 42 = .ok (.iconst (-1), 1) := by decide +kernel
theorem dL_beside_43 : decode cL_beside 43 = .ok (.goto 4, 3) := by decide +kernel
theorem dL_beside_46 : decode cL_beside 46 = .ok (.iconst 0, 1) := by decide +kernel
theorem dL_beside_47 : decode cL_beside 47 = .ok (.iadd, 1) := by decide +kernel
theorem dL_beside_48 : decode cL_beside 48 = .ok (.istore_n 3, 1) := by decide +kernel
theorem dL_beside_49 : decode cL_beside 49 = .ok (.iload_n 2, 1) := by decide +kernel
theorem dL_beside_50 : decode cL_beside 50 = .ok (.ifCond .lt 19, 3) := by decide +kernel
theorem dL_beside_53 : decode cL_beside 53 = .ok (.iload_n 2, 1) := by decide +kernel
theorem dL_beside_54 : decode cL_beside 54 = .ok (.bipush 9, 2) := by decide +kernel
theorem dL_beside_56 : decode cL_beside 56 = .ok (.if_icmp .gt 13, 3) := by decide +kernel
theorem dL_beside_59 : decode cL_beside 59 = .ok (.iload_n 3, 1) := by decide +kernel
theorem dL_beside_60 : decode cL_beside 60 = .ok (.ifCond .lt 9, 3) := by decide +kernel
theorem dL_beside_63 : decode cL_beside 63 = .ok (.iload_n 3, 1) := by decide +kernel
theorem dL_beside_64 : decode cL_beside 64 = .ok (.bipush 9, 2) := by decide +kernel
theorem dL_beside_66 : decode cL_beside 66 = .ok (.if_icmp .le 8, 3) := by decide +kernel
theorem dL_beside_69 : decode cL_beside 69 = .ok (.bipush (-5), 2) := by decide +kernel
theorem dL_beside_71 : decode cL_beside 71 = .ok (.goto 9, 3) := by decide +kernel
theorem dL_beside_74 : decode cL_beside 74 = .ok (.bipush 10, 2) := by decide +kernel
theorem dL_beside_76 : decode cL_beside 76 = .ok (.iload_n 2, 1) := by decide +kernel
theorem dL_beside_77 : decode cL_beside 77 = .ok (.imul, 1) := by decide +kernel
theorem dL_beside_78 : decode cL_beside 78 = .ok (.iload_n 3, 1) := by decide +kernel
theorem dL_beside_79 : decode cL_beside 79 = .ok (.iadd, 1) := by decide +kernel
theorem dL_beside_80 : decode cL_beside 80 = .ok (.ireturn, 1) := by decide +kernel
theorem dL_tagged_0 : decode cL_tagged 0 = .ok (.iconst 0, 1) := by decide +kernel
theorem dL_tagged_1 : decode cL_tagged 1 = .ok (.istore_n 3, 1) := by decide +kernel
theorem dL_tagged_2 : decode cL_tagged 2 = .ok (.iload_n 3, 1) := by decide +kernel
theorem dL_tagged_3 : decode cL_tagged 3 = .ok (.aload_n 2, 1) := by decide +kernel
theorem dL_tagged_4 : decode cL_tagged 4 = .ok (.bipush 8, 2) := by decide +kernel
theorem dL_tagged_6 : decode cL_tagged 6 = .ok (.iaload, 1) := by decide +kernel
theorem dL_tagged_7 : decode cL_tagged 7 = .ok (.if_icmp .ge 47, 3) := by decide +kernel
theorem dL_tagged_10 : decode cL_tagged 10 = .ok (.iload_n 3, 1) := by decide +kernel
theorem dL_tagged_11 : decode cL_tagged 11 = .ok (.aload_n 2, 1) := by decide +kernel
theorem dL_tagged_12 : decode cL_tagged 12 = .ok (.iconst 1, 1) := by decide +kernel
theorem dL_tagged_13 : decode cL_tagged 13 = .ok (.iaload, 1) := by decide +kernel
theorem dL_tagged_14 : decode cL_tagged 14 = .ok (.if_icmp .eq 34, 3) := by decide +kernel
theorem dL_tagged_17 : decode cL_tagged 17 = .ok (.aload_n 0, 1) := by decide +kernel
theorem dL_tagged_18 : decode cL_tagged 18 = .ok (.bipush 7, 2) := by decide +kernel
theorem dL_tagged_20 : decode cL_tagged 20 = .ok (.iload_n 3, 1) := by decide +kernel
theorem dL_tagged_21 : decode cL_tagged 21 = .ok (.imul, 1) := by decide +kernel
theorem dL_tagged_22 : decode cL_tagged 22 = .ok (.iconst 3, 1) := by decide +kernel
theorem dL_tagged_23 : decode cL_tagged 23 = .ok (.iadd, 1) := by decide +kernel
theorem dL_tagged_24 : decode cL_tagged 24 = .ok (.iaload, 1) := by decide +kernel
theorem dL_tagged_25 : decode cL_tagged 25 = .ok (.ifCond .ne 23, 3) := by decide +kernel
theorem dL_tagged_28 : decode cL_tagged 28 = .ok (.aload_n 0, 1) := by decide +kernel
theorem dL_tagged_29 : decode cL_tagged 29 = .ok (.aload_n 1, 1) := by decide +kernel
theorem dL_tagged_30 : decode cL_tagged 30 = .ok (.aload_n 2, 1) := by decide +kernel
theorem dL_tagged_31 : decode cL_tagged 31 = .ok (.iload_n 3, 1) := by decide +kernel
theorem dL_tagged_32 : decode cL_tagged 32 = .ok (.aload_n 0, 1) := by decide +kernel
theorem dL_tagged_33 : decode cL_tagged 33 = .ok (.bipush 7, 2) := by decide +kernel
theorem dL_tagged_35 : decode cL_tagged 35 = .ok (.aload_n 2, 1) := by decide +kernel
theorem dL_tagged_36 : decode cL_tagged 36 = .ok (.iconst 1, 1) := by decide +kernel
theorem dL_tagged_37 : decode cL_tagged 37 = .ok (.iaload, 1) := by decide +kernel
theorem dL_tagged_38 : decode cL_tagged 38 = .ok (.imul, 1) := by decide +kernel
theorem dL_tagged_39 : decode cL_tagged 39 = .ok (.iaload, 1) := by decide +kernel
theorem dL_tagged_40 : decode cL_tagged 40 = .ok (.invokestatic 19, 3) := by decide +kernel
theorem dL_tagged_43 : decode cL_tagged 43 = .ok (.ifCond .eq 5, 3) := by decide +kernel
theorem dL_tagged_46 : decode cL_tagged 46 = .ok (.iload_n 3, 1) := by decide +kernel
theorem dL_tagged_47 : decode cL_tagged 47 = .ok (.ireturn, 1) := by decide +kernel
theorem dL_tagged_48 : decode cL_tagged 48 = .ok (.iinc 3 1, 3) := by decide +kernel
theorem dL_tagged_51 : decode cL_tagged 51 = .ok (.goto (-49), 3) := by decide +kernel
theorem dL_tagged_54 : decode cL_tagged 54 = .ok (.bipush (-5), 2) := by decide +kernel
theorem dL_tagged_56 : decode cL_tagged 56 = .ok (.ireturn, 1) := by decide +kernel
theorem dL_turns_0 : decode cL_turns 0 = .ok (.iconst 0, 1) := by decide +kernel
theorem dL_turns_1 : decode cL_turns 1 = .ok (.istore_n 3, 1) := by decide +kernel
theorem dL_turns_2 : decode cL_turns 2 = .ok (.iload_n 3, 1) := by decide +kernel
theorem dL_turns_3 : decode cL_turns 3 = .ok (.aload_n 2, 1) := by decide +kernel
theorem dL_turns_4 : decode cL_turns 4 = .ok (.bipush 8, 2) := by decide +kernel
theorem dL_turns_6 : decode cL_turns 6 = .ok (.iaload, 1) := by decide +kernel
theorem dL_turns_7 : decode cL_turns 7 = .ok (.if_icmp .ge 135, 3) := by decide +kernel
theorem dL_turns_10 : decode cL_turns 10 = .ok (.aload_n 0, 1) := by decide +kernel
theorem dL_turns_11 : decode cL_turns 11 = .ok (.bipush 7, 2) := by decide +kernel
theorem dL_turns_13 : decode cL_turns 13 = .ok (.iload_n 3, 1) := by decide +kernel
theorem dL_turns_14 : decode cL_turns 14 = .ok (.imul, 1) := by decide +kernel
theorem dL_turns_15 : decode cL_turns 15 = .ok (.iconst 2, 1) := by decide +kernel
theorem dL_turns_16 : decode cL_turns 16 = .ok (.iadd, 1) := by decide +kernel
theorem dL_turns_17 : decode cL_turns 17 = .ok (.iaload, 1) := by decide +kernel
theorem dL_turns_18 : decode cL_turns 18 = .ok (.iconst 4, 1) := by decide +kernel
theorem dL_turns_19 : decode cL_turns 19 = .ok (.if_icmp .ne 8, 3) := by decide +kernel
theorem dL_turns_22 : decode cL_turns 22 = .ok (.bipush (-5), 2) := by decide +kernel
theorem dL_turns_24 : decode cL_turns 24 = .ok (.goto 20, 3) := by decide +kernel
theorem dL_turns_27 : decode cL_turns 27 = .ok (.aload_n 0, 1) := by decide +kernel
theorem dL_turns_28 : decode cL_turns 28 = .ok (.bipush 7, 2) := by decide +kernel
theorem dL_turns_30 : decode cL_turns 30 = .ok (.iload_n 3, 1) := by decide +kernel
theorem dL_turns_31 : decode cL_turns 31 = .ok (.imul, 1) := by decide +kernel
theorem dL_turns_32 : decode cL_turns 32 = .ok (.iaload, 1) := by decide +kernel
theorem dL_turns_33 : decode cL_turns 33 = .ok (.aload_n 0, 1) := by decide +kernel
theorem dL_turns_34 : decode cL_turns 34 = .ok (.bipush 7, 2) := by decide +kernel
theorem dL_turns_36 : decode cL_turns 36 = .ok (.iload_n 3, 1) := by decide +kernel
theorem dL_turns_37 : decode cL_turns 37 = .ok (.imul, 1) := by decide +kernel
theorem dL_turns_38 : decode cL_turns 38 = .ok (.iconst 2, 1) := by decide +kernel
theorem dL_turns_39 : decode cL_turns 39 = .ok (.iadd, 1) := by decide +kernel
theorem dL_turns_40 : decode cL_turns 40 = .ok (.iaload, 1) := by decide +kernel
theorem dL_turns_41 : decode cL_turns 41 = .ok (.invokestatic 23, 3) := by decide +kernel
theorem dL_turns_44 : decode cL_turns 44 = .ok (.istore 4, 2) := by decide +kernel
theorem dL_turns_46 : decode cL_turns 46 = .ok (.iload 4, 2) := by decide +kernel
theorem dL_turns_48 : decode cL_turns 48 = .ok (.ifCond .lt 19, 3) := by decide +kernel
theorem dL_turns_51 : decode cL_turns 51 = .ok (.aload_n 0, 1) := by decide +kernel
theorem dL_turns_52 : decode cL_turns 52 = .ok (.aload_n 2, 1) := by decide +kernel
theorem dL_turns_53 : decode cL_turns 53 = .ok (.iload 4, 2) := by decide +kernel
theorem dL_turns_55 : decode cL_turns 55 = .ok (.invokestatic 27, 3) := by decide +kernel
theorem dL_turns_58 : decode cL_turns 58 = .ok (.bipush (-5), 2) := by decide +kernel
theorem dL_turns_60 : decode cL_turns 60 = .ok (.if_icmp .ne 7, 3) := by decide +kernel
theorem dL_turns_63 : decode cL_turns 63 = .ok (.iconst 1, 1) := by decide +kernel
theorem dL_turns_64 : decode cL_turns 64 = .ok (.goto 4, 3) := by decide +kernel
theorem dL_turns_67 : decode cL_turns 67 = .ok (.iconst 0, 1) := by decide +kernel
theorem dL_turns_68 : decode cL_turns 68 = .ok (.istore 5, 2) := by decide +kernel
theorem dL_turns_70 : decode cL_turns 70 = .ok (.aload_n 2, 1) := by decide +kernel
theorem dL_turns_71 : decode cL_turns 71 = .ok (.iconst 3, 1) := by decide +kernel
theorem dL_turns_72 : decode cL_turns 72 = .ok (.dup2, 1) := by decide +kernel
theorem dL_turns_73 : decode cL_turns 73 = .ok (.iaload, 1) := by decide +kernel
theorem dL_turns_74 : decode cL_turns 74 = .ok (.iload 5, 2) := by decide +kernel
theorem dL_turns_76 : decode cL_turns 76 = .ok (.ifCond .eq 7, 3) := by decide +kernel
theorem dL_turns_79 : decode cL_turns 79 = .ok (.iconst 1, 1) := by decide +kernel
theorem dL_turns_80 : decode cL_turns 80 = .ok (.goto 4, 3) := by decide +kernel
theorem dL_turns_83 : decode cL_turns 83 = .ok (.iconst 0, 1) := by decide +kernel
theorem dL_turns_84 : decode cL_turns 84 = .ok (.iadd, 1) := by decide +kernel
theorem dL_turns_85 : decode cL_turns 85 = .ok (.iastore, 1) := by decide +kernel
theorem dL_turns_86 : decode cL_turns 86 = .ok (.aload_n 2, 1) := by decide +kernel
theorem dL_turns_87 : decode cL_turns 87 = .ok (.iconst 4, 1) := by decide +kernel
theorem dL_turns_88 : decode cL_turns 88 = .ok (.dup2, 1) := by decide +kernel
theorem dL_turns_89 : decode cL_turns 89 = .ok (.iaload, 1) := by decide +kernel
theorem dL_turns_90 : decode cL_turns 90 = .ok (.iload 5, 2) := by decide +kernel
theorem dL_turns_92 : decode cL_turns 92 = .ok (.ifCond .ne 15, 3) := by decide +kernel
theorem dL_turns_95 : decode cL_turns 95 = .ok (.aload_n 0, 1) := by decide +kernel
theorem dL_turns_96 : decode cL_turns 96 = .ok (.bipush 7, 2) := by decide +kernel
theorem dL_turns_98 : decode cL_turns 98 = .ok (.iload_n 3, 1) := by decide +kernel
theorem dL_turns_99 : decode cL_turns 99 = .ok (.imul, 1) := by decide +kernel
theorem dL_turns_100 : decode cL_turns 100 = .ok (.iconst 2, 1) := by decide +kernel
theorem dL_turns_101 : decode cL_turns 101 = .ok (.iadd, 1) := by decide +kernel
theorem dL_turns_102 : decode cL_turns 102 = .ok (.iaload, 1) := by decide +kernel
theorem dL_turns_103 : decode cL_turns 103 = .ok (.iconst 4, 1) := by decide +kernel
theorem dL_turns_104 : decode cL_turns 104 = .ok (.if_icmp .ne 7, 3) := by decide +kernel
theorem dL_turns_107 : decode cL_turns 107 = .ok (.iconst 0, 1) := by decide +kernel
theorem dL_turns_108 : decode cL_turns 108 = .ok (.goto 4, 3) := by decide +kernel
theorem dL_turns_111 : decode cL_turns 111 = .ok (.iconst 1, 1) := by decide +kernel
theorem dL_turns_112 : decode cL_turns 112 = .ok (.iadd, 1) := by decide +kernel
theorem dL_turns_113 : decode cL_turns 113 = .ok (.iastore, 1) := by decide +kernel
theorem dL_turns_114 : decode cL_turns 114 = .ok (.aload_n 0, 1) := by decide +kernel
theorem dL_turns_115 : decode cL_turns 115 = .ok (.bipush 7, 2) := by decide +kernel
theorem dL_turns_117 : decode cL_turns 117 = .ok (.iload_n 3, 1) := by decide +kernel
theorem dL_turns_118 : decode cL_turns 118 = .ok (.imul, 1) := by decide +kernel
theorem dL_turns_119 : decode cL_turns 119 = .ok (.iload 5, 2) := by decide +kernel
theorem dL_turns_121 : decode cL_turns 121 = .ok (.ifCond .eq 8, 3) := by decide +kernel
theorem dL_turns_124 : decode cL_turns 124 = .ok (.iload 4, 2) := by decide +kernel
theorem dL_turns_126 : decode cL_turns 126 = .ok (.goto 9, 3) := by decide +kernel
theorem dL_turns_129 : decode cL_turns 129 = .ok (.aload_n 0, 1) := by decide +kernel
theorem dL_turns_130 : decode cL_turns 130 = .ok (.bipush 7, 2) := by decide +kernel
theorem dL_turns_132 : decode cL_turns 132 = .ok (.iload_n 3, 1) := by decide +kernel
theorem dL_turns_133 : decode cL_turns 133 = .ok (.imul, 1) := by decide +kernel
theorem dL_turns_134 : decode cL_turns 134 = .ok (.iaload, 1) := by decide +kernel
theorem dL_turns_135 : decode cL_turns 135 = .ok (.iastore, 1) := by decide +kernel
theorem dL_turns_136 : decode cL_turns 136 = .ok (.iinc 3 1, 3) := by decide +kernel
theorem dL_turns_139 : decode cL_turns 139 = .ok (.goto (-137), 3) := by decide +kernel
theorem dL_turns_142 : decode cL_turns 142 = .ok (.aload_n 0, 1) := by decide +kernel
theorem dL_turns_143 : decode cL_turns 143 = .ok (.aload_n 1, 1) := by decide +kernel
theorem dL_turns_144 : decode cL_turns 144 = .ok (.aload_n 2, 1) := by decide +kernel
theorem dL_turns_145 : decode cL_turns 145 = .ok (.invokestatic 31, 3) := by decide +kernel
theorem dL_turns_148 : decode cL_turns 148 = .ok (.istore_n 3, 1) := by decide +kernel
theorem dL_turns_149 : decode cL_turns 149 = .ok (.iload_n 3, 1) := by decide +kernel
theorem dL_turns_150 : decode cL_turns 150 = .ok (.ifCond .lt 56, 3) := by decide +kernel
theorem dL_turns_153 : decode cL_turns 153 = .ok (.aload_n 0, 1) := by decide +kernel
theorem dL_turns_154 : decode cL_turns 154 = .ok (.bipush 7, 2) := by decide +kernel
theorem dL_turns_156 : decode cL_turns 156 = .ok (.iload_n 3, 1) := by decide +kernel
theorem dL_turns_157 : decode cL_turns 157 = .ok (.imul, 1) := by decide +kernel
theorem dL_turns_158 : decode cL_turns 158 = .ok (.iconst 4, 1) := by decide +kernel
theorem dL_turns_159 : decode cL_turns 159 = .ok (.iadd, 1) := by decide +kernel
theorem dL_turns_160 : decode cL_turns 160 = .ok (.dup2, 1) := by decide +kernel
theorem dL_turns_161 : decode cL_turns 161 = .ok (.iaload, 1) := by decide +kernel
theorem dL_turns_162 : decode cL_turns 162 = .ok (.iconst 1, 1) := by decide +kernel
theorem dL_turns_163 : decode cL_turns 163 = .ok (.iadd, 1) := by decide +kernel
theorem dL_turns_164 : decode cL_turns 164 = .ok (.iastore, 1) := by decide +kernel
theorem dL_turns_165 : decode cL_turns 165 = .ok (.aload_n 0, 1) := by decide +kernel
theorem dL_turns_166 : decode cL_turns 166 = .ok (.bipush 7, 2) := by decide +kernel
theorem dL_turns_168 : decode cL_turns 168 = .ok (.aload_n 2, 1) := by decide +kernel
theorem dL_turns_169 : decode cL_turns 169 = .ok (.iconst 1, 1) := by decide +kernel
theorem dL_turns_170 : decode cL_turns 170 = .ok (.iaload, 1) := by decide +kernel
theorem dL_turns_171 : decode cL_turns 171 = .ok (.imul, 1) := by decide +kernel
theorem dL_turns_172 : decode cL_turns 172 = .ok (.iconst 5, 1) := by decide +kernel
theorem dL_turns_173 : decode cL_turns 173 = .ok (.iadd, 1) := by decide +kernel
theorem dL_turns_174 : decode cL_turns 174 = .ok (.dup2, 1) := by decide +kernel
theorem dL_turns_175 : decode cL_turns 175 = .ok (.iaload, 1) := by decide +kernel
theorem dL_turns_176 : decode cL_turns 176 = .ok (.iconst 1, 1) := by decide +kernel
theorem dL_turns_177 : decode cL_turns 177 = .ok (.iadd, 1) := by decide +kernel
theorem dL_turns_178 : decode cL_turns 178 = .ok (.iastore, 1) := by decide +kernel
theorem dL_turns_179 : decode cL_turns 179 = .ok (.aload_n 0, 1) := by decide +kernel
theorem dL_turns_180 : decode cL_turns 180 = .ok (.bipush 7, 2) := by decide +kernel
theorem dL_turns_182 : decode cL_turns 182 = .ok (.aload_n 2, 1) := by decide +kernel
theorem dL_turns_183 : decode cL_turns 183 = .ok (.iconst 1, 1) := by decide +kernel
theorem dL_turns_184 : decode cL_turns 184 = .ok (.iaload, 1) := by decide +kernel
theorem dL_turns_185 : decode cL_turns 185 = .ok (.imul, 1) := by decide +kernel
theorem dL_turns_186 : decode cL_turns 186 = .ok (.iconst 3, 1) := by decide +kernel
theorem dL_turns_187 : decode cL_turns 187 = .ok (.iadd, 1) := by decide +kernel
theorem dL_turns_188 : decode cL_turns 188 = .ok (.aload_n 2, 1) := by decide +kernel
theorem dL_turns_189 : decode cL_turns 189 = .ok (.bipush 6, 2) := by decide +kernel
theorem dL_turns_191 : decode cL_turns 191 = .ok (.iaload, 1) := by decide +kernel
theorem dL_turns_192 : decode cL_turns 192 = .ok (.iconst 1, 1) := by decide +kernel
theorem dL_turns_193 : decode cL_turns 193 = .ok (.iadd, 1) := by decide +kernel
theorem dL_turns_194 : decode cL_turns 194 = .ok (.iastore, 1) := by decide +kernel
theorem dL_turns_195 : decode cL_turns 195 = .ok (.aload_n 2, 1) := by decide +kernel
theorem dL_turns_196 : decode cL_turns 196 = .ok (.iconst 1, 1) := by decide +kernel
theorem dL_turns_197 : decode cL_turns 197 = .ok (.iload_n 3, 1) := by decide +kernel
theorem dL_turns_198 : decode cL_turns 198 = .ok (.iastore, 1) := by decide +kernel
theorem dL_turns_199 : decode cL_turns 199 = .ok (.aload_n 2, 1) := by decide +kernel
theorem dL_turns_200 : decode cL_turns 200 = .ok (.iconst 2, 1) := by decide +kernel
theorem dL_turns_201 : decode cL_turns 201 = .ok (.dup2, 1) := by decide +kernel
theorem dL_turns_202 : decode cL_turns 202 = .ok (.iaload, 1) := by decide +kernel
theorem dL_turns_203 : decode cL_turns 203 = .ok (.iconst 1, 1) := by decide +kernel
theorem dL_turns_204 : decode cL_turns 204 = .ok (.iadd, 1) := by decide +kernel
theorem dL_turns_205 : decode cL_turns 205 = .ok (.iastore, 1) := by decide +kernel
theorem dL_turns_206 : decode cL_turns 206 = .ok (.aload_n 2, 1) := by decide +kernel
theorem dL_turns_207 : decode cL_turns 207 = .ok (.iconst 0, 1) := by decide +kernel
theorem dL_turns_208 : decode cL_turns 208 = .ok (.dup2, 1) := by decide +kernel
theorem dL_turns_209 : decode cL_turns 209 = .ok (.iaload, 1) := by decide +kernel
theorem dL_turns_210 : decode cL_turns 210 = .ok (.iconst 1, 1) := by decide +kernel
theorem dL_turns_211 : decode cL_turns 211 = .ok (.iadd, 1) := by decide +kernel
theorem dL_turns_212 : decode cL_turns 212 = .ok (.iastore, 1) := by decide +kernel
theorem dL_turns_213 : decode cL_turns 213 = .ok (.iconst 0, 1) := by decide +kernel
theorem dL_turns_214 : decode cL_turns 214 = .ok (.istore 4, 2) := by decide +kernel
theorem dL_turns_216 : decode cL_turns 216 = .ok (.iload 4, 2) := by decide +kernel
theorem dL_turns_218 : decode cL_turns 218 = .ok (.aload_n 2, 1) := by decide +kernel
theorem dL_turns_219 : decode cL_turns 219 = .ok (.bipush 8, 2) := by decide +kernel
theorem dL_turns_221 : decode cL_turns 221 = .ok (.iaload, 1) := by decide +kernel
theorem dL_turns_222 : decode cL_turns 222 = .ok (.if_icmp .ge 64, 3) := by decide +kernel
theorem dL_turns_225 : decode cL_turns 225 = .ok (.aload_n 0, 1) := by decide +kernel
theorem dL_turns_226 : decode cL_turns 226 = .ok (.bipush 7, 2) := by decide +kernel
theorem dL_turns_228 : decode cL_turns 228 = .ok (.iload 4, 2) := by decide +kernel
theorem dL_turns_230 : decode cL_turns 230 = .ok (.imul, 1) := by decide +kernel
theorem dL_turns_231 : decode cL_turns 231 = .ok (.iconst 3, 1) := by decide +kernel
theorem dL_turns_232 : decode cL_turns 232 = .ok (.iadd, 1) := by decide +kernel
theorem dL_turns_233 : decode cL_turns 233 = .ok (.dup2, 1) := by decide +kernel
theorem dL_turns_234 : decode cL_turns 234 = .ok (.iaload, 1) := by decide +kernel
theorem dL_turns_235 : decode cL_turns 235 = .ok (.aload_n 0, 1) := by decide +kernel
theorem dL_turns_236 : decode cL_turns 236 = .ok (.bipush 7, 2) := by decide +kernel
theorem dL_turns_238 : decode cL_turns 238 = .ok (.iload 4, 2) := by decide +kernel
theorem dL_turns_240 : decode cL_turns 240 = .ok (.imul, 1) := by decide +kernel
theorem dL_turns_241 : decode cL_turns 241 = .ok (.iconst 3, 1) := by decide +kernel
theorem dL_turns_242 : decode cL_turns 242 = .ok (.iadd, 1) := by decide +kernel
theorem dL_turns_243 : decode cL_turns 243 = .ok (.iaload, 1) := by decide +kernel
theorem dL_turns_244 : decode cL_turns 244 = .ok (.ifCond .le 7, 3) := by decide +kernel
theorem dL_turns_247 : decode cL_turns 247 = .ok (.iconst 1, 1) := by decide +kernel
theorem dL_turns_248 : decode cL_turns 248 = .ok (.goto 4, 3) := by decide +kernel
theorem dL_turns_251 : decode cL_turns 251 = .ok (.iconst 0, 1) := by decide +kernel
theorem dL_turns_252 : decode cL_turns 252 = .ok (.isub, 1) := by decide +kernel
theorem dL_turns_253 : decode cL_turns 253 = .ok (.iastore, 1) := by decide +kernel
theorem dL_turns_254 : decode cL_turns 254 = .ok (.aload_n 0, 1) := by decide +kernel
theorem dL_turns_255 : decode cL_turns 255 = .ok (.bipush 7, 2) := by decide +kernel
theorem dL_turns_257 : decode cL_turns 257 = .ok (.iload 4, 2) := by decide +kernel
theorem dL_turns_259 : decode cL_turns 259 = .ok (.imul, 1) := by decide +kernel
theorem dL_turns_260 : decode cL_turns 260 = .ok (.bipush 6, 2) := by decide +kernel
theorem dL_turns_262 : decode cL_turns 262 = .ok (.iadd, 1) := by decide +kernel
theorem dL_turns_263 : decode cL_turns 263 = .ok (.dup2, 1) := by decide +kernel
theorem dL_turns_264 : decode cL_turns 264 = .ok (.iaload, 1) := by decide +kernel
theorem dL_turns_265 : decode cL_turns 265 = .ok (.iload 4, 2) := by decide +kernel
theorem dL_turns_267 : decode cL_turns 267 = .ok (.aload_n 2, 1) := by decide +kernel
theorem dL_turns_268 : decode cL_turns 268 = .ok (.iconst 1, 1) := by decide +kernel
theorem dL_turns_269 : decode cL_turns 269 = .ok (.iaload, 1) := by decide +kernel
theorem dL_turns_270 : decode cL_turns 270 = .ok (.if_icmp .ne 7, 3) := by decide +kernel
theorem dL_turns_273 : decode cL_turns 273 = .ok (.iconst 0, 1) := by decide +kernel
theorem dL_turns_274 : decode cL_turns 274 = .ok (.goto 4, 3) := by decide +kernel
theorem dL_turns_277 : decode cL_turns 277 = .ok (.iconst 1, 1) := by decide +kernel
theorem dL_turns_278 : decode cL_turns 278 = .ok (.iadd, 1) := by decide +kernel
theorem dL_turns_279 : decode cL_turns 279 = .ok (.iastore, 1) := by decide +kernel
theorem dL_turns_280 : decode cL_turns 280 = .ok (.iinc 4 1, 3) := by decide +kernel
theorem dL_turns_283 : decode cL_turns 283 = .ok (.goto (-67), 3) := by decide +kernel
theorem dL_turns_286 : decode cL_turns 286 = .ok (.iconst 0, 1) := by decide +kernel
theorem dL_turns_287 : decode cL_turns 287 = .ok (.istore 4, 2) := by decide +kernel
theorem dL_turns_289 : decode cL_turns 289 = .ok (.iload 4, 2) := by decide +kernel
theorem dL_turns_291 : decode cL_turns 291 = .ok (.bipush 12, 2) := by decide +kernel
theorem dL_turns_293 : decode cL_turns 293 = .ok (.if_icmp .ge 50, 3) := by decide +kernel
theorem dL_turns_296 : decode cL_turns 296 = .ok (.aload_n 1, 1) := by decide +kernel
theorem dL_turns_297 : decode cL_turns 297 = .ok (.iload 4, 2) := by decide +kernel
theorem dL_turns_299 : decode cL_turns 299 = .ok (.aload_n 1, 1) := by decide +kernel
theorem dL_turns_300 : decode cL_turns 300 = .ok (.iload 4, 2) := by decide +kernel
theorem dL_turns_302 : decode cL_turns 302 = .ok (.iconst 2, 1) := by decide +kernel
theorem dL_turns_303 : decode cL_turns 303 = .ok (.iadd, 1) := by decide +kernel
theorem dL_turns_304 : decode cL_turns 304 = .ok (.iaload, 1) := by decide +kernel
theorem dL_turns_305 : decode cL_turns 305 = .ok (.ifCond .le 27, 3) := by decide +kernel
theorem dL_turns_308 : decode cL_turns 308 = .ok (.aload_n 2, 1) := by decide +kernel
theorem dL_turns_309 : decode cL_turns 309 = .ok (.iconst 0, 1) := by decide +kernel
theorem dL_turns_310 : decode cL_turns 310 = .ok (.iaload, 1) := by decide +kernel
theorem dL_turns_311 : decode cL_turns 311 = .ok (.aload_n 1, 1) := by decide +kernel
theorem dL_turns_312 : decode cL_turns 312 = .ok (.iload 4, 2) := by decide +kernel
theorem dL_turns_314 : decode cL_turns 314 = .ok (.iconst 2, 1) := by decide +kernel
theorem dL_turns_315 : decode cL_turns 315 = .ok (.iadd, 1) := by decide +kernel
theorem dL_turns_316 : decode cL_turns 316 = .ok (.iaload, 1) := by decide +kernel
theorem dL_turns_317 : decode cL_turns 317 = .ok (.irem, 1) := by decide +kernel
theorem dL_turns_318 : decode cL_turns 318 = .ok (.ifCond .ne 14, 3) := by decide +kernel
theorem dL_turns_321 : decode cL_turns 321 = .ok (.aload_n 1, 1) := by decide +kernel
theorem dL_turns_322 : decode cL_turns 322 = .ok (.iload 4, 2) := by decide +kernel
theorem dL_turns_324 : decode cL_turns 324 = .ok (.iaload, 1) := by decide +kernel
theorem dL_turns_325 : decode cL_turns 325 = .ok (.iconst 1, 1) := by decide +kernel
theorem dL_turns_326 : decode cL_turns 326 = .ok (.iadd, 1) := by decide +kernel
theorem dL_turns_327 : decode cL_turns 327 = .ok (.iconst 4, 1) := by decide +kernel
theorem dL_turns_328 : decode cL_turns 328 = .ok (.irem, 1) := by decide +kernel
theorem dL_turns_329 : decode cL_turns 329 = .ok (.goto 7, 3) := by decide +kernel
theorem dL_turns_332 : decode cL_turns 332 = .ok (.aload_n 1, 1) := by decide +kernel
theorem dL_turns_333 : decode cL_turns 333 = .ok (.iload 4, 2) := by decide +kernel
theorem dL_turns_335 : decode cL_turns 335 = .ok (.iaload, 1) := by decide +kernel
theorem dL_turns_336 : decode cL_turns 336 = .ok (.iastore, 1) := by decide +kernel
theorem dL_turns_337 : decode cL_turns 337 = .ok (.iinc 4 4, 3) := by decide +kernel
theorem dL_turns_340 : decode cL_turns 340 = .ok (.goto (-51), 3) := by decide +kernel
theorem dL_turns_343 : decode cL_turns 343 = .ok (.aload_n 2, 1) := by decide +kernel
theorem dL_turns_344 : decode cL_turns 344 = .ok (.bipush 7, 2) := by decide +kernel
theorem dL_turns_346 : decode cL_turns 346 = .ok (.iaload, 1) := by decide +kernel
theorem dL_turns_347 : decode cL_turns 347 = .ok (.ifCond .le 112, 3) := by decide +kernel
theorem dL_turns_350 : decode cL_turns 350 = .ok (.aload_n 2, 1) := by decide +kernel
theorem dL_turns_351 : decode cL_turns 351 = .ok (.iconst 0, 1) := by decide +kernel
theorem dL_turns_352 : decode cL_turns 352 = .ok (.iaload, 1) := by decide +kernel
theorem dL_turns_353 : decode cL_turns 353 = .ok (.aload_n 2, 1) := by decide +kernel
theorem dL_turns_354 : decode cL_turns 354 = .ok (.bipush 7, 2) := by decide +kernel
theorem dL_turns_356 : decode cL_turns 356 = .ok (.iaload, 1) := by decide +kernel
theorem dL_turns_357 : decode cL_turns 357 = .ok (.irem, 1) := by decide +kernel
theorem dL_turns_358 : decode cL_turns 358 = .ok (.ifCond .ne 101, 3) := by decide +kernel
theorem dL_turns_361 : decode cL_turns 361 = .ok (.iconst 0, 1) := by decide +kernel
theorem dL_turns_362 : decode cL_turns 362 = .ok (.istore 4, 2) := by decide +kernel
theorem dL_turns_364 : decode cL_turns 364 = .ok (.iload 4, 2) := by decide +kernel
theorem dL_turns_366 : decode cL_turns 366 = .ok (.aload_n 2, 1) := by decide +kernel
theorem dL_turns_367 : decode cL_turns 367 = .ok (.bipush 8, 2) := by decide +kernel
theorem dL_turns_369 : decode cL_turns 369 = .ok (.iaload, 1) := by decide +kernel
theorem dL_turns_370 : decode cL_turns 370 = .ok (.if_icmp .ge 82, 3) := by decide +kernel
theorem dL_turns_373 : decode cL_turns 373 = .ok (.aload_n 0, 1) := by decide +kernel
theorem dL_turns_374 : decode cL_turns 374 = .ok (.bipush 7, 2) := by decide +kernel
theorem dL_turns_376 : decode cL_turns 376 = .ok (.iload 4, 2) := by decide +kernel
theorem dL_turns_378 : decode cL_turns 378 = .ok (.imul, 1) := by decide +kernel
theorem dL_turns_379 : decode cL_turns 379 = .ok (.bipush 10, 2) := by decide +kernel
theorem dL_turns_381 : decode cL_turns 381 = .ok (.aload_n 0, 1) := by decide +kernel
theorem dL_turns_382 : decode cL_turns 382 = .ok (.bipush 7, 2) := by decide +kernel
theorem dL_turns_384 : decode cL_turns 384 = .ok (.iload 4, 2) := by decide +kernel
theorem dL_turns_386 : decode cL_turns 386 = .ok (.imul, 1) := by decide +kernel
theorem dL_turns_387 : decode cL_turns 387 = .ok (.iaload, 1) := by decide +kernel
theorem dL_turns_388 : decode cL_turns 388 = .ok (.bipush 10, 2) := by decide +kernel
theorem dL_turns_390 : decode cL_turns 390 = .ok (.irem, 1) := by decide +kernel
theorem dL_turns_391 : decode cL_turns 391 = .ok (.imul, 1) := by decide +kernel
theorem dL_turns_392 : decode cL_turns 392 = .ok (.bipush 9, 2) := by decide +kernel
theorem dL_turns_394 : decode cL_turns 394 = .ok (.iadd, 1) := by decide +kernel
theorem dL_turns_395 : decode cL_turns 395 = .ok (.aload_n 0, 1) := by decide +kernel
theorem dL_turns_396 : decode cL_turns 396 = .ok (.bipush 7, 2) := by decide +kernel
theorem dL_turns_398 : decode cL_turns 398 = .ok (.iload 4, 2) := by decide +kernel
theorem dL_turns_400 : decode cL_turns 400 = .ok (.imul, 1) := by decide +kernel
theorem dL_turns_401 : decode cL_turns 401 = .ok (.iaload, 1) := by decide +kernel
theorem dL_turns_402 : decode cL_turns 402 = .ok (.bipush 10, 2) := by decide +kernel
theorem dL_turns_404 : decode cL_turns 404 = .ok (.idiv, 1) := by decide +kernel
theorem dL_turns_405 : decode cL_turns 405 = .ok (.isub, 1) := by decide +kernel
theorem dL_turns_406 : decode cL_turns 406 = .ok (.iastore, 1) := by decide +kernel
theorem dL_turns_407 : decode cL_turns 407 = .ok (.aload_n 0, 1) := by decide +kernel
theorem dL_turns_408 : decode cL_turns 408 = .ok (.bipush 7, 2) := by decide +kernel
theorem dL_turns_410 : decode cL_turns 410 = .ok (.iload 4, 2) := by decide +kernel
theorem dL_turns_412 : decode cL_turns 412 = .ok (.imul, 1) := by decide +kernel
theorem dL_turns_413 : decode cL_turns 413 = .ok (.iconst 2, 1) := by decide +kernel
theorem dL_turns_414 : decode cL_turns 414 = .ok (.iadd, 1) := by decide +kernel
theorem dL_turns_415 : decode cL_turns 415 = .ok (.aload_n 0, 1) := by decide +kernel
theorem dL_turns_416 : decode cL_turns 416 = .ok (.bipush 7, 2) := by decide +kernel
theorem dL_turns_418 : decode cL_turns 418 = .ok (.iload 4, 2) := by decide +kernel
theorem dL_turns_420 : decode cL_turns 420 = .ok (.imul, 1) := by decide +kernel
theorem dL_turns_421 : decode cL_turns 421 = .ok (.iconst 2, 1) := by decide +kernel
theorem dL_turns_422 : decode cL_turns 422 = .ok (.iadd, 1) := by decide +kernel
theorem dL_turns_423 : decode cL_turns 423 = .ok (.iaload, 1) := by decide +kernel
theorem dL_turns_424 : decode cL_turns 424 = .ok (.iconst 4, 1) := by decide +kernel
theorem dL_turns_425 : decode cL_turns 425 = .ok (.if_icmp .ne 7, 3) := by decide +kernel
theorem dL_turns_428 : decode cL_turns 428 = .ok (.iconst 4, 1) := by decide +kernel
theorem dL_turns_429 : decode cL_turns 429 = .ok (.goto 16, 3) := by decide +kernel
theorem dL_turns_432 : decode cL_turns 432 = .ok (.aload_n 0, 1) := by decide +kernel
theorem dL_turns_433 : decode cL_turns 433 = .ok (.bipush 7, 2) := by decide +kernel
theorem dL_turns_435 : decode cL_turns 435 = .ok (.iload 4, 2) := by decide +kernel
theorem dL_turns_437 : decode cL_turns 437 = .ok (.imul, 1) := by decide +kernel
theorem dL_turns_438 : decode cL_turns 438 = .ok (.iconst 2, 1) := by decide +kernel
theorem dL_turns_439 : decode cL_turns 439 = .ok (.iadd, 1) := by decide +kernel
theorem dL_turns_440 : decode cL_turns 440 = .ok (.iaload, 1) := by decide +kernel
theorem dL_turns_441 : decode cL_turns 441 = .ok (.iconst 1, 1) := by decide +kernel
theorem dL_turns_442 : decode cL_turns 442 = .ok (.iadd, 1) := by decide +kernel
theorem dL_turns_443 : decode cL_turns 443 = .ok (.iconst 4, 1) := by decide +kernel
theorem dL_turns_444 : decode cL_turns 444 = .ok (.irem, 1) := by decide +kernel
theorem dL_turns_445 : decode cL_turns 445 = .ok (.iastore, 1) := by decide +kernel
theorem dL_turns_446 : decode cL_turns 446 = .ok (.iinc 4 1, 3) := by decide +kernel
theorem dL_turns_449 : decode cL_turns 449 = .ok (.goto (-85), 3) := by decide +kernel
theorem dL_turns_452 : decode cL_turns 452 = .ok (.aload_n 2, 1) := by decide +kernel
theorem dL_turns_453 : decode cL_turns 453 = .ok (.iconst 5, 1) := by decide +kernel
theorem dL_turns_454 : decode cL_turns 454 = .ok (.dup2, 1) := by decide +kernel
theorem dL_turns_455 : decode cL_turns 455 = .ok (.iaload, 1) := by decide +kernel
theorem dL_turns_456 : decode cL_turns 456 = .ok (.iconst 1, 1) := by decide +kernel
theorem dL_turns_457 : decode cL_turns 457 = .ok (.iadd, 1) := by decide +kernel
theorem dL_turns_458 : decode cL_turns 458 = .ok (.iastore, 1) := by decide +kernel
theorem dL_turns_459 : decode cL_turns 459 = .ok (.return_, 1) := by decide +kernel
theorem dL_areRunners_0 : decode cL_areRunners 0 = .ok (.aload_n 0, 1) := by decide +kernel
theorem dL_areRunners_1 : decode cL_areRunners 1 = .ok (.aload_n 3, 1) := by decide +kernel
theorem dL_areRunners_2 : decode cL_areRunners 2 = .ok (.bipush 8, 2) := by decide +kernel
theorem dL_areRunners_4 : decode cL_areRunners 4 = .ok (.iaload, 1) := by decide +kernel
theorem dL_areRunners_5 : decode cL_areRunners 5 = .ok (.iconst 0, 1) := by decide +kernel
theorem dL_areRunners_6 : decode cL_areRunners 6 = .ok (.invokevirtual 35, 3) := by decide +kernel
theorem dL_areRunners_9 : decode cL_areRunners 9 = .ok (.iconst (-1), 1) := by decide +kernel
theorem dL_areRunners_10 : decode cL_areRunners 10 = .ok (.if_icmp .ne 42, 3) := by decide +kernel
theorem dL_areRunners_13 : decode cL_areRunners 13 = .ok (.aload_n 0, 1) := by decide +kernel
theorem dL_areRunners_14 : decode cL_areRunners 14 = .ok (.iconst 1, 1) := by decide +kernel
theorem dL_areRunners_15 : decode cL_areRunners 15 = .ok (.invokevirtual 40, 3) := by decide +kernel
theorem dL_areRunners_18 : decode cL_areRunners 18 = .ok (.aload_n 3, 1) := by decide +kernel
theorem dL_areRunners_19 : decode cL_areRunners 19 = .ok (.bipush 8, 2) := by decide +kernel
theorem dL_areRunners_21 : decode cL_areRunners 21 = .ok (.iaload, 1) := by decide +kernel
theorem dL_areRunners_22 : decode cL_areRunners 22 = .ok (.if_icmp .ne 30, 3) := by decide +kernel
theorem dL_areRunners_25 : decode cL_areRunners 25 = .ok (.aload_n 0, 1) := by decide +kernel
theorem dL_areRunners_26 : decode cL_areRunners 26 = .ok (.iconst 2, 1) := by decide +kernel
theorem dL_areRunners_27 : decode cL_areRunners 27 = .ok (.invokevirtual 40, 3) := by decide +kernel
theorem dL_areRunners_30 : decode cL_areRunners 30 = .ok (.aload_n 3, 1) := by decide +kernel
theorem dL_areRunners_31 : decode cL_areRunners 31 = .ok (.bipush 8, 2) := by decide +kernel
theorem dL_areRunners_33 : decode cL_areRunners 33 = .ok (.iaload, 1) := by decide +kernel
theorem dL_areRunners_34 : decode cL_areRunners 34 = .ok (.ifCond .ne 8, 3) := by decide +kernel
theorem dL_areRunners_37 : decode cL_areRunners 37 = .ok (.bipush (-5), 2) := by decide +kernel
theorem dL_areRunners_39 : decode cL_areRunners 39 = .ok (.goto 6, 3) := by decide +kernel
theorem dL_areRunners_42 : decode cL_areRunners 42 = .ok (.aload_n 3, 1) := by decide +kernel
theorem dL_areRunners_43 : decode cL_areRunners 43 = .ok (.iconst 1, 1) := by decide +kernel
theorem dL_areRunners_44 : decode cL_areRunners 44 = .ok (.iaload, 1) := by decide +kernel
theorem dL_areRunners_45 : decode cL_areRunners 45 = .ok (.if_icmp .ne 7, 3) := by decide +kernel
theorem dL_areRunners_48 : decode cL_areRunners 48 = .ok (.iconst 1, 1) := by decide +kernel
theorem dL_areRunners_49 : decode cL_areRunners 49 = .ok (.goto 4, 3) := by decide +kernel
theorem dL_areRunners_52 : decode cL_areRunners 52 = .ok (.iconst 0, 1) := by decide +kernel
theorem dL_areRunners_53 : decode cL_areRunners 53 = .ok (.istore 4, 2) := by decide +kernel
theorem dL_areRunners_55 : decode cL_areRunners 55 = .ok (.iconst 0, 1) := by decide +kernel
theorem dL_areRunners_56 : decode cL_areRunners 56 = .ok (.istore 5, 2) := by decide +kernel
theorem dL_areRunners_58 : decode cL_areRunners 58 = .ok (.iconst 0, 1) := by decide +kernel
theorem dL_areRunners_59 : decode cL_areRunners 59 = .ok (.istore 6, 2) := by decide +kernel
theorem dL_areRunners_61 : decode cL_areRunners 61 = .ok (.iconst 0, 1) := by decide +kernel
theorem dL_areRunners_62 : decode cL_areRunners 62 = .ok (.istore 7, 2) := by decide +kernel
theorem dL_areRunners_64 : decode cL_areRunners 64 = .ok (.iconst 0, 1) := by decide +kernel
theorem dL_areRunners_65 : decode cL_areRunners 65 = .ok (.istore 8, 2) := by decide +kernel
theorem dL_areRunners_67 : decode cL_areRunners 67 = .ok (.iload 8, 2) := by decide +kernel
theorem dL_areRunners_69 : decode cL_areRunners 69 = .ok (.aload_n 3, 1) := by decide +kernel
theorem dL_areRunners_70 : decode cL_areRunners 70 = .ok (.bipush 8, 2) := by decide +kernel
theorem dL_areRunners_72 : decode cL_areRunners 72 = .ok (.iaload, 1) := by decide +kernel
theorem dL_areRunners_73 : decode cL_areRunners 73 = .ok (.if_icmp .ge 282, 3) := by decide +kernel
theorem dL_areRunners_76 : decode cL_areRunners 76 = .ok (.iload 4, 2) := by decide +kernel
theorem dL_areRunners_78 : decode cL_areRunners 78 = .ok (.ifCond .eq 277, 3) := by decide +kernel
theorem dL_areRunners_81 : decode cL_areRunners 81 = .ok (.iconst 0, 1) := by decide +kernel
theorem dL_areRunners_82 : decode cL_areRunners 82 = .ok (.istore 9, 2) := by decide +kernel
theorem dL_areRunners_84 : decode cL_areRunners 84 = .ok (.iload 9, 2) := by decide +kernel
theorem dL_areRunners_86 : decode cL_areRunners 86 = .ok (.bipush 7, 2) := by decide +kernel
theorem dL_areRunners_88 : decode cL_areRunners 88 = .ok (.if_icmp .ge 42, 3) := by decide +kernel
theorem dL_areRunners_91 : decode cL_areRunners 91 = .ok (.iload 4, 2) := by decide +kernel
theorem dL_areRunners_93 : decode cL_areRunners 93 = .ok (.ifCond .eq 28, 3) := by decide +kernel
theorem dL_areRunners_96 : decode cL_areRunners 96 = .ok (.aload_n 0, 1) := by decide +kernel
theorem dL_areRunners_97 : decode cL_areRunners 97 = .ok (.iload 8, 2) := by decide +kernel
theorem dL_areRunners_99 : decode cL_areRunners 99 = .ok (.iload 9, 2) := by decide +kernel
theorem dL_areRunners_101 : decode cL_areRunners 101 = .ok (.invokevirtual 35, 3) := by decide +kernel
theorem dL_areRunners_104 : decode cL_areRunners 104 = .ok (.aload_n 1, 1) := by decide +kernel
theorem dL_areRunners_105 : decode cL_areRunners 105 = .ok (.bipush 7, 2) := by decide +kernel
theorem dL_areRunners_107 : decode cL_areRunners 107 = .ok (.iload 8, 2) := by decide +kernel
theorem dL_areRunners_109 : decode cL_areRunners 109 = .ok (.imul, 1) := by decide +kernel
theorem dL_areRunners_110 : decode cL_areRunners 110 = .ok (.iload 9, 2) := by decide +kernel
theorem dL_areRunners_112 : decode cL_areRunners 112 = .ok (.iadd, 1) := by decide +kernel
theorem dL_areRunners_113 : decode cL_areRunners 113 = .ok (.iaload, 1) := by decide +kernel
theorem dL_areRunners_114 : decode cL_areRunners 114 = .ok (.if_icmp .ne 7, 3) := by decide +kernel
theorem dL_areRunners_117 : decode cL_areRunners 117 = .ok (.iconst 1, 1) := by decide +kernel
theorem dL_areRunners_118 : decode cL_areRunners 118 = .ok (.goto 4, 3) := by decide +kernel
theorem dL_areRunners_121 : decode cL_areRunners 121 = .ok (.iconst 0, 1) := by decide +kernel
theorem dL_areRunners_122 : decode cL_areRunners 122 = .ok (.istore 4, 2) := by decide +kernel
theorem dL_areRunners_124 : decode cL_areRunners 124 = .ok (.iinc 9 1, 3) := by decide +kernel
theorem dL_areRunners_127 : decode cL_areRunners 127 = .ok (.goto (-43), 3) := by decide +kernel
theorem dL_areRunners_130 : decode cL_areRunners 130 = .ok (.aload_n 1, 1) := by decide +kernel
theorem dL_areRunners_131 : decode cL_areRunners 131 = .ok (.aload_n 2, 1) := by decide +kernel
theorem dL_areRunners_132 : decode cL_areRunners 132 = .ok (.aload_n 3, 1) := by decide +kernel
theorem dL_areRunners_133 : decode cL_areRunners 133 = .ok (.iload 8, 2) := by decide +kernel
theorem dL_areRunners_135 : decode cL_areRunners 135 = .ok (.invokestatic 44, 3) := by decide +kernel
theorem dL_areRunners_138 : decode cL_areRunners 138 = .ok (.istore 9, 2) := by decide +kernel
theorem dL_areRunners_140 : decode cL_areRunners 140 = .ok (.iload 4, 2) := by decide +kernel
theorem dL_areRunners_142 : decode cL_areRunners 142 = .ok (.ifCond .eq 49, 3) := by decide +kernel
theorem dL_areRunners_145 : decode cL_areRunners 145 = .ok (.aload_n 0, 1) := by decide +kernel
theorem dL_areRunners_146 : decode cL_areRunners 146 = .ok (.iload 8, 2) := by decide +kernel
theorem dL_areRunners_148 : decode cL_areRunners 148 = .ok (.bipush 7, 2) := by decide +kernel
theorem dL_areRunners_150 : decode cL_areRunners 150 = .ok (.invokevirtual 35, 3) := by decide +kernel
theorem dL_areRunners_153 : decode cL_areRunners 153 = .ok (.iload 9, 2) := by decide +kernel
theorem dL_areRunners_155 : decode cL_areRunners 155 = .ok (.if_icmp .ne 36, 3) := by decide +kernel
theorem dL_areRunners_158 : decode cL_areRunners 158 = .ok (.aload_n 0, 1) := by decide +kernel
theorem dL_areRunners_159 : decode cL_areRunners 159 = .ok (.iload 8, 2) := by decide +kernel
theorem dL_areRunners_161 : decode cL_areRunners 161 = .ok (.bipush 8, 2) := by decide +kernel
theorem dL_areRunners_163 : decode cL_areRunners 163 = .ok (.invokevirtual 35, 3) := by decide +kernel
theorem dL_areRunners_166 : decode cL_areRunners 166 = .ok (.bipush (-2), 2) := by decide +kernel
theorem dL_areRunners_168 : decode cL_areRunners 168 = .ok (.if_icmp .ne 23, 3) := by decide +kernel
theorem dL_areRunners_171 : decode cL_areRunners 171 = .ok (.aload_n 0, 1) := by decide +kernel
theorem dL_areRunners_172 : decode cL_areRunners 172 = .ok (.aload_n 1, 1) := by decide +kernel
theorem dL_areRunners_173 : decode cL_areRunners 173 = .ok (.bipush 7, 2) := by decide +kernel
theorem dL_areRunners_175 : decode cL_areRunners 175 = .ok (.iload 8, 2) := by decide +kernel
theorem dL_areRunners_177 : decode cL_areRunners 177 = .ok (.imul, 1) := by decide +kernel
theorem dL_areRunners_178 : decode cL_areRunners 178 = .ok (.iaload, 1) := by decide +kernel
theorem dL_areRunners_179 : decode cL_areRunners 179 = .ok (.invokevirtual 48, 3) := by decide +kernel
theorem dL_areRunners_182 : decode cL_areRunners 182 = .ok (.iload 8, 2) := by decide +kernel
theorem dL_areRunners_184 : decode cL_areRunners 184 = .ok (.if_icmp .ne 7, 3) := by decide +kernel
theorem dL_areRunners_187 : decode cL_areRunners 187 = .ok (.iconst 1, 1) := by decide +kernel
theorem dL_areRunners_188 : decode cL_areRunners 188 = .ok (.goto 4, 3) := by decide +kernel
theorem dL_areRunners_191 : decode cL_areRunners 191 = .ok (.iconst 0, 1) := by decide +kernel
theorem dL_areRunners_192 : decode cL_areRunners 192 = .ok (.istore 4, 2) := by decide +kernel
theorem dL_areRunners_194 : decode cL_areRunners 194 = .ok (.iload 5, 2) := by decide +kernel
theorem dL_areRunners_196 : decode cL_areRunners 196 = .ok (.iload 9, 2) := by decide +kernel
theorem dL_areRunners_198 : decode cL_areRunners 198 = .ok (.ifCond .ne 7, 3) := by decide +kernel
theorem dL_areRunners_201 : decode cL_areRunners 201 = .ok (.iconst 1, 1) := by decide +kernel
theorem dL_areRunners_202 : decode cL_areRunners 202 = .ok (.goto 4, 3) := by decide +kernel
theorem dL_areRunners_205 : decode cL_areRunners 205 = .ok (.iconst 0, 1) := by decide +kernel
theorem dL_areRunners_206 : decode cL_areRunners 206 = .ok (.iadd, 1) := by decide +kernel
theorem dL_areRunners_207 : decode cL_areRunners 207 = .ok (.istore 5, 2) := by decide +kernel
theorem dL_areRunners_209 : decode cL_areRunners 209 = .ok (.iload 6, 2) := by decide +kernel
theorem dL_areRunners_211 : decode cL_areRunners 211 = .ok (.aload_n 1, 1) := by decide +kernel
theorem dL_areRunners_212 : decode cL_areRunners 212 = .ok (.bipush 7, 2) := by decide +kernel
theorem dL_areRunners_214 : decode cL_areRunners 214 = .ok (.iload 8, 2) := by decide +kernel
theorem dL_areRunners_216 : decode cL_areRunners 216 = .ok (.imul, 1) := by decide +kernel
theorem dL_areRunners_217 : decode cL_areRunners 217 = .ok (.bipush 6, 2) := by decide +kernel
theorem dL_areRunners_219 : decode cL_areRunners 219 = .ok (.iadd, 1) := by decide +kernel
theorem dL_areRunners_220 : decode cL_areRunners 220 = .ok (.iaload, 1) := by decide +kernel
theorem dL_areRunners_221 : decode cL_areRunners 221 = .ok (.iadd, 1) := by decide +kernel
theorem dL_areRunners_222 : decode cL_areRunners 222 = .ok (.istore 6, 2) := by decide +kernel
theorem dL_areRunners_224 : decode cL_areRunners 224 = .ok (.iload 7, 2) := by decide +kernel
theorem dL_areRunners_226 : decode cL_areRunners 226 = .ok (.aload_n 1, 1) := by decide +kernel
theorem dL_areRunners_227 : decode cL_areRunners 227 = .ok (.bipush 7, 2) := by decide +kernel
theorem dL_areRunners_229 : decode cL_areRunners 229 = .ok (.iload 8, 2) := by decide +kernel
theorem dL_areRunners_231 : decode cL_areRunners 231 = .ok (.imul, 1) := by decide +kernel
theorem dL_areRunners_232 : decode cL_areRunners 232 = .ok (.iconst 4, 1) := by decide +kernel
theorem dL_areRunners_233 : decode cL_areRunners 233 = .ok (.iadd, 1) := by decide +kernel
theorem dL_areRunners_234 : decode cL_areRunners 234 = .ok (.iaload, 1) := by decide +kernel
theorem dL_areRunners_235 : decode cL_areRunners 235 = .ok (.aload_n 1, 1) := by decide +kernel
theorem dL_areRunners_236 : decode cL_areRunners 236 = .ok (.bipush 7, 2) := by decide +kernel
theorem dL_areRunners_238 : decode cL_areRunners 238 = .ok (.iload 8, 2) := by decide +kernel
theorem dL_areRunners_240 : decode cL_areRunners 240 = .ok (.imul, 1) := by decide +kernel
theorem dL_areRunners_241 : decode cL_areRunners 241 = .ok (.iconst 5, 1) := by decide +kernel
theorem dL_areRunners_242 : decode cL_areRunners 242 = .ok (.iadd, 1) := by decide +kernel
theorem dL_areRunners_243 : decode cL_areRunners 243 = .ok (.iaload, 1) := by decide +kernel
theorem dL_areRunners_244 : decode cL_areRunners 244 = .ok (.isub, 1) := by decide +kernel
theorem dL_areRunners_245 : decode cL_areRunners 245 = .ok (.iadd, 1) := by decide +kernel
theorem dL_areRunners_246 : decode cL_areRunners 246 = .ok (.istore 7, 2) := by decide +kernel
theorem dL_areRunners_248 : decode cL_areRunners 248 = .ok (.iload 8, 2) := by decide +kernel
theorem dL_areRunners_250 : decode cL_areRunners 250 = .ok (.aload_n 3, 1) := by decide +kernel
theorem dL_areRunners_251 : decode cL_areRunners 251 = .ok (.iconst 1, 1) := by decide +kernel
theorem dL_areRunners_252 : decode cL_areRunners 252 = .ok (.iaload, 1) := by decide +kernel
theorem dL_areRunners_253 : decode cL_areRunners 253 = .ok (.if_icmp .ne 7, 3) := by decide +kernel
theorem dL_areRunners_256 : decode cL_areRunners 256 = .ok (.iconst 1, 1) := by decide +kernel
theorem dL_areRunners_257 : decode cL_areRunners 257 = .ok (.goto 67, 3) := by decide +kernel
theorem dL_areRunners_260 : decode cL_areRunners 260 = .ok (.iload 9, 2) := by decide +kernel
theorem dL_areRunners_262 : decode cL_areRunners 262 = .ok (.ifCond .ne 7, 3) := by decide +kernel
theorem dL_areRunners_265 : decode cL_areRunners 265 = .ok (.iconst 2, 1) := by decide +kernel
theorem dL_areRunners_266 : decode cL_areRunners 266 = .ok (.goto 58, 3) := by decide +kernel
theorem dL_areRunners_269 : decode cL_areRunners 269 = .ok (.aload_n 1, 1) := by decide +kernel
theorem dL_areRunners_270 : decode cL_areRunners 270 = .ok (.bipush 7, 2) := by decide +kernel
theorem dL_areRunners_272 : decode cL_areRunners 272 = .ok (.iload 8, 2) := by decide +kernel
theorem dL_areRunners_274 : decode cL_areRunners 274 = .ok (.imul, 1) := by decide +kernel
theorem dL_areRunners_275 : decode cL_areRunners 275 = .ok (.iconst 3, 1) := by decide +kernel
theorem dL_areRunners_276 : decode cL_areRunners 276 = .ok (.iadd, 1) := by decide +kernel
theorem dL_areRunners_277 : decode cL_areRunners 277 = .ok (.iaload, 1) := by decide +kernel
theorem dL_areRunners_278 : decode cL_areRunners 278 = .ok (.ifCond .le 7, 3) := by decide +kernel
theorem dL_areRunners_281 : decode cL_areRunners 281 = .ok (.iconst 3, 1) := by decide +kernel
theorem dL_areRunners_282 : decode cL_areRunners 282 = .ok (.goto 42, 3) := by decide +kernel
theorem dL_areRunners_285 : decode cL_areRunners 285 = .ok (.aload_n 1, 1) := by decide +kernel
theorem dL_areRunners_286 : decode cL_areRunners 286 = .ok (.aload_n 2, 1) := by decide +kernel
theorem dL_areRunners_287 : decode cL_areRunners 287 = .ok (.aload_n 3, 1) := by decide +kernel
theorem dL_areRunners_288 : decode cL_areRunners 288 = .ok (.iload 8, 2) := by decide +kernel
theorem dL_areRunners_290 : decode cL_areRunners 290 = .ok (.aload_n 1, 1) := by decide +kernel
theorem dL_areRunners_291 : decode cL_areRunners 291 = .ok (.bipush 7, 2) := by decide +kernel
theorem dL_areRunners_293 : decode cL_areRunners 293 = .ok (.aload_n 3, 1) := by decide +kernel
theorem dL_areRunners_294 : decode cL_areRunners 294 = .ok (.iconst 1, 1) := by decide +kernel
theorem dL_areRunners_295 : decode cL_areRunners 295 = .ok (.iaload, 1) := by decide +kernel
theorem dL_areRunners_296 : decode cL_areRunners 296 = .ok (.imul, 1) := by decide +kernel
theorem dL_areRunners_297 : decode cL_areRunners 297 = .ok (.iaload, 1) := by decide +kernel
theorem dL_areRunners_298 : decode cL_areRunners 298 = .ok (.invokestatic 19, 3) := by decide +kernel
theorem dL_areRunners_301 : decode cL_areRunners 301 = .ok (.ifCond .ne 7, 3) := by decide +kernel
theorem dL_areRunners_304 : decode cL_areRunners 304 = .ok (.iconst 4, 1) := by decide +kernel
theorem dL_areRunners_305 : decode cL_areRunners 305 = .ok (.goto 19, 3) := by decide +kernel
theorem dL_areRunners_308 : decode cL_areRunners 308 = .ok (.aload_n 1, 1) := by decide +kernel
theorem dL_areRunners_309 : decode cL_areRunners 309 = .ok (.aload_n 2, 1) := by decide +kernel
theorem dL_areRunners_310 : decode cL_areRunners 310 = .ok (.aload_n 3, 1) := by decide +kernel
theorem dL_areRunners_311 : decode cL_areRunners 311 = .ok (.invokestatic 31, 3) := by decide +kernel
theorem dL_areRunners_314 : decode cL_areRunners 314 = .ok (.iload 8, 2) := by decide +kernel
theorem dL_areRunners_316 : decode cL_areRunners 316 = .ok (.if_icmp .ne 7, 3) := by decide +kernel
theorem dL_areRunners_319 : decode cL_areRunners 319 = .ok (.iconst 0, 1) := by decide +kernel
theorem dL_areRunners_320 : decode cL_areRunners 320 = .ok (.goto 4, 3) := by decide +kernel
theorem dL_areRunners_323 : decode cL_areRunners 323 = .ok (.iconst 5, 1) := by decide +kernel
theorem dL_areRunners_324 : decode cL_areRunners 324 = .ok (.istore 10, 2) := by decide +kernel
theorem dL_areRunners_326 : decode cL_areRunners 326 = .ok (.iload 4, 2) := by decide +kernel
theorem dL_areRunners_328 : decode cL_areRunners 328 = .ok (.ifCond .eq 18, 3) := by decide +kernel
theorem dL_areRunners_331 : decode cL_areRunners 331 = .ok (.aload_n 0, 1) := by decide +kernel
theorem dL_areRunners_332 : decode cL_areRunners 332 = .ok (.iload 8, 2) := by decide +kernel
theorem dL_areRunners_334 : decode cL_areRunners 334 = .ok (.invokevirtual 51, 3) := by decide +kernel
theorem dL_areRunners_337 : decode cL_areRunners 337 = .ok (.iload 10, 2) := by decide +kernel
theorem dL_areRunners_339 : decode cL_areRunners 339 = .ok (.if_icmp .ne 7, 3) := by decide +kernel
theorem dL_areRunners_342 : decode cL_areRunners 342 = .ok (.iconst 1, 1) := by decide +kernel
theorem dL_areRunners_343 : decode cL_areRunners 343 = .ok (.goto 4, 3) := by decide +kernel
theorem dL_areRunners_346 : decode cL_areRunners 346 = .ok (.iconst 0, 1) := by decide +kernel
theorem dL_areRunners_347 : decode cL_areRunners 347 = .ok (.istore 4, 2) := by decide +kernel
theorem dL_areRunners_349 : decode cL_areRunners 349 = .ok (.iinc 8 1, 3) := by decide +kernel
theorem dL_areRunners_352 : decode cL_areRunners 352 = .ok (.goto (-285), 3) := by decide +kernel
theorem dL_areRunners_355 : decode cL_areRunners 355 = .ok (.iload 4, 2) := by decide +kernel
theorem dL_areRunners_357 : decode cL_areRunners 357 = .ok (.ifCond .eq 123, 3) := by decide +kernel
theorem dL_areRunners_360 : decode cL_areRunners 360 = .ok (.iload 7, 2) := by decide +kernel
theorem dL_areRunners_362 : decode cL_areRunners 362 = .ok (.ifCond .ne 118, 3) := by decide +kernel
theorem dL_areRunners_365 : decode cL_areRunners 365 = .ok (.iload 6, 2) := by decide +kernel
theorem dL_areRunners_367 : decode cL_areRunners 367 = .ok (.ifCond .lt 113, 3) := by decide +kernel
theorem dL_areRunners_370 : decode cL_areRunners 370 = .ok (.aload_n 0, 1) := by decide +kernel
theorem dL_areRunners_371 : decode cL_areRunners 371 = .ok (.iconst 0, 1) := by decide +kernel
theorem dL_areRunners_372 : decode cL_areRunners 372 = .ok (.invokevirtual 40, 3) := by decide +kernel
theorem dL_areRunners_375 : decode cL_areRunners 375 = .ok (.aload_n 3, 1) := by decide +kernel
theorem dL_areRunners_376 : decode cL_areRunners 376 = .ok (.iconst 0, 1) := by decide +kernel
theorem dL_areRunners_377 : decode cL_areRunners 377 = .ok (.iaload, 1) := by decide +kernel
theorem dL_areRunners_378 : decode cL_areRunners 378 = .ok (.if_icmp .ne 102, 3) := by decide +kernel
theorem dL_areRunners_381 : decode cL_areRunners 381 = .ok (.aload_n 0, 1) := by decide +kernel
theorem dL_areRunners_382 : decode cL_areRunners 382 = .ok (.iconst 5, 1) := by decide +kernel
theorem dL_areRunners_383 : decode cL_areRunners 383 = .ok (.invokevirtual 40, 3) := by decide +kernel
theorem dL_areRunners_386 : decode cL_areRunners 386 = .ok (.iload 5, 2) := by decide +kernel
theorem dL_areRunners_388 : decode cL_areRunners 388 = .ok (.if_icmp .ne 92, 3) := by decide +kernel
theorem dL_areRunners_391 : decode cL_areRunners 391 = .ok (.aload_n 0, 1) := by decide +kernel
theorem dL_areRunners_392 : decode cL_areRunners 392 = .ok (.bipush 6, 2) := by decide +kernel
theorem dL_areRunners_394 : decode cL_areRunners 394 = .ok (.invokevirtual 40, 3) := by decide +kernel
theorem dL_areRunners_397 : decode cL_areRunners 397 = .ok (.aload_n 3, 1) := by decide +kernel
theorem dL_areRunners_398 : decode cL_areRunners 398 = .ok (.iconst 2, 1) := by decide +kernel
theorem dL_areRunners_399 : decode cL_areRunners 399 = .ok (.iaload, 1) := by decide +kernel
theorem dL_areRunners_400 : decode cL_areRunners 400 = .ok (.if_icmp .ne 80, 3) := by decide +kernel
theorem dL_areRunners_403 : decode cL_areRunners 403 = .ok (.aload_n 0, 1) := by decide +kernel
theorem dL_areRunners_404 : decode cL_areRunners 404 = .ok (.bipush 7, 2) := by decide +kernel
theorem dL_areRunners_406 : decode cL_areRunners 406 = .ok (.invokevirtual 40, 3) := by decide +kernel
theorem dL_areRunners_409 : decode cL_areRunners 409 = .ok (.aload_n 3, 1) := by decide +kernel
theorem dL_areRunners_410 : decode cL_areRunners 410 = .ok (.iconst 3, 1) := by decide +kernel
theorem dL_areRunners_411 : decode cL_areRunners 411 = .ok (.iaload, 1) := by decide +kernel
theorem dL_areRunners_412 : decode cL_areRunners 412 = .ok (.if_icmp .ne 68, 3) := by decide +kernel
theorem dL_areRunners_415 : decode cL_areRunners 415 = .ok (.aload_n 0, 1) := by decide +kernel
theorem dL_areRunners_416 : decode cL_areRunners 416 = .ok (.bipush 8, 2) := by decide +kernel
theorem dL_areRunners_418 : decode cL_areRunners 418 = .ok (.invokevirtual 40, 3) := by decide +kernel
theorem dL_areRunners_421 : decode cL_areRunners 421 = .ok (.aload_n 3, 1) := by decide +kernel
theorem dL_areRunners_422 : decode cL_areRunners 422 = .ok (.iconst 4, 1) := by decide +kernel
theorem dL_areRunners_423 : decode cL_areRunners 423 = .ok (.iaload, 1) := by decide +kernel
theorem dL_areRunners_424 : decode cL_areRunners 424 = .ok (.if_icmp .ne 56, 3) := by decide +kernel
theorem dL_areRunners_427 : decode cL_areRunners 427 = .ok (.aload_n 0, 1) := by decide +kernel
theorem dL_areRunners_428 : decode cL_areRunners 428 = .ok (.bipush 9, 2) := by decide +kernel
theorem dL_areRunners_430 : decode cL_areRunners 430 = .ok (.invokevirtual 40, 3) := by decide +kernel
theorem dL_areRunners_433 : decode cL_areRunners 433 = .ok (.aload_n 3, 1) := by decide +kernel
theorem dL_areRunners_434 : decode cL_areRunners 434 = .ok (.iconst 5, 1) := by decide +kernel
theorem dL_areRunners_435 : decode cL_areRunners 435 = .ok (.iaload, 1) := by decide +kernel
theorem dL_areRunners_436 : decode cL_areRunners 436 = .ok (.if_icmp .ne 44, 3) := by decide +kernel
theorem dL_areRunners_439 : decode cL_areRunners 439 = .ok (.aload_n 0, 1) := by decide +kernel
theorem dL_areRunners_440 : decode cL_areRunners 440 = .ok (.bipush 10, 2) := by decide +kernel
theorem dL_areRunners_442 : decode cL_areRunners 442 = .ok (.invokevirtual 40, 3) := by decide +kernel
theorem dL_areRunners_445 : decode cL_areRunners 445 = .ok (.aload_n 3, 1) := by decide +kernel
theorem dL_areRunners_446 : decode cL_areRunners 446 = .ok (.bipush 6, 2) := by decide +kernel
theorem dL_areRunners_448 : decode cL_areRunners 448 = .ok (.iaload, 1) := by decide +kernel
theorem dL_areRunners_449 : decode cL_areRunners 449 = .ok (.if_icmp .ne 31, 3) := by decide +kernel
theorem dL_areRunners_452 : decode cL_areRunners 452 = .ok (.aload_n 0, 1) := by decide +kernel
theorem dL_areRunners_453 : decode cL_areRunners 453 = .ok (.bipush 11, 2) := by decide +kernel
theorem dL_areRunners_455 : decode cL_areRunners 455 = .ok (.invokevirtual 40, 3) := by decide +kernel
theorem dL_areRunners_458 : decode cL_areRunners 458 = .ok (.aload_n 3, 1) := by decide +kernel
theorem dL_areRunners_459 : decode cL_areRunners 459 = .ok (.bipush 7, 2) := by decide +kernel
theorem dL_areRunners_461 : decode cL_areRunners 461 = .ok (.iaload, 1) := by decide +kernel
theorem dL_areRunners_462 : decode cL_areRunners 462 = .ok (.if_icmp .ne 18, 3) := by decide +kernel
theorem dL_areRunners_465 : decode cL_areRunners 465 = .ok (.aload_n 0, 1) := by decide +kernel
theorem dL_areRunners_466 : decode cL_areRunners 466 = .ok (.bipush 14, 2) := by decide +kernel
theorem dL_areRunners_468 : decode cL_areRunners 468 = .ok (.invokevirtual 40, 3) := by decide +kernel
theorem dL_areRunners_471 : decode cL_areRunners 471 = .ok (.bipush (-2), 2) := by decide +kernel
theorem dL_areRunners_473 : decode cL_areRunners 473 = .ok (.if_icmp .ne 7, 3) := by decide +kernel
theorem dL_areRunners_476 : decode cL_areRunners 476 = .ok (.iconst 1, 1) := by decide +kernel
theorem dL_areRunners_477 : decode cL_areRunners 477 = .ok (.goto 4, 3) := by decide +kernel
theorem dL_areRunners_480 : decode cL_areRunners 480 = .ok (.iconst 0, 1) := by decide +kernel
theorem dL_areRunners_481 : decode cL_areRunners 481 = .ok (.ireturn, 1) := by decide +kernel
theorem dL_areShadows_0 : decode cL_areShadows 0 = .ok (.iconst 0, 1) := by decide +kernel
theorem dL_areShadows_1 : decode cL_areShadows 1 = .ok (.istore 4, 2) := by decide +kernel
theorem dL_areShadows_3 : decode cL_areShadows 3 = .ok (.iconst 3, 1) := by decide +kernel
theorem dL_areShadows_4 : decode cL_areShadows 4 = .ok (.newarray .int, 2) := by decide +kernel
theorem dL_areShadows_6 : decode cL_areShadows 6 = .ok (.astore 5, 2) := by decide +kernel
theorem dL_areShadows_8 : decode cL_areShadows 8 = .ok (.aload_n 0, 1) := by decide +kernel
theorem dL_areShadows_9 : decode cL_areShadows 9 = .ok (.iconst 3, 1) := by decide +kernel
theorem dL_areShadows_10 : decode cL_areShadows 10 = .ok (.invokevirtual 40, 3) := by decide +kernel
theorem dL_areShadows_13 : decode cL_areShadows 13 = .ok (.aload_n 2, 1) := by decide +kernel
theorem dL_areShadows_14 : decode cL_areShadows 14 = .ok (.iconst 3, 1) := by decide +kernel
theorem dL_areShadows_15 : decode cL_areShadows 15 = .ok (.iaload, 1) := by decide +kernel
theorem dL_areShadows_16 : decode cL_areShadows 16 = .ok (.aload_n 2, 1) := by decide +kernel
theorem dL_areShadows_17 : decode cL_areShadows 17 = .ok (.bipush 7, 2) := by decide +kernel
theorem dL_areShadows_19 : decode cL_areShadows 19 = .ok (.iaload, 1) := by decide +kernel
theorem dL_areShadows_20 : decode cL_areShadows 20 = .ok (.iadd, 1) := by decide +kernel
theorem dL_areShadows_21 : decode cL_areShadows 21 = .ok (.aload_n 2, 1) := by decide +kernel
theorem dL_areShadows_22 : decode cL_areShadows 22 = .ok (.bipush 11, 2) := by decide +kernel
theorem dL_areShadows_24 : decode cL_areShadows 24 = .ok (.iaload, 1) := by decide +kernel
theorem dL_areShadows_25 : decode cL_areShadows 25 = .ok (.iadd, 1) := by decide +kernel
theorem dL_areShadows_26 : decode cL_areShadows 26 = .ok (.if_icmp .ne 7, 3) := by decide +kernel
theorem dL_areShadows_29 : decode cL_areShadows 29 = .ok (.iconst 1, 1) := by decide +kernel
theorem dL_areShadows_30 : decode cL_areShadows 30 = .ok (.goto 4, 3) := by decide +kernel
theorem dL_areShadows_33 : decode cL_areShadows 33 = .ok (.iconst 0, 1) := by decide +kernel
theorem dL_areShadows_34 : decode cL_areShadows 34 = .ok (.istore 6, 2) := by decide +kernel
theorem dL_areShadows_36 : decode cL_areShadows 36 = .ok (.iconst 0, 1) := by decide +kernel
theorem dL_areShadows_37 : decode cL_areShadows 37 = .ok (.istore 7, 2) := by decide +kernel
theorem dL_areShadows_39 : decode cL_areShadows 39 = .ok (.iload 7, 2) := by decide +kernel
theorem dL_areShadows_41 : decode cL_areShadows 41 = .ok (.bipush 100, 2) := by decide +kernel
theorem dL_areShadows_43 : decode cL_areShadows 43 = .ok (.if_icmp .ge 163, 3) := by decide +kernel
theorem dL_areShadows_46 : decode cL_areShadows 46 = .ok (.iload 6, 2) := by decide +kernel
theorem dL_areShadows_48 : decode cL_areShadows 48 = .ok (.ifCond .eq 158, 3) := by decide +kernel
theorem dL_areShadows_51 : decode cL_areShadows 51 = .ok (.iconst 0, 1) := by decide +kernel
theorem dL_areShadows_52 : decode cL_areShadows 52 = .ok (.istore 8, 2) := by decide +kernel
theorem dL_areShadows_54 : decode cL_areShadows 54 = .ok (.iconst 0, 1) := by decide +kernel
theorem dL_areShadows_55 : decode cL_areShadows 55 = .ok (.istore 9, 2) := by decide +kernel
theorem dL_areShadows_57 : decode cL_areShadows 57 = .ok (.iload 9, 2) := by decide +kernel
theorem dL_areShadows_59 : decode cL_areShadows 59 = .ok (.iconst 3, 1) := by decide +kernel
theorem dL_areShadows_60 : decode cL_areShadows 60 = .ok (.if_icmp .ge 80, 3) := by decide +kernel
theorem dL_areShadows_63 : decode cL_areShadows 63 = .ok (.iconst 0, 1) := by decide +kernel
theorem dL_areShadows_64 : decode cL_areShadows 64 = .ok (.istore 10, 2) := by decide +kernel
theorem dL_areShadows_66 : decode cL_areShadows 66 = .ok (.iconst 0, 1) := by decide +kernel
theorem dL_areShadows_67 : decode cL_areShadows 67 = .ok (.istore 11, 2) := by decide +kernel
theorem dL_areShadows_69 : decode cL_areShadows 69 = .ok (.iload 11, 2) := by decide +kernel
theorem dL_areShadows_71 : decode cL_areShadows 71 = .ok (.aload_n 3, 1) := by decide +kernel
theorem dL_areShadows_72 : decode cL_areShadows 72 = .ok (.bipush 8, 2) := by decide +kernel
theorem dL_areShadows_74 : decode cL_areShadows 74 = .ok (.iaload, 1) := by decide +kernel
theorem dL_areShadows_75 : decode cL_areShadows 75 = .ok (.if_icmp .ge 34, 3) := by decide +kernel
theorem dL_areShadows_78 : decode cL_areShadows 78 = .ok (.iload 10, 2) := by decide +kernel
theorem dL_areShadows_80 : decode cL_areShadows 80 = .ok (.aload_n 1, 1) := by decide +kernel
theorem dL_areShadows_81 : decode cL_areShadows 81 = .ok (.aload_n 2, 1) := by decide +kernel
theorem dL_areShadows_82 : decode cL_areShadows 82 = .ok (.aload_n 3, 1) := by decide +kernel
theorem dL_areShadows_83 : decode cL_areShadows 83 = .ok (.iload 11, 2) := by decide +kernel
theorem dL_areShadows_85 : decode cL_areShadows 85 = .ok (.iload 9, 2) := by decide +kernel
theorem dL_areShadows_87 : decode cL_areShadows 87 = .ok (.iload 7, 2) := by decide +kernel
theorem dL_areShadows_89 : decode cL_areShadows 89 = .ok (.invokestatic 15, 3) := by decide +kernel
theorem dL_areShadows_92 : decode cL_areShadows 92 = .ok (.ifCond .eq 7, 3) := by decide +kernel
theorem dL_areShadows_95 : decode cL_areShadows 95 = .ok (.iconst 1, 1) := by decide +kernel
theorem dL_areShadows_96 : decode cL_areShadows 96 = .ok (.goto 4, 3) := by decide +kernel
theorem dL_areShadows_99 : decode cL_areShadows 99 = .ok (.iconst 0, 1) := by decide +kernel
theorem dL_areShadows_100 : decode cL_areShadows 100 = .ok (.iadd, 1) := by decide +kernel
theorem dL_areShadows_101 : decode cL_areShadows 101 = .ok (.istore 10, 2) := by decide +kernel
theorem dL_areShadows_103 : decode cL_areShadows 103 = .ok (.iinc 11 1, 3) := by decide +kernel
theorem dL_areShadows_106 : decode cL_areShadows 106 = .ok (.goto (-37), 3) := by decide +kernel
theorem dL_areShadows_109 : decode cL_areShadows 109 = .ok (.iload 8, 2) := by decide +kernel
theorem dL_areShadows_111 : decode cL_areShadows 111 = .ok (.iload 10, 2) := by decide +kernel
theorem dL_areShadows_113 : decode cL_areShadows 113 = .ok (.iadd, 1) := by decide +kernel
theorem dL_areShadows_114 : decode cL_areShadows 114 = .ok (.istore 8, 2) := by decide +kernel
theorem dL_areShadows_116 : decode cL_areShadows 116 = .ok (.aload 5, 2) := by decide +kernel
theorem dL_areShadows_118 : decode cL_areShadows 118 = .ok (.iload 9, 2) := by decide +kernel
theorem dL_areShadows_120 : decode cL_areShadows 120 = .ok (.dup2, 1) := by decide +kernel
theorem dL_areShadows_121 : decode cL_areShadows 121 = .ok (.iaload, 1) := by decide +kernel
theorem dL_areShadows_122 : decode cL_areShadows 122 = .ok (.iload 10, 2) := by decide +kernel
theorem dL_areShadows_124 : decode cL_areShadows 124 = .ok (.ifCond .le 7, 3) := by decide +kernel
theorem dL_areShadows_127 : decode cL_areShadows 127 = .ok (.iconst 1, 1) := by decide +kernel
theorem dL_areShadows_128 : decode cL_areShadows 128 = .ok (.goto 4, 3) := by decide +kernel
theorem dL_areShadows_131 : decode cL_areShadows 131 = .ok (.iconst 0, 1) := by decide +kernel
theorem dL_areShadows_132 : decode cL_areShadows 132 = .ok (.iadd, 1) := by decide +kernel
theorem dL_areShadows_133 : decode cL_areShadows 133 = .ok (.iastore, 1) := by decide +kernel
theorem dL_areShadows_134 : decode cL_areShadows 134 = .ok (.iinc 9 1, 3) := by decide +kernel
theorem dL_areShadows_137 : decode cL_areShadows 137 = .ok (.goto (-80), 3) := by decide +kernel
theorem dL_areShadows_140 : decode cL_areShadows 140 = .ok (.iload 4, 2) := by decide +kernel
theorem dL_areShadows_142 : decode cL_areShadows 142 = .ok (.iload 8, 2) := by decide +kernel
theorem dL_areShadows_144 : decode cL_areShadows 144 = .ok (.ifCond .le 7, 3) := by decide +kernel
theorem dL_areShadows_147 : decode cL_areShadows 147 = .ok (.iconst 1, 1) := by decide +kernel
theorem dL_areShadows_148 : decode cL_areShadows 148 = .ok (.goto 4, 3) := by decide +kernel
theorem dL_areShadows_151 : decode cL_areShadows 151 = .ok (.iconst 0, 1) := by decide +kernel
theorem dL_areShadows_152 : decode cL_areShadows 152 = .ok (.iadd, 1) := by decide +kernel
theorem dL_areShadows_153 : decode cL_areShadows 153 = .ok (.istore 4, 2) := by decide +kernel
theorem dL_areShadows_155 : decode cL_areShadows 155 = .ok (.aload_n 0, 1) := by decide +kernel
theorem dL_areShadows_156 : decode cL_areShadows 156 = .ok (.iload 7, 2) := by decide +kernel
theorem dL_areShadows_158 : decode cL_areShadows 158 = .ok (.invokevirtual 54, 3) := by decide +kernel
theorem dL_areShadows_161 : decode cL_areShadows 161 = .ok (.iload 8, 2) := by decide +kernel
theorem dL_areShadows_163 : decode cL_areShadows 163 = .ok (.if_icmp .ne 34, 3) := by decide +kernel
theorem dL_areShadows_166 : decode cL_areShadows 166 = .ok (.aload_n 0, 1) := by decide +kernel
theorem dL_areShadows_167 : decode cL_areShadows 167 = .ok (.iload 7, 2) := by decide +kernel
theorem dL_areShadows_169 : decode cL_areShadows 169 = .ok (.invokevirtual 57, 3) := by decide +kernel
theorem dL_areShadows_172 : decode cL_areShadows 172 = .ok (.iload 8, 2) := by decide +kernel
theorem dL_areShadows_174 : decode cL_areShadows 174 = .ok (.if_icmp .ne 23, 3) := by decide +kernel
theorem dL_areShadows_177 : decode cL_areShadows 177 = .ok (.aload_n 0, 1) := by decide +kernel
theorem dL_areShadows_178 : decode cL_areShadows 178 = .ok (.iload 7, 2) := by decide +kernel
theorem dL_areShadows_180 : decode cL_areShadows 180 = .ok (.invokevirtual 48, 3) := by decide +kernel
theorem dL_areShadows_183 : decode cL_areShadows 183 = .ok (.aload_n 1, 1) := by decide +kernel
theorem dL_areShadows_184 : decode cL_areShadows 184 = .ok (.aload_n 3, 1) := by decide +kernel
theorem dL_areShadows_185 : decode cL_areShadows 185 = .ok (.iload 7, 2) := by decide +kernel
theorem dL_areShadows_187 : decode cL_areShadows 187 = .ok (.invokestatic 27, 3) := by decide +kernel
theorem dL_areShadows_190 : decode cL_areShadows 190 = .ok (.if_icmp .ne 7, 3) := by decide +kernel
theorem dL_areShadows_193 : decode cL_areShadows 193 = .ok (.iconst 1, 1) := by decide +kernel
theorem dL_areShadows_194 : decode cL_areShadows 194 = .ok (.goto 4, 3) := by decide +kernel
theorem dL_areShadows_197 : decode cL_areShadows 197 = .ok (.iconst 0, 1) := by decide +kernel
theorem dL_areShadows_198 : decode cL_areShadows 198 = .ok (.istore 6, 2) := by decide +kernel
theorem dL_areShadows_200 : decode cL_areShadows 200 = .ok (.iinc 7 1, 3) := by decide +kernel
theorem dL_areShadows_203 : decode cL_areShadows 203 = .ok (.goto (-164), 3) := by decide +kernel
theorem dL_areShadows_206 : decode cL_areShadows 206 = .ok (.iconst 0, 1) := by decide +kernel
theorem dL_areShadows_207 : decode cL_areShadows 207 = .ok (.istore 7, 2) := by decide +kernel
theorem dL_areShadows_209 : decode cL_areShadows 209 = .ok (.iload 7, 2) := by decide +kernel
theorem dL_areShadows_211 : decode cL_areShadows 211 = .ok (.iconst 3, 1) := by decide +kernel
theorem dL_areShadows_212 : decode cL_areShadows 212 = .ok (.if_icmp .ge 118, 3) := by decide +kernel
theorem dL_areShadows_215 : decode cL_areShadows 215 = .ok (.iload 6, 2) := by decide +kernel
theorem dL_areShadows_217 : decode cL_areShadows 217 = .ok (.ifCond .eq 104, 3) := by decide +kernel
theorem dL_areShadows_220 : decode cL_areShadows 220 = .ok (.aload_n 0, 1) := by decide +kernel
theorem dL_areShadows_221 : decode cL_areShadows 221 = .ok (.iload 7, 2) := by decide +kernel
theorem dL_areShadows_223 : decode cL_areShadows 223 = .ok (.iconst 0, 1) := by decide +kernel
theorem dL_areShadows_224 : decode cL_areShadows 224 = .ok (.invokevirtual 60, 3) := by decide +kernel
theorem dL_areShadows_227 : decode cL_areShadows 227 = .ok (.aload_n 2, 1) := by decide +kernel
theorem dL_areShadows_228 : decode cL_areShadows 228 = .ok (.iconst 4, 1) := by decide +kernel
theorem dL_areShadows_229 : decode cL_areShadows 229 = .ok (.iload 7, 2) := by decide +kernel
theorem dL_areShadows_231 : decode cL_areShadows 231 = .ok (.imul, 1) := by decide +kernel
theorem dL_areShadows_232 : decode cL_areShadows 232 = .ok (.iaload, 1) := by decide +kernel
theorem dL_areShadows_233 : decode cL_areShadows 233 = .ok (.if_icmp .ne 88, 3) := by decide +kernel
theorem dL_areShadows_236 : decode cL_areShadows 236 = .ok (.aload_n 0, 1) := by decide +kernel
theorem dL_areShadows_237 : decode cL_areShadows 237 = .ok (.iload 7, 2) := by decide +kernel
theorem dL_areShadows_239 : decode cL_areShadows 239 = .ok (.iconst 1, 1) := by decide +kernel
theorem dL_areShadows_240 : decode cL_areShadows 240 = .ok (.invokevirtual 60, 3) := by decide +kernel
theorem dL_areShadows_243 : decode cL_areShadows 243 = .ok (.aload_n 2, 1) := by decide +kernel
theorem dL_areShadows_244 : decode cL_areShadows 244 = .ok (.iconst 4, 1) := by decide +kernel
theorem dL_areShadows_245 : decode cL_areShadows 245 = .ok (.iload 7, 2) := by decide +kernel
theorem dL_areShadows_247 : decode cL_areShadows 247 = .ok (.imul, 1) := by decide +kernel
theorem dL_areShadows_248 : decode cL_areShadows 248 = .ok (.iconst 1, 1) := by decide +kernel
theorem dL_areShadows_249 : decode cL_areShadows 249 = .ok (.iadd, 1) := by decide +kernel
theorem dL_areShadows_250 : decode cL_areShadows 250 = .ok (.iaload, 1) := by decide +kernel
theorem dL_areShadows_251 : decode cL_areShadows 251 = .ok (.if_icmp .ne 70, 3) := by decide +kernel
theorem dL_areShadows_254 : decode cL_areShadows 254 = .ok (.aload_n 0, 1) := by decide +kernel
theorem dL_areShadows_255 : decode cL_areShadows 255 = .ok (.iload 7, 2) := by decide +kernel
theorem dL_areShadows_257 : decode cL_areShadows 257 = .ok (.iconst 2, 1) := by decide +kernel
theorem dL_areShadows_258 : decode cL_areShadows 258 = .ok (.invokevirtual 60, 3) := by decide +kernel
theorem dL_areShadows_261 : decode cL_areShadows 261 = .ok (.aload_n 2, 1) := by decide +kernel
theorem dL_areShadows_262 : decode cL_areShadows 262 = .ok (.iconst 4, 1) := by decide +kernel
theorem dL_areShadows_263 : decode cL_areShadows 263 = .ok (.iload 7, 2) := by decide +kernel
theorem dL_areShadows_265 : decode cL_areShadows 265 = .ok (.imul, 1) := by decide +kernel
theorem dL_areShadows_266 : decode cL_areShadows 266 = .ok (.iconst 2, 1) := by decide +kernel
theorem dL_areShadows_267 : decode cL_areShadows 267 = .ok (.iadd, 1) := by decide +kernel
theorem dL_areShadows_268 : decode cL_areShadows 268 = .ok (.iaload, 1) := by decide +kernel
theorem dL_areShadows_269 : decode cL_areShadows 269 = .ok (.if_icmp .ne 52, 3) := by decide +kernel
theorem dL_areShadows_272 : decode cL_areShadows 272 = .ok (.aload_n 0, 1) := by decide +kernel
theorem dL_areShadows_273 : decode cL_areShadows 273 = .ok (.iload 7, 2) := by decide +kernel
theorem dL_areShadows_275 : decode cL_areShadows 275 = .ok (.iconst 3, 1) := by decide +kernel
theorem dL_areShadows_276 : decode cL_areShadows 276 = .ok (.invokevirtual 60, 3) := by decide +kernel
theorem dL_areShadows_279 : decode cL_areShadows 279 = .ok (.aload_n 2, 1) := by decide +kernel
theorem dL_areShadows_280 : decode cL_areShadows 280 = .ok (.iconst 4, 1) := by decide +kernel
theorem dL_areShadows_281 : decode cL_areShadows 281 = .ok (.iload 7, 2) := by decide +kernel
theorem dL_areShadows_283 : decode cL_areShadows 283 = .ok (.imul, 1) := by decide +kernel
theorem dL_areShadows_284 : decode cL_areShadows 284 = .ok (.iconst 3, 1) := by decide +kernel
theorem dL_areShadows_285 : decode cL_areShadows 285 = .ok (.iadd, 1) := by decide +kernel
theorem dL_areShadows_286 : decode cL_areShadows 286 = .ok (.iaload, 1) := by decide +kernel
theorem dL_areShadows_287 : decode cL_areShadows 287 = .ok (.if_icmp .ne 34, 3) := by decide +kernel
theorem dL_areShadows_290 : decode cL_areShadows 290 = .ok (.aload_n 0, 1) := by decide +kernel
theorem dL_areShadows_291 : decode cL_areShadows 291 = .ok (.iload 7, 2) := by decide +kernel
theorem dL_areShadows_293 : decode cL_areShadows 293 = .ok (.iconst 4, 1) := by decide +kernel
theorem dL_areShadows_294 : decode cL_areShadows 294 = .ok (.invokevirtual 60, 3) := by decide +kernel
theorem dL_areShadows_297 : decode cL_areShadows 297 = .ok (.aload 5, 2) := by decide +kernel
theorem dL_areShadows_299 : decode cL_areShadows 299 = .ok (.iload 7, 2) := by decide +kernel
theorem dL_areShadows_301 : decode cL_areShadows 301 = .ok (.iaload, 1) := by decide +kernel
theorem dL_areShadows_302 : decode cL_areShadows 302 = .ok (.if_icmp .ne 19, 3) := by decide +kernel
theorem dL_areShadows_305 : decode cL_areShadows 305 = .ok (.aload_n 0, 1) := by decide +kernel
theorem dL_areShadows_306 : decode cL_areShadows 306 = .ok (.iload 7, 2) := by decide +kernel
theorem dL_areShadows_308 : decode cL_areShadows 308 = .ok (.iconst 5, 1) := by decide +kernel
theorem dL_areShadows_309 : decode cL_areShadows 309 = .ok (.invokevirtual 60, 3) := by decide +kernel
theorem dL_areShadows_312 : decode cL_areShadows 312 = .ok (.bipush (-2), 2) := by decide +kernel
theorem dL_areShadows_314 : decode cL_areShadows 314 = .ok (.if_icmp .ne 7, 3) := by decide +kernel
theorem dL_areShadows_317 : decode cL_areShadows 317 = .ok (.iconst 1, 1) := by decide +kernel
theorem dL_areShadows_318 : decode cL_areShadows 318 = .ok (.goto 4, 3) := by decide +kernel
theorem dL_areShadows_321 : decode cL_areShadows 321 = .ok (.iconst 0, 1) := by decide +kernel
theorem dL_areShadows_322 : decode cL_areShadows 322 = .ok (.istore 6, 2) := by decide +kernel
theorem dL_areShadows_324 : decode cL_areShadows 324 = .ok (.iinc 7 1, 3) := by decide +kernel
theorem dL_areShadows_327 : decode cL_areShadows 327 = .ok (.goto (-118), 3) := by decide +kernel
theorem dL_areShadows_330 : decode cL_areShadows 330 = .ok (.iload 6, 2) := by decide +kernel
theorem dL_areShadows_332 : decode cL_areShadows 332 = .ok (.ifCond .eq 17, 3) := by decide +kernel
theorem dL_areShadows_335 : decode cL_areShadows 335 = .ok (.aload_n 0, 1) := by decide +kernel
theorem dL_areShadows_336 : decode cL_areShadows 336 = .ok (.iconst 4, 1) := by decide +kernel
theorem dL_areShadows_337 : decode cL_areShadows 337 = .ok (.invokevirtual 40, 3) := by decide +kernel
theorem dL_areShadows_340 : decode cL_areShadows 340 = .ok (.iload 4, 2) := by decide +kernel
theorem dL_areShadows_342 : decode cL_areShadows 342 = .ok (.if_icmp .ne 7, 3) := by decide +kernel
theorem dL_areShadows_345 : decode cL_areShadows 345 = .ok (.iconst 1, 1) := by decide +kernel
theorem dL_areShadows_346 : decode cL_areShadows 346 = .ok (.goto 4, 3) := by decide +kernel
theorem dL_areShadows_349 : decode cL_areShadows 349 = .ok (.iconst 0, 1) := by decide +kernel
theorem dL_areShadows_350 : decode cL_areShadows 350 = .ok (.ireturn, 1) := by decide +kernel
theorem dL_isShadow_0 : decode cL_isShadow 0 = .ok (.iconst 0, 1) := by decide +kernel
theorem dL_isShadow_1 : decode cL_isShadow 1 = .ok (.istore 6, 2) := by decide +kernel
theorem dL_isShadow_3 : decode cL_isShadow 3 = .ok (.bipush (-5), 2) := by decide +kernel
theorem dL_isShadow_5 : decode cL_isShadow 5 = .ok (.istore 7, 2) := by decide +kernel
theorem dL_isShadow_7 : decode cL_isShadow 7 = .ok (.iconst 0, 1) := by decide +kernel
theorem dL_isShadow_8 : decode cL_isShadow 8 = .ok (.istore 8, 2) := by decide +kernel
theorem dL_isShadow_10 : decode cL_isShadow 10 = .ok (.iload 8, 2) := by decide +kernel
theorem dL_isShadow_12 : decode cL_isShadow 12 = .ok (.bipush 100, 2) := by decide +kernel
theorem dL_isShadow_14 : decode cL_isShadow 14 = .ok (.if_icmp .ge 104, 3) := by decide +kernel
theorem dL_isShadow_17 : decode cL_isShadow 17 = .ok (.aload_n 1, 1) := by decide +kernel
theorem dL_isShadow_18 : decode cL_isShadow 18 = .ok (.aload_n 2, 1) := by decide +kernel
theorem dL_isShadow_19 : decode cL_isShadow 19 = .ok (.aload_n 3, 1) := by decide +kernel
theorem dL_isShadow_20 : decode cL_isShadow 20 = .ok (.iload 4, 2) := by decide +kernel
theorem dL_isShadow_22 : decode cL_isShadow 22 = .ok (.iload 5, 2) := by decide +kernel
theorem dL_isShadow_24 : decode cL_isShadow 24 = .ok (.iload 8, 2) := by decide +kernel
theorem dL_isShadow_26 : decode cL_isShadow 26 = .ok (.invokestatic 15, 3) := by decide +kernel
theorem dL_isShadow_29 : decode cL_isShadow 29 = .ok (.istore 9, 2) := by decide +kernel
theorem dL_isShadow_31 : decode cL_isShadow 31 = .ok (.iload 6, 2) := by decide +kernel
theorem dL_isShadow_33 : decode cL_isShadow 33 = .ok (.iload 9, 2) := by decide +kernel
theorem dL_isShadow_35 : decode cL_isShadow 35 = .ok (.ifCond .eq 7, 3) := by decide +kernel
theorem dL_isShadow_38 : decode cL_isShadow 38 = .ok (.iconst 1, 1) := by decide +kernel
theorem dL_isShadow_39 : decode cL_isShadow 39 = .ok (.goto 4, 3) := by decide +kernel
theorem dL_isShadow_42 : decode cL_isShadow 42 = .ok (.iconst 0, 1) := by decide +kernel
theorem dL_isShadow_43 : decode cL_isShadow 43 = .ok (.iadd, 1) := by decide +kernel
theorem dL_isShadow_44 : decode cL_isShadow 44 = .ok (.istore 6, 2) := by decide +kernel
theorem dL_isShadow_46 : decode cL_isShadow 46 = .ok (.iload 9, 2) := by decide +kernel
theorem dL_isShadow_48 : decode cL_isShadow 48 = .ok (.ifCond .eq 60, 3) := by decide +kernel
theorem dL_isShadow_51 : decode cL_isShadow 51 = .ok (.iload 7, 2) := by decide +kernel
theorem dL_isShadow_53 : decode cL_isShadow 53 = .ok (.ifCond .lt 50, 3) := by decide +kernel
theorem dL_isShadow_56 : decode cL_isShadow 56 = .ok (.aload_n 1, 1) := by decide +kernel
theorem dL_isShadow_57 : decode cL_isShadow 57 = .ok (.bipush 7, 2) := by decide +kernel
theorem dL_isShadow_59 : decode cL_isShadow 59 = .ok (.iload 4, 2) := by decide +kernel
theorem dL_isShadow_61 : decode cL_isShadow 61 = .ok (.imul, 1) := by decide +kernel
theorem dL_isShadow_62 : decode cL_isShadow 62 = .ok (.iaload, 1) := by decide +kernel
theorem dL_isShadow_63 : decode cL_isShadow 63 = .ok (.iload 8, 2) := by decide +kernel
theorem dL_isShadow_65 : decode cL_isShadow 65 = .ok (.aload_n 2, 1) := by decide +kernel
theorem dL_isShadow_66 : decode cL_isShadow 66 = .ok (.iconst 4, 1) := by decide +kernel
theorem dL_isShadow_67 : decode cL_isShadow 67 = .ok (.iload 5, 2) := by decide +kernel
theorem dL_isShadow_69 : decode cL_isShadow 69 = .ok (.imul, 1) := by decide +kernel
theorem dL_isShadow_70 : decode cL_isShadow 70 = .ok (.iaload, 1) := by decide +kernel
theorem dL_isShadow_71 : decode cL_isShadow 71 = .ok (.iconst 2, 1) := by decide +kernel
theorem dL_isShadow_72 : decode cL_isShadow 72 = .ok (.iadd, 1) := by decide +kernel
theorem dL_isShadow_73 : decode cL_isShadow 73 = .ok (.iconst 4, 1) := by decide +kernel
theorem dL_isShadow_74 : decode cL_isShadow 74 = .ok (.irem, 1) := by decide +kernel
theorem dL_isShadow_75 : decode cL_isShadow 75 = .ok (.invokestatic 11, 3) := by decide +kernel
theorem dL_isShadow_78 : decode cL_isShadow 78 = .ok (.aload_n 1, 1) := by decide +kernel
theorem dL_isShadow_79 : decode cL_isShadow 79 = .ok (.bipush 7, 2) := by decide +kernel
theorem dL_isShadow_81 : decode cL_isShadow 81 = .ok (.iload 4, 2) := by decide +kernel
theorem dL_isShadow_83 : decode cL_isShadow 83 = .ok (.imul, 1) := by decide +kernel
theorem dL_isShadow_84 : decode cL_isShadow 84 = .ok (.iaload, 1) := by decide +kernel
theorem dL_isShadow_85 : decode cL_isShadow 85 = .ok (.iload 7, 2) := by decide +kernel
theorem dL_isShadow_87 : decode cL_isShadow 87 = .ok (.aload_n 2, 1) := by decide +kernel
theorem dL_isShadow_88 : decode cL_isShadow 88 = .ok (.iconst 4, 1) := by decide +kernel
theorem dL_isShadow_89 : decode cL_isShadow 89 = .ok (.iload 5, 2) := by decide +kernel
theorem dL_isShadow_91 : decode cL_isShadow 91 = .ok (.imul, 1) := by decide +kernel
theorem dL_isShadow_92 : decode cL_isShadow 92 = .ok (.iaload, 1) := by decide +kernel
theorem dL_isShadow_93 : decode cL_isShadow 93 = .ok (.iconst 2, 1) := by decide +kernel
theorem dL_isShadow_94 : decode cL_isShadow 94 = .ok (.iadd, 1) := by decide +kernel
theorem dL_isShadow_95 : decode cL_isShadow 95 = .ok (.iconst 4, 1) := by decide +kernel
theorem dL_isShadow_96 : decode cL_isShadow 96 = .ok (.irem, 1) := by decide +kernel
theorem dL_isShadow_97 : decode cL_isShadow 97 = .ok (.invokestatic 11, 3) := by decide +kernel
theorem dL_isShadow_100 : decode cL_isShadow 100 = .ok (.if_icmp .le 8, 3) := by decide +kernel
theorem dL_isShadow_103 : decode cL_isShadow 103 = .ok (.iload 8, 2) := by decide +kernel
theorem dL_isShadow_105 : decode cL_isShadow 105 = .ok (.goto 5, 3) := by decide +kernel
theorem dL_isShadow_108 : decode cL_isShadow 108 = .ok (.iload 7, 2) := by decide +kernel
theorem dL_isShadow_110 : decode cL_isShadow 110 = .ok (.istore 7, 2) := by decide +kernel
theorem dL_isShadow_112 : decode cL_isShadow 112 = .ok (.iinc 8 1, 3) := by decide +kernel
theorem dL_isShadow_115 : decode cL_isShadow 115 = .ok (.goto (-105), 3) := by decide +kernel
theorem dL_isShadow_118 : decode cL_isShadow 118 = .ok (.aload_n 0, 1) := by decide +kernel
theorem dL_isShadow_119 : decode cL_isShadow 119 = .ok (.iload 4, 2) := by decide +kernel
theorem dL_isShadow_121 : decode cL_isShadow 121 = .ok (.iload 5, 2) := by decide +kernel
theorem dL_isShadow_123 : decode cL_isShadow 123 = .ok (.iconst 0, 1) := by decide +kernel
theorem dL_isShadow_124 : decode cL_isShadow 124 = .ok (.invokevirtual 63, 3) := by decide +kernel
theorem dL_isShadow_127 : decode cL_isShadow 127 = .ok (.iload 6, 2) := by decide +kernel
theorem dL_isShadow_129 : decode cL_isShadow 129 = .ok (.if_icmp .ne 76, 3) := by decide +kernel
theorem dL_isShadow_132 : decode cL_isShadow 132 = .ok (.aload_n 0, 1) := by decide +kernel
theorem dL_isShadow_133 : decode cL_isShadow 133 = .ok (.iload 4, 2) := by decide +kernel
theorem dL_isShadow_135 : decode cL_isShadow 135 = .ok (.iload 5, 2) := by decide +kernel
theorem dL_isShadow_137 : decode cL_isShadow 137 = .ok (.iconst 1, 1) := by decide +kernel
theorem dL_isShadow_138 : decode cL_isShadow 138 = .ok (.invokevirtual 63, 3) := by decide +kernel
theorem dL_isShadow_141 : decode cL_isShadow 141 = .ok (.iload 7, 2) := by decide +kernel
theorem dL_isShadow_143 : decode cL_isShadow 143 = .ok (.if_icmp .ne 62, 3) := by decide +kernel
theorem dL_isShadow_146 : decode cL_isShadow 146 = .ok (.aload_n 0, 1) := by decide +kernel
theorem dL_isShadow_147 : decode cL_isShadow 147 = .ok (.iload 4, 2) := by decide +kernel
theorem dL_isShadow_149 : decode cL_isShadow 149 = .ok (.iload 5, 2) := by decide +kernel
theorem dL_isShadow_151 : decode cL_isShadow 151 = .ok (.iconst 2, 1) := by decide +kernel
theorem dL_isShadow_152 : decode cL_isShadow 152 = .ok (.invokevirtual 63, 3) := by decide +kernel
theorem dL_isShadow_155 : decode cL_isShadow 155 = .ok (.iload 7, 2) := by decide +kernel
theorem dL_isShadow_157 : decode cL_isShadow 157 = .ok (.ifCond .ge 8, 3) := by decide +kernel
theorem dL_isShadow_160 : decode cL_isShadow 160 = .ok (.bipush (-5), 2) := by decide +kernel
theorem dL_isShadow_162 : decode cL_isShadow 162 = .ok (.goto 10, 3) := by decide +kernel
theorem dL_isShadow_165 : decode cL_isShadow 165 = .ok (.aload_n 1, 1) := by decide +kernel
theorem dL_isShadow_166 : decode cL_isShadow 166 = .ok (.aload_n 3, 1) := by decide +kernel
theorem dL_isShadow_167 : decode cL_isShadow 167 = .ok (.iload 7, 2) := by decide +kernel
theorem dL_isShadow_169 : decode cL_isShadow 169 = .ok (.invokestatic 27, 3) := by decide +kernel
theorem dL_isShadow_172 : decode cL_isShadow 172 = .ok (.if_icmp .ne 33, 3) := by decide +kernel
theorem dL_isShadow_175 : decode cL_isShadow 175 = .ok (.aload_n 0, 1) := by decide +kernel
theorem dL_isShadow_176 : decode cL_isShadow 176 = .ok (.iload 4, 2) := by decide +kernel
theorem dL_isShadow_178 : decode cL_isShadow 178 = .ok (.iload 5, 2) := by decide +kernel
theorem dL_isShadow_180 : decode cL_isShadow 180 = .ok (.iconst 3, 1) := by decide +kernel
theorem dL_isShadow_181 : decode cL_isShadow 181 = .ok (.invokevirtual 63, 3) := by decide +kernel
theorem dL_isShadow_184 : decode cL_isShadow 184 = .ok (.bipush (-2), 2) := by decide +kernel
theorem dL_isShadow_186 : decode cL_isShadow 186 = .ok (.if_icmp .ne 19, 3) := by decide +kernel
theorem dL_isShadow_189 : decode cL_isShadow 189 = .ok (.aload_n 0, 1) := by decide +kernel
theorem dL_isShadow_190 : decode cL_isShadow 190 = .ok (.iload 4, 2) := by decide +kernel
theorem dL_isShadow_192 : decode cL_isShadow 192 = .ok (.iconst 3, 1) := by decide +kernel
theorem dL_isShadow_193 : decode cL_isShadow 193 = .ok (.iconst 0, 1) := by decide +kernel
theorem dL_isShadow_194 : decode cL_isShadow 194 = .ok (.invokevirtual 63, 3) := by decide +kernel
theorem dL_isShadow_197 : decode cL_isShadow 197 = .ok (.iconst (-1), 1) := by decide +kernel
theorem dL_isShadow_198 : decode cL_isShadow 198 = .ok (.if_icmp .ne 7, 3) := by decide +kernel
theorem dL_isShadow_201 : decode cL_isShadow 201 = .ok (.iconst 1, 1) := by decide +kernel
theorem dL_isShadow_202 : decode cL_isShadow 202 = .ok (.goto 4, 3) := by decide +kernel
theorem dL_isShadow_205 : decode cL_isShadow 205 = .ok (.iconst 0, 1) := by decide +kernel
theorem dL_isShadow_206 : decode cL_isShadow 206 = .ok (.ireturn, 1) := by decide +kernel
theorem dL_steps_0 : decode cL_steps 0 = .ok (.bipush 50, 2) := by decide +kernel
theorem dL_steps_2 : decode cL_steps 2 = .ok (.newarray .int, 2) := by decide +kernel
theorem dL_steps_4 : decode cL_steps 4 = .ok (.astore 4, 2) := by decide +kernel
theorem dL_steps_6 : decode cL_steps 6 = .ok (.bipush 50, 2) := by decide +kernel
theorem dL_steps_8 : decode cL_steps 8 = .ok (.newarray .int, 2) := by decide +kernel
theorem dL_steps_10 : decode cL_steps 10 = .ok (.astore 5, 2) := by decide +kernel
theorem dL_steps_12 : decode cL_steps 12 = .ok (.aload_n 0, 1) := by decide +kernel
theorem dL_steps_13 : decode cL_steps 13 = .ok (.bipush 7, 2) := by decide +kernel
theorem dL_steps_15 : decode cL_steps 15 = .ok (.aload_n 2, 1) := by decide +kernel
theorem dL_steps_16 : decode cL_steps 16 = .ok (.iconst 1, 1) := by decide +kernel
theorem dL_steps_17 : decode cL_steps 17 = .ok (.iaload, 1) := by decide +kernel
theorem dL_steps_18 : decode cL_steps 18 = .ok (.imul, 1) := by decide +kernel
theorem dL_steps_19 : decode cL_steps 19 = .ok (.iaload, 1) := by decide +kernel
theorem dL_steps_20 : decode cL_steps 20 = .ok (.istore 6, 2) := by decide +kernel
theorem dL_steps_22 : decode cL_steps 22 = .ok (.aload 4, 2) := by decide +kernel
theorem dL_steps_24 : decode cL_steps 24 = .ok (.iload 6, 2) := by decide +kernel
theorem dL_steps_26 : decode cL_steps 26 = .ok (.bipush 50, 2) := by decide +kernel
theorem dL_steps_28 : decode cL_steps 28 = .ok (.irem, 1) := by decide +kernel
theorem dL_steps_29 : decode cL_steps 29 = .ok (.iload 6, 2) := by decide +kernel
theorem dL_steps_31 : decode cL_steps 31 = .ok (.bipush 50, 2) := by decide +kernel
theorem dL_steps_33 : decode cL_steps 33 = .ok (.if_icmp .ge 7, 3) := by decide +kernel
theorem dL_steps_36 : decode cL_steps 36 = .ok (.iconst 1, 1) := by decide +kernel
theorem dL_steps_37 : decode cL_steps 37 = .ok (.goto 4, 3) := by decide +kernel
theorem dL_steps_40 : decode cL_steps 40 = .ok (.iconst 0, 1) := by decide +kernel
theorem dL_steps_41 : decode cL_steps 41 = .ok (.iastore, 1) := by decide +kernel
theorem dL_steps_42 : decode cL_steps 42 = .ok (.aload 5, 2) := by decide +kernel
theorem dL_steps_44 : decode cL_steps 44 = .ok (.iload 6, 2) := by decide +kernel
theorem dL_steps_46 : decode cL_steps 46 = .ok (.bipush 50, 2) := by decide +kernel
theorem dL_steps_48 : decode cL_steps 48 = .ok (.irem, 1) := by decide +kernel
theorem dL_steps_49 : decode cL_steps 49 = .ok (.iload 6, 2) := by decide +kernel
theorem dL_steps_51 : decode cL_steps 51 = .ok (.bipush 50, 2) := by decide +kernel
theorem dL_steps_53 : decode cL_steps 53 = .ok (.if_icmp .ge 7, 3) := by decide +kernel
theorem dL_steps_56 : decode cL_steps 56 = .ok (.iconst 0, 1) := by decide +kernel
theorem dL_steps_57 : decode cL_steps 57 = .ok (.goto 4, 3) := by decide +kernel
theorem dL_steps_60 : decode cL_steps 60 = .ok (.iconst 1, 1) := by decide +kernel
theorem dL_steps_61 : decode cL_steps 61 = .ok (.iastore, 1) := by decide +kernel
theorem dL_steps_62 : decode cL_steps 62 = .ok (.iconst 0, 1) := by decide +kernel
theorem dL_steps_63 : decode cL_steps 63 = .ok (.istore 7, 2) := by decide +kernel
theorem dL_steps_65 : decode cL_steps 65 = .ok (.iload 7, 2) := by decide +kernel
theorem dL_steps_67 : decode cL_steps 67 = .ok (.bipush 100, 2) := by decide +kernel
theorem dL_steps_69 : decode cL_steps 69 = .ok (.if_icmp .ge 193, 3) := by decide +kernel
theorem dL_steps_72 : decode cL_steps 72 = .ok (.iconst 0, 1) := by decide +kernel
theorem dL_steps_73 : decode cL_steps 73 = .ok (.istore 8, 2) := by decide +kernel
theorem dL_steps_75 : decode cL_steps 75 = .ok (.iload 8, 2) := by decide +kernel
theorem dL_steps_77 : decode cL_steps 77 = .ok (.bipush 100, 2) := by decide +kernel
theorem dL_steps_79 : decode cL_steps 79 = .ok (.if_icmp .ge 177, 3) := by decide +kernel
theorem dL_steps_82 : decode cL_steps 82 = .ok (.iload 8, 2) := by decide +kernel
theorem dL_steps_84 : decode cL_steps 84 = .ok (.bipush 50, 2) := by decide +kernel
theorem dL_steps_86 : decode cL_steps 86 = .ok (.if_icmp .ge 11, 3) := by decide +kernel
theorem dL_steps_89 : decode cL_steps 89 = .ok (.aload 4, 2) := by decide +kernel
theorem dL_steps_91 : decode cL_steps 91 = .ok (.iload 8, 2) := by decide +kernel
theorem dL_steps_93 : decode cL_steps 93 = .ok (.iaload, 1) := by decide +kernel
theorem dL_steps_94 : decode cL_steps 94 = .ok (.goto 11, 3) := by decide +kernel
theorem dL_steps_97 : decode cL_steps 97 = .ok (.aload 5, 2) := by decide +kernel
theorem dL_steps_99 : decode cL_steps 99 = .ok (.iload 8, 2) := by decide +kernel
theorem dL_steps_101 : decode cL_steps 101 = .ok (.bipush 50, 2) := by decide +kernel
theorem dL_steps_103 : decode cL_steps 103 = .ok (.isub, 1) := by decide +kernel
theorem dL_steps_104 : decode cL_steps 104 = .ok (.iaload, 1) := by decide +kernel
theorem dL_steps_105 : decode cL_steps 105 = .ok (.iload 7, 2) := by decide +kernel
theorem dL_steps_107 : decode cL_steps 107 = .ok (.iconst 1, 1) := by decide +kernel
theorem dL_steps_108 : decode cL_steps 108 = .ok (.iadd, 1) := by decide +kernel
theorem dL_steps_109 : decode cL_steps 109 = .ok (.if_icmp .ne 141, 3) := by decide +kernel
theorem dL_steps_112 : decode cL_steps 112 = .ok (.aload_n 0, 1) := by decide +kernel
theorem dL_steps_113 : decode cL_steps 113 = .ok (.aload_n 1, 1) := by decide +kernel
theorem dL_steps_114 : decode cL_steps 114 = .ok (.aload_n 2, 1) := by decide +kernel
theorem dL_steps_115 : decode cL_steps 115 = .ok (.iload_n 3, 1) := by decide +kernel
theorem dL_steps_116 : decode cL_steps 116 = .ok (.iload 8, 2) := by decide +kernel
theorem dL_steps_118 : decode cL_steps 118 = .ok (.invokestatic 19, 3) := by decide +kernel
theorem dL_steps_121 : decode cL_steps 121 = .ok (.ifCond .eq 6, 3) := by decide +kernel
theorem dL_steps_124 : decode cL_steps 124 = .ok (.iload 7, 2) := by decide +kernel
theorem dL_steps_126 : decode cL_steps 126 = .ok (.ireturn, 1) := by decide +kernel
theorem dL_steps_127 : decode cL_steps 127 = .ok (.iconst 0, 1) := by decide +kernel
theorem dL_steps_128 : decode cL_steps 128 = .ok (.istore 9, 2) := by decide +kernel
theorem dL_steps_130 : decode cL_steps 130 = .ok (.iload 9, 2) := by decide +kernel
theorem dL_steps_132 : decode cL_steps 132 = .ok (.iconst 4, 1) := by decide +kernel
theorem dL_steps_133 : decode cL_steps 133 = .ok (.if_icmp .ge 117, 3) := by decide +kernel
theorem dL_steps_136 : decode cL_steps 136 = .ok (.iload 8, 2) := by decide +kernel
theorem dL_steps_138 : decode cL_steps 138 = .ok (.iload 9, 2) := by decide +kernel
theorem dL_steps_140 : decode cL_steps 140 = .ok (.invokestatic 23, 3) := by decide +kernel
theorem dL_steps_143 : decode cL_steps 143 = .ok (.istore 10, 2) := by decide +kernel
theorem dL_steps_145 : decode cL_steps 145 = .ok (.iload 10, 2) := by decide +kernel
theorem dL_steps_147 : decode cL_steps 147 = .ok (.ifCond .lt 97, 3) := by decide +kernel
theorem dL_steps_150 : decode cL_steps 150 = .ok (.aload_n 0, 1) := by decide +kernel
theorem dL_steps_151 : decode cL_steps 151 = .ok (.aload_n 2, 1) := by decide +kernel
theorem dL_steps_152 : decode cL_steps 152 = .ok (.iload 10, 2) := by decide +kernel
theorem dL_steps_154 : decode cL_steps 154 = .ok (.invokestatic 27, 3) := by decide +kernel
theorem dL_steps_157 : decode cL_steps 157 = .ok (.bipush (-5), 2) := by decide +kernel
theorem dL_steps_159 : decode cL_steps 159 = .ok (.if_icmp .ne 85, 3) := by decide +kernel
theorem dL_steps_162 : decode cL_steps 162 = .ok (.aload 4, 2) := by decide +kernel
theorem dL_steps_164 : decode cL_steps 164 = .ok (.iload 10, 2) := by decide +kernel
theorem dL_steps_166 : decode cL_steps 166 = .ok (.bipush 50, 2) := by decide +kernel
theorem dL_steps_168 : decode cL_steps 168 = .ok (.irem, 1) := by decide +kernel
theorem dL_steps_169 : decode cL_steps 169 = .ok (.iload 10, 2) := by decide +kernel
theorem dL_steps_171 : decode cL_steps 171 = .ok (.bipush 50, 2) := by decide +kernel
theorem dL_steps_173 : decode cL_steps 173 = .ok (.if_icmp .ge 21, 3) := by decide +kernel
theorem dL_steps_176 : decode cL_steps 176 = .ok (.aload 4, 2) := by decide +kernel
theorem dL_steps_178 : decode cL_steps 178 = .ok (.iload 10, 2) := by decide +kernel
theorem dL_steps_180 : decode cL_steps 180 = .ok (.bipush 50, 2) := by decide +kernel
theorem dL_steps_182 : decode cL_steps 182 = .ok (.irem, 1) := by decide +kernel
theorem dL_steps_183 : decode cL_steps 183 = .ok (.iaload, 1) := by decide +kernel
theorem dL_steps_184 : decode cL_steps 184 = .ok (.ifCond .ne 10, 3) := by decide +kernel
theorem dL_steps_187 : decode cL_steps 187 = .ok (.iload 7, 2) := by decide +kernel
theorem dL_steps_189 : decode cL_steps 189 = .ok (.iconst 2, 1) := by decide +kernel
theorem dL_steps_190 : decode cL_steps 190 = .ok (.iadd, 1) := by decide +kernel
theorem dL_steps_191 : decode cL_steps 191 = .ok (.goto 11, 3) := by decide +kernel
theorem dL_steps_194 : decode cL_steps 194 = .ok (.aload 4, 2) := by decide +kernel
theorem dL_steps_196 : decode cL_steps 196 = .ok (.iload 10, 2) := by decide +kernel
theorem dL_steps_198 : decode cL_steps 198 = .ok (.bipush 50, 2) := by decide +kernel
theorem dL_steps_200 : decode cL_steps 200 = .ok (.irem, 1) := by decide +kernel
theorem dL_steps_201 : decode cL_steps 201 = .ok (.iaload, 1) := by decide +kernel
theorem dL_steps_202 : decode cL_steps 202 = .ok (.iastore, 1) := by decide +kernel
theorem dL_steps_203 : decode cL_steps 203 = .ok (.aload 5, 2) := by decide +kernel
theorem dL_steps_205 : decode cL_steps 205 = .ok (.iload 10, 2) := by decide +kernel
theorem dL_steps_207 : decode cL_steps 207 = .ok (.bipush 50, 2) := by decide +kernel
theorem dL_steps_209 : decode cL_steps 209 = .ok (.irem, 1) := by decide +kernel
theorem dL_steps_210 : decode cL_steps 210 = .ok (.iload 10, 2) := by decide +kernel
theorem dL_steps_212 : decode cL_steps 212 = .ok (.bipush 49, 2) := by decide +kernel
theorem dL_steps_214 : decode cL_steps 214 = .ok (.if_icmp .le 21, 3) := by decide +kernel
theorem dL_steps_217 : decode cL_steps 217 = .ok (.aload 5, 2) := by decide +kernel
theorem dL_steps_219 : decode cL_steps 219 = .ok (.iload 10, 2) := by decide +kernel
theorem dL_steps_221 : decode cL_steps 221 = .ok (.bipush 50, 2) := by decide +kernel
theorem dL_steps_223 : decode cL_steps 223 = .ok (.irem, 1) := by decide +kernel
theorem dL_steps_224 : decode cL_steps 224 = .ok (.iaload, 1) := by decide +kernel
theorem dL_steps_225 : decode cL_steps 225 = .ok (.ifCond .ne 10, 3) := by decide +kernel
theorem dL_steps_228 : decode cL_steps 228 = .ok (.iload 7, 2) := by decide +kernel
theorem dL_steps_230 : decode cL_steps 230 = .ok (.iconst 2, 1) := by decide +kernel
theorem dL_steps_231 : decode cL_steps 231 = .ok (.iadd, 1) := by decide +kernel
theorem dL_steps_232 : decode cL_steps 232 = .ok (.goto 11, 3) := by decide +kernel
theorem dL_steps_235 : decode cL_steps 235 = .ok (.aload 5, 2) := by decide +kernel
theorem dL_steps_237 : decode cL_steps 237 = .ok (.iload 10, 2) := by decide +kernel
theorem dL_steps_239 : decode cL_steps 239 = .ok (.bipush 50, 2) := by decide +kernel
theorem dL_steps_241 : decode cL_steps 241 = .ok (.irem, 1) := by decide +kernel
theorem dL_steps_242 : decode cL_steps 242 = .ok (.iaload, 1) := by decide +kernel
theorem dL_steps_243 : decode cL_steps 243 = .ok (.iastore, 1) := by decide +kernel
theorem dL_steps_244 : decode cL_steps 244 = .ok (.iinc 9 1, 3) := by decide +kernel
theorem dL_steps_247 : decode cL_steps 247 = .ok (.goto (-117), 3) := by decide +kernel
theorem dL_steps_250 : decode cL_steps 250 = .ok (.iinc 8 1, 3) := by decide +kernel
theorem dL_steps_253 : decode cL_steps 253 = .ok (.goto (-178), 3) := by decide +kernel
theorem dL_steps_256 : decode cL_steps 256 = .ok (.iinc 7 1, 3) := by decide +kernel
theorem dL_steps_259 : decode cL_steps 259 = .ok (.goto (-194), 3) := by decide +kernel
theorem dL_steps_262 : decode cL_steps 262 = .ok (.bipush (-5), 2) := by decide +kernel
theorem dL_steps_264 : decode cL_steps 264 = .ok (.ireturn, 1) := by decide +kernel
theorem dL_areSteps_0 : decode cL_areSteps 0 = .ok (.bipush (-5), 2) := by decide +kernel
theorem dL_areSteps_2 : decode cL_areSteps 2 = .ok (.istore 4, 2) := by decide +kernel
theorem dL_areSteps_4 : decode cL_areSteps 4 = .ok (.iconst (-1), 1) := by decide +kernel
theorem dL_areSteps_5 : decode cL_areSteps 5 = .ok (.istore 5, 2) := by decide +kernel
theorem dL_areSteps_7 : decode cL_areSteps 7 = .ok (.aload_n 0, 1) := by decide +kernel
theorem dL_areSteps_8 : decode cL_areSteps 8 = .ok (.aload_n 3, 1) := by decide +kernel
theorem dL_areSteps_9 : decode cL_areSteps 9 = .ok (.bipush 8, 2) := by decide +kernel
theorem dL_areSteps_11 : decode cL_areSteps 11 = .ok (.iaload, 1) := by decide +kernel
theorem dL_areSteps_12 : decode cL_areSteps 12 = .ok (.invokevirtual 66, 3) := by decide +kernel
theorem dL_areSteps_15 : decode cL_areSteps 15 = .ok (.iconst (-1), 1) := by decide +kernel
theorem dL_areSteps_16 : decode cL_areSteps 16 = .ok (.if_icmp .ne 7, 3) := by decide +kernel
theorem dL_areSteps_19 : decode cL_areSteps 19 = .ok (.iconst 1, 1) := by decide +kernel
theorem dL_areSteps_20 : decode cL_areSteps 20 = .ok (.goto 4, 3) := by decide +kernel
theorem dL_areSteps_23 : decode cL_areSteps 23 = .ok (.iconst 0, 1) := by decide +kernel
theorem dL_areSteps_24 : decode cL_areSteps 24 = .ok (.istore 6, 2) := by decide +kernel
theorem dL_areSteps_26 : decode cL_areSteps 26 = .ok (.iconst 0, 1) := by decide +kernel
theorem dL_areSteps_27 : decode cL_areSteps 27 = .ok (.istore 7, 2) := by decide +kernel
theorem dL_areSteps_29 : decode cL_areSteps 29 = .ok (.iload 7, 2) := by decide +kernel
theorem dL_areSteps_31 : decode cL_areSteps 31 = .ok (.aload_n 3, 1) := by decide +kernel
theorem dL_areSteps_32 : decode cL_areSteps 32 = .ok (.bipush 8, 2) := by decide +kernel
theorem dL_areSteps_34 : decode cL_areSteps 34 = .ok (.iaload, 1) := by decide +kernel
theorem dL_areSteps_35 : decode cL_areSteps 35 = .ok (.if_icmp .ge 145, 3) := by decide +kernel
theorem dL_areSteps_38 : decode cL_areSteps 38 = .ok (.iload 7, 2) := by decide +kernel
theorem dL_areSteps_40 : decode cL_areSteps 40 = .ok (.aload_n 3, 1) := by decide +kernel
theorem dL_areSteps_41 : decode cL_areSteps 41 = .ok (.iconst 1, 1) := by decide +kernel
theorem dL_areSteps_42 : decode cL_areSteps 42 = .ok (.iaload, 1) := by decide +kernel
theorem dL_areSteps_43 : decode cL_areSteps 43 = .ok (.if_icmp .eq 30, 3) := by decide +kernel
theorem dL_areSteps_46 : decode cL_areSteps 46 = .ok (.aload_n 1, 1) := by decide +kernel
theorem dL_areSteps_47 : decode cL_areSteps 47 = .ok (.bipush 7, 2) := by decide +kernel
theorem dL_areSteps_49 : decode cL_areSteps 49 = .ok (.iload 7, 2) := by decide +kernel
theorem dL_areSteps_51 : decode cL_areSteps 51 = .ok (.imul, 1) := by decide +kernel
theorem dL_areSteps_52 : decode cL_areSteps 52 = .ok (.iconst 3, 1) := by decide +kernel
theorem dL_areSteps_53 : decode cL_areSteps 53 = .ok (.iadd, 1) := by decide +kernel
theorem dL_areSteps_54 : decode cL_areSteps 54 = .ok (.iaload, 1) := by decide +kernel
theorem dL_areSteps_55 : decode cL_areSteps 55 = .ok (.ifCond .ne 18, 3) := by decide +kernel
theorem dL_areSteps_58 : decode cL_areSteps 58 = .ok (.aload_n 1, 1) := by decide +kernel
theorem dL_areSteps_59 : decode cL_areSteps 59 = .ok (.aload_n 2, 1) := by decide +kernel
theorem dL_areSteps_60 : decode cL_areSteps 60 = .ok (.aload_n 3, 1) := by decide +kernel
theorem dL_areSteps_61 : decode cL_areSteps 61 = .ok (.iload 7, 2) := by decide +kernel
theorem dL_areSteps_63 : decode cL_areSteps 63 = .ok (.invokestatic 44, 3) := by decide +kernel
theorem dL_areSteps_66 : decode cL_areSteps 66 = .ok (.ifCond .le 7, 3) := by decide +kernel
theorem dL_areSteps_69 : decode cL_areSteps 69 = .ok (.iconst 1, 1) := by decide +kernel
theorem dL_areSteps_70 : decode cL_areSteps 70 = .ok (.goto 4, 3) := by decide +kernel
theorem dL_areSteps_73 : decode cL_areSteps 73 = .ok (.iconst 0, 1) := by decide +kernel
theorem dL_areSteps_74 : decode cL_areSteps 74 = .ok (.istore 8, 2) := by decide +kernel
theorem dL_areSteps_76 : decode cL_areSteps 76 = .ok (.iload 8, 2) := by decide +kernel
theorem dL_areSteps_78 : decode cL_areSteps 78 = .ok (.ifCond .eq 14, 3) := by decide +kernel
theorem dL_areSteps_81 : decode cL_areSteps 81 = .ok (.aload_n 1, 1) := by decide +kernel
theorem dL_areSteps_82 : decode cL_areSteps 82 = .ok (.aload_n 2, 1) := by decide +kernel
theorem dL_areSteps_83 : decode cL_areSteps 83 = .ok (.aload_n 3, 1) := by decide +kernel
theorem dL_areSteps_84 : decode cL_areSteps 84 = .ok (.iload 7, 2) := by decide +kernel
theorem dL_areSteps_86 : decode cL_areSteps 86 = .ok (.invokestatic 69, 3) := by decide +kernel
theorem dL_areSteps_89 : decode cL_areSteps 89 = .ok (.goto 5, 3) := by decide +kernel
theorem dL_areSteps_92 : decode cL_areSteps 92 = .ok (.bipush (-4), 2) := by decide +kernel
theorem dL_areSteps_94 : decode cL_areSteps 94 = .ok (.istore 9, 2) := by decide +kernel
theorem dL_areSteps_96 : decode cL_areSteps 96 = .ok (.iload 6, 2) := by decide +kernel
theorem dL_areSteps_98 : decode cL_areSteps 98 = .ok (.ifCond .eq 18, 3) := by decide +kernel
theorem dL_areSteps_101 : decode cL_areSteps 101 = .ok (.aload_n 0, 1) := by decide +kernel
theorem dL_areSteps_102 : decode cL_areSteps 102 = .ok (.iload 7, 2) := by decide +kernel
theorem dL_areSteps_104 : decode cL_areSteps 104 = .ok (.invokevirtual 66, 3) := by decide +kernel
theorem dL_areSteps_107 : decode cL_areSteps 107 = .ok (.iload 9, 2) := by decide +kernel
theorem dL_areSteps_109 : decode cL_areSteps 109 = .ok (.if_icmp .ne 7, 3) := by decide +kernel
theorem dL_areSteps_112 : decode cL_areSteps 112 = .ok (.iconst 1, 1) := by decide +kernel
theorem dL_areSteps_113 : decode cL_areSteps 113 = .ok (.goto 4, 3) := by decide +kernel
theorem dL_areSteps_116 : decode cL_areSteps 116 = .ok (.iconst 0, 1) := by decide +kernel
theorem dL_areSteps_117 : decode cL_areSteps 117 = .ok (.istore 6, 2) := by decide +kernel
theorem dL_areSteps_119 : decode cL_areSteps 119 = .ok (.iload 9, 2) := by decide +kernel
theorem dL_areSteps_121 : decode cL_areSteps 121 = .ok (.ifCond .ge 9, 3) := by decide +kernel
theorem dL_areSteps_124 : decode cL_areSteps 124 = .ok (.sipush 500, 3) := by decide +kernel
theorem dL_areSteps_127 : decode cL_areSteps 127 = .ok (.goto 5, 3) := by decide +kernel
theorem dL_areSteps_130 : decode cL_areSteps 130 = .ok (.iload 9, 2) := by decide +kernel
theorem dL_areSteps_132 : decode cL_areSteps 132 = .ok (.istore 10, 2) := by decide +kernel
theorem dL_areSteps_134 : decode cL_areSteps 134 = .ok (.iload 7, 2) := by decide +kernel
theorem dL_areSteps_136 : decode cL_areSteps 136 = .ok (.aload_n 3, 1) := by decide +kernel
theorem dL_areSteps_137 : decode cL_areSteps 137 = .ok (.iconst 1, 1) := by decide +kernel
theorem dL_areSteps_138 : decode cL_areSteps 138 = .ok (.iaload, 1) := by decide +kernel
theorem dL_areSteps_139 : decode cL_areSteps 139 = .ok (.if_icmp .eq 15, 3) := by decide +kernel
theorem dL_areSteps_142 : decode cL_areSteps 142 = .ok (.iload 10, 2) := by decide +kernel
theorem dL_areSteps_144 : decode cL_areSteps 144 = .ok (.iload 5, 2) := by decide +kernel
theorem dL_areSteps_146 : decode cL_areSteps 146 = .ok (.if_icmp .le 8, 3) := by decide +kernel
theorem dL_areSteps_149 : decode cL_areSteps 149 = .ok (.iload 7, 2) := by decide +kernel
theorem dL_areSteps_151 : decode cL_areSteps 151 = .ok (.goto 5, 3) := by decide +kernel
theorem dL_areSteps_154 : decode cL_areSteps 154 = .ok (.iload 4, 2) := by decide +kernel
theorem dL_areSteps_156 : decode cL_areSteps 156 = .ok (.istore 4, 2) := by decide +kernel
theorem dL_areSteps_158 : decode cL_areSteps 158 = .ok (.iload 4, 2) := by decide +kernel
theorem dL_areSteps_160 : decode cL_areSteps 160 = .ok (.iload 7, 2) := by decide +kernel
theorem dL_areSteps_162 : decode cL_areSteps 162 = .ok (.if_icmp .ne 8, 3) := by decide +kernel
theorem dL_areSteps_165 : decode cL_areSteps 165 = .ok (.iload 10, 2) := by decide +kernel
theorem dL_areSteps_167 : decode cL_areSteps 167 = .ok (.goto 5, 3) := by decide +kernel
theorem dL_areSteps_170 : decode cL_areSteps 170 = .ok (.iload 5, 2) := by decide +kernel
theorem dL_areSteps_172 : decode cL_areSteps 172 = .ok (.istore 5, 2) := by decide +kernel
theorem dL_areSteps_174 : decode cL_areSteps 174 = .ok (.iinc 7 1, 3) := by decide +kernel
theorem dL_areSteps_177 : decode cL_areSteps 177 = .ok (.goto (-148), 3) := by decide +kernel
theorem dL_areSteps_180 : decode cL_areSteps 180 = .ok (.iload 6, 2) := by decide +kernel
theorem dL_areSteps_182 : decode cL_areSteps 182 = .ok (.ifCond .eq 16, 3) := by decide +kernel
theorem dL_areSteps_185 : decode cL_areSteps 185 = .ok (.aload_n 0, 1) := by decide +kernel
theorem dL_areSteps_186 : decode cL_areSteps 186 = .ok (.invokevirtual 72, 3) := by decide +kernel
theorem dL_areSteps_189 : decode cL_areSteps 189 = .ok (.iload 4, 2) := by decide +kernel
theorem dL_areSteps_191 : decode cL_areSteps 191 = .ok (.if_icmp .ne 7, 3) := by decide +kernel
theorem dL_areSteps_194 : decode cL_areSteps 194 = .ok (.iconst 1, 1) := by decide +kernel
theorem dL_areSteps_195 : decode cL_areSteps 195 = .ok (.goto 4, 3) := by decide +kernel
theorem dL_areSteps_198 : decode cL_areSteps 198 = .ok (.iconst 0, 1) := by decide +kernel
theorem dL_areSteps_199 : decode cL_areSteps 199 = .ok (.ireturn, 1) := by decide +kernel
theorem dL_copy_0 : decode cL_copy 0 = .ok (.iconst 0, 1) := by decide +kernel
theorem dL_copy_1 : decode cL_copy 1 = .ok (.istore_n 2, 1) := by decide +kernel
theorem dL_copy_2 : decode cL_copy 2 = .ok (.iload_n 2, 1) := by decide +kernel
theorem dL_copy_3 : decode cL_copy 3 = .ok (.aload_n 0, 1) := by decide +kernel
theorem dL_copy_4 : decode cL_copy 4 = .ok (.arraylength, 1) := by decide +kernel
theorem dL_copy_5 : decode cL_copy 5 = .ok (.if_icmp .ge 15, 3) := by decide +kernel
theorem dL_copy_8 : decode cL_copy 8 = .ok (.aload_n 1, 1) := by decide +kernel
theorem dL_copy_9 : decode cL_copy 9 = .ok (.iload_n 2, 1) := by decide +kernel
theorem dL_copy_10 : decode cL_copy 10 = .ok (.aload_n 0, 1) := by decide +kernel
theorem dL_copy_11 : decode cL_copy 11 = .ok (.iload_n 2, 1) := by decide +kernel
theorem dL_copy_12 : decode cL_copy 12 = .ok (.iaload, 1) := by decide +kernel
theorem dL_copy_13 : decode cL_copy 13 = .ok (.iastore, 1) := by decide +kernel
theorem dL_copy_14 : decode cL_copy 14 = .ok (.iinc 2 1, 3) := by decide +kernel
theorem dL_copy_17 : decode cL_copy 17 = .ok (.goto (-15), 3) := by decide +kernel
theorem dL_copy_20 : decode cL_copy 20 = .ok (.return_, 1) := by decide +kernel
theorem dL_would_0 : decode cL_would 0 = .ok (.bipush 42, 2) := by decide +kernel
theorem dL_would_2 : decode cL_would 2 = .ok (.newarray .int, 2) := by decide +kernel
theorem dL_would_4 : decode cL_would 4 = .ok (.astore 5, 2) := by decide +kernel
theorem dL_would_6 : decode cL_would 6 = .ok (.bipush 12, 2) := by decide +kernel
theorem dL_would_8 : decode cL_would 8 = .ok (.newarray .int, 2) := by decide +kernel
theorem dL_would_10 : decode cL_would 10 = .ok (.astore 6, 2) := by decide +kernel
theorem dL_would_12 : decode cL_would 12 = .ok (.bipush 9, 2) := by decide +kernel
theorem dL_would_14 : decode cL_would 14 = .ok (.newarray .int, 2) := by decide +kernel
theorem dL_would_16 : decode cL_would 16 = .ok (.astore 7, 2) := by decide +kernel
theorem dL_would_18 : decode cL_would 18 = .ok (.aload_n 1, 1) := by decide +kernel
theorem dL_would_19 : decode cL_would 19 = .ok (.aload 5, 2) := by decide +kernel
theorem dL_would_21 : decode cL_would 21 = .ok (.invokestatic 76, 3) := by decide +kernel
theorem dL_would_24 : decode cL_would 24 = .ok (.aload_n 2, 1) := by decide +kernel
theorem dL_would_25 : decode cL_would 25 = .ok (.aload 6, 2) := by decide +kernel
theorem dL_would_27 : decode cL_would 27 = .ok (.invokestatic 76, 3) := by decide +kernel
theorem dL_would_30 : decode cL_would 30 = .ok (.aload_n 3, 1) := by decide +kernel
theorem dL_would_31 : decode cL_would 31 = .ok (.aload 7, 2) := by decide +kernel
theorem dL_would_33 : decode cL_would 33 = .ok (.invokestatic 76, 3) := by decide +kernel
theorem dL_would_36 : decode cL_would 36 = .ok (.bipush (-5), 2) := by decide +kernel
theorem dL_would_38 : decode cL_would 38 = .ok (.istore 8, 2) := by decide +kernel
theorem dL_would_40 : decode cL_would 40 = .ok (.iconst 1, 1) := by decide +kernel
theorem dL_would_41 : decode cL_would 41 = .ok (.istore 9, 2) := by decide +kernel
theorem dL_would_43 : decode cL_would 43 = .ok (.iload 9, 2) := by decide +kernel
theorem dL_would_45 : decode cL_would 45 = .ok (.iload 4, 2) := by decide +kernel
theorem dL_would_47 : decode cL_would 47 = .ok (.if_icmp .gt 42, 3) := by decide +kernel
theorem dL_would_50 : decode cL_would 50 = .ok (.aload 5, 2) := by decide +kernel
theorem dL_would_52 : decode cL_would 52 = .ok (.aload 6, 2) := by decide +kernel
theorem dL_would_54 : decode cL_would 54 = .ok (.aload 7, 2) := by decide +kernel
theorem dL_would_56 : decode cL_would 56 = .ok (.invokestatic 80, 3) := by decide +kernel
theorem dL_would_59 : decode cL_would 59 = .ok (.iload 8, 2) := by decide +kernel
theorem dL_would_61 : decode cL_would 61 = .ok (.ifCond .ge 18, 3) := by decide +kernel
theorem dL_would_64 : decode cL_would 64 = .ok (.aload 7, 2) := by decide +kernel
theorem dL_would_66 : decode cL_would 66 = .ok (.iconst 2, 1) := by decide +kernel
theorem dL_would_67 : decode cL_would 67 = .ok (.iaload, 1) := by decide +kernel
theorem dL_would_68 : decode cL_would 68 = .ok (.aload_n 3, 1) := by decide +kernel
theorem dL_would_69 : decode cL_would 69 = .ok (.iconst 2, 1) := by decide +kernel
theorem dL_would_70 : decode cL_would 70 = .ok (.iaload, 1) := by decide +kernel
theorem dL_would_71 : decode cL_would 71 = .ok (.if_icmp .le 8, 3) := by decide +kernel
theorem dL_would_74 : decode cL_would 74 = .ok (.iload 9, 2) := by decide +kernel
theorem dL_would_76 : decode cL_would 76 = .ok (.goto 5, 3) := by decide +kernel
theorem dL_would_79 : decode cL_would 79 = .ok (.iload 8, 2) := by decide +kernel
theorem dL_would_81 : decode cL_would 81 = .ok (.istore 8, 2) := by decide +kernel
theorem dL_would_83 : decode cL_would 83 = .ok (.iinc 9 1, 3) := by decide +kernel
theorem dL_would_86 : decode cL_would 86 = .ok (.goto (-43), 3) := by decide +kernel
theorem dL_would_89 : decode cL_would 89 = .ok (.aload_n 0, 1) := by decide +kernel
theorem dL_would_90 : decode cL_would 90 = .ok (.iload 4, 2) := by decide +kernel
theorem dL_would_92 : decode cL_would 92 = .ok (.iconst 0, 1) := by decide +kernel
theorem dL_would_93 : decode cL_would 93 = .ok (.invokevirtual 84, 3) := by decide +kernel
theorem dL_would_96 : decode cL_would 96 = .ok (.aload 7, 2) := by decide +kernel
theorem dL_would_98 : decode cL_would 98 = .ok (.iconst 2, 1) := by decide +kernel
theorem dL_would_99 : decode cL_would 99 = .ok (.iaload, 1) := by decide +kernel
theorem dL_would_100 : decode cL_would 100 = .ok (.aload_n 3, 1) := by decide +kernel
theorem dL_would_101 : decode cL_would 101 = .ok (.iconst 2, 1) := by decide +kernel
theorem dL_would_102 : decode cL_would 102 = .ok (.iaload, 1) := by decide +kernel
theorem dL_would_103 : decode cL_would 103 = .ok (.isub, 1) := by decide +kernel
theorem dL_would_104 : decode cL_would 104 = .ok (.if_icmp .ne 45, 3) := by decide +kernel
theorem dL_would_107 : decode cL_would 107 = .ok (.aload_n 0, 1) := by decide +kernel
theorem dL_would_108 : decode cL_would 108 = .ok (.iload 4, 2) := by decide +kernel
theorem dL_would_110 : decode cL_would 110 = .ok (.iconst 1, 1) := by decide +kernel
theorem dL_would_111 : decode cL_would 111 = .ok (.invokevirtual 84, 3) := by decide +kernel
theorem dL_would_114 : decode cL_would 114 = .ok (.aload_n 3, 1) := by decide +kernel
theorem dL_would_115 : decode cL_would 115 = .ok (.bipush 8, 2) := by decide +kernel
theorem dL_would_117 : decode cL_would 117 = .ok (.iaload, 1) := by decide +kernel
theorem dL_would_118 : decode cL_would 118 = .ok (.ifCond .ne 8, 3) := by decide +kernel
theorem dL_would_121 : decode cL_would 121 = .ok (.bipush (-5), 2) := by decide +kernel
theorem dL_would_123 : decode cL_would 123 = .ok (.goto 7, 3) := by decide +kernel
theorem dL_would_126 : decode cL_would 126 = .ok (.aload 7, 2) := by decide +kernel
theorem dL_would_128 : decode cL_would 128 = .ok (.iconst 1, 1) := by decide +kernel
theorem dL_would_129 : decode cL_would 129 = .ok (.iaload, 1) := by decide +kernel
theorem dL_would_130 : decode cL_would 130 = .ok (.if_icmp .ne 19, 3) := by decide +kernel
theorem dL_would_133 : decode cL_would 133 = .ok (.aload_n 0, 1) := by decide +kernel
theorem dL_would_134 : decode cL_would 134 = .ok (.iload 4, 2) := by decide +kernel
theorem dL_would_136 : decode cL_would 136 = .ok (.iconst 2, 1) := by decide +kernel
theorem dL_would_137 : decode cL_would 137 = .ok (.invokevirtual 84, 3) := by decide +kernel
theorem dL_would_140 : decode cL_would 140 = .ok (.iload 8, 2) := by decide +kernel
theorem dL_would_142 : decode cL_would 142 = .ok (.if_icmp .ne 7, 3) := by decide +kernel
theorem dL_would_145 : decode cL_would 145 = .ok (.iconst 1, 1) := by decide +kernel
theorem dL_would_146 : decode cL_would 146 = .ok (.goto 4, 3) := by decide +kernel
theorem dL_would_149 : decode cL_would 149 = .ok (.iconst 0, 1) := by decide +kernel
theorem dL_would_150 : decode cL_would 150 = .ok (.ireturn, 1) := by decide +kernel
theorem dL_comes_0 : decode cL_comes 0 = .ok (.iload_n 3, 1) := by decide +kernel
theorem dL_comes_1 : decode cL_comes 1 = .ok (.bipush 100, 2) := by decide +kernel
theorem dL_comes_3 : decode cL_comes 3 = .ok (.invokestatic 87, 3) := by decide +kernel
theorem dL_comes_6 : decode cL_comes 6 = .ok (.istore 4, 2) := by decide +kernel
theorem dL_comes_8 : decode cL_comes 8 = .ok (.iconst 1, 1) := by decide +kernel
theorem dL_comes_9 : decode cL_comes 9 = .ok (.iload_n 3, 1) := by decide +kernel
theorem dL_comes_10 : decode cL_comes 10 = .ok (.bipush 7, 2) := by decide +kernel
theorem dL_comes_12 : decode cL_comes 12 = .ok (.ishr, 1) := by decide +kernel
theorem dL_comes_13 : decode cL_comes 13 = .ok (.iconst 5, 1) := by decide +kernel
theorem dL_comes_14 : decode cL_comes 14 = .ok (.invokestatic 87, 3) := by decide +kernel
theorem dL_comes_17 : decode cL_comes 17 = .ok (.iadd, 1) := by decide +kernel
theorem dL_comes_18 : decode cL_comes 18 = .ok (.istore 5, 2) := by decide +kernel
theorem dL_comes_20 : decode cL_comes 20 = .ok (.aload_n 1, 1) := by decide +kernel
theorem dL_comes_21 : decode cL_comes 21 = .ok (.aload_n 2, 1) := by decide +kernel
theorem dL_comes_22 : decode cL_comes 22 = .ok (.iload 4, 2) := by decide +kernel
theorem dL_comes_24 : decode cL_comes 24 = .ok (.invokestatic 27, 3) := by decide +kernel
theorem dL_comes_27 : decode cL_comes 27 = .ok (.ifCond .ge 12, 3) := by decide +kernel
theorem dL_comes_30 : decode cL_comes 30 = .ok (.aload_n 2, 1) := by decide +kernel
theorem dL_comes_31 : decode cL_comes 31 = .ok (.bipush 8, 2) := by decide +kernel
theorem dL_comes_33 : decode cL_comes 33 = .ok (.iaload, 1) := by decide +kernel
theorem dL_comes_34 : decode cL_comes 34 = .ok (.bipush 6, 2) := by decide +kernel
theorem dL_comes_36 : decode cL_comes 36 = .ok (.if_icmp .ne 37, 3) := by decide +kernel
theorem dL_comes_39 : decode cL_comes 39 = .ok (.aload_n 0, 1) := by decide +kernel
theorem dL_comes_40 : decode cL_comes 40 = .ok (.iload 4, 2) := by decide +kernel
theorem dL_comes_42 : decode cL_comes 42 = .ok (.iload 5, 2) := by decide +kernel
theorem dL_comes_44 : decode cL_comes 44 = .ok (.invokevirtual 90, 3) := by decide +kernel
theorem dL_comes_47 : decode cL_comes 47 = .ok (.aload_n 1, 1) := by decide +kernel
theorem dL_comes_48 : decode cL_comes 48 = .ok (.aload_n 2, 1) := by decide +kernel
theorem dL_comes_49 : decode cL_comes 49 = .ok (.iload 4, 2) := by decide +kernel
theorem dL_comes_51 : decode cL_comes 51 = .ok (.invokestatic 27, 3) := by decide +kernel
theorem dL_comes_54 : decode cL_comes 54 = .ok (.ifCond .lt 8, 3) := by decide +kernel
theorem dL_comes_57 : decode cL_comes 57 = .ok (.bipush (-4), 2) := by decide +kernel
theorem dL_comes_59 : decode cL_comes 59 = .ok (.goto 5, 3) := by decide +kernel
theorem dL_comes_62 : decode cL_comes 62 = .ok (.bipush (-3), 2) := by decide +kernel
theorem dL_comes_64 : decode cL_comes 64 = .ok (.if_icmp .ne 7, 3) := by decide +kernel
theorem dL_comes_67 : decode cL_comes 67 = .ok (.iconst 1, 1) := by decide +kernel
theorem dL_comes_68 : decode cL_comes 68 = .ok (.goto 4, 3) := by decide +kernel
theorem dL_comes_71 : decode cL_comes 71 = .ok (.iconst 0, 1) := by decide +kernel
theorem dL_comes_72 : decode cL_comes 72 = .ok (.ireturn, 1) := by decide +kernel
theorem dL_comes_73 : decode cL_comes 73 = .ok (.iconst 0, 1) := by decide +kernel
theorem dL_comes_74 : decode cL_comes 74 = .ok (.istore 6, 2) := by decide +kernel
theorem dL_comes_76 : decode cL_comes 76 = .ok (.iload 6, 2) := by decide +kernel
theorem dL_comes_78 : decode cL_comes 78 = .ok (.bipush 7, 2) := by decide +kernel
theorem dL_comes_80 : decode cL_comes 80 = .ok (.if_icmp .ge 53, 3) := by decide +kernel
theorem dL_comes_83 : decode cL_comes 83 = .ok (.aload_n 1, 1) := by decide +kernel
theorem dL_comes_84 : decode cL_comes 84 = .ok (.bipush 7, 2) := by decide +kernel
theorem dL_comes_86 : decode cL_comes 86 = .ok (.aload_n 2, 1) := by decide +kernel
theorem dL_comes_87 : decode cL_comes 87 = .ok (.bipush 8, 2) := by decide +kernel
theorem dL_comes_89 : decode cL_comes 89 = .ok (.iaload, 1) := by decide +kernel
theorem dL_comes_90 : decode cL_comes 90 = .ok (.imul, 1) := by decide +kernel
theorem dL_comes_91 : decode cL_comes 91 = .ok (.iload 6, 2) := by decide +kernel
theorem dL_comes_93 : decode cL_comes 93 = .ok (.iadd, 1) := by decide +kernel
theorem dL_comes_94 : decode cL_comes 94 = .ok (.iload 6, 2) := by decide +kernel
theorem dL_comes_96 : decode cL_comes 96 = .ok (.ifCond .ne 8, 3) := by decide +kernel
theorem dL_comes_99 : decode cL_comes 99 = .ok (.iload 4, 2) := by decide +kernel
theorem dL_comes_101 : decode cL_comes 101 = .ok (.goto 25, 3) := by decide +kernel
theorem dL_comes_104 : decode cL_comes 104 = .ok (.iload 6, 2) := by decide +kernel
theorem dL_comes_106 : decode cL_comes 106 = .ok (.iconst 1, 1) := by decide +kernel
theorem dL_comes_107 : decode cL_comes 107 = .ok (.if_icmp .ne 8, 3) := by decide +kernel
theorem dL_comes_110 : decode cL_comes 110 = .ok (.iload 5, 2) := by decide +kernel
theorem dL_comes_112 : decode cL_comes 112 = .ok (.goto 14, 3) := by decide +kernel
theorem dL_comes_115 : decode cL_comes 115 = .ok (.iload 6, 2) := by decide +kernel
theorem dL_comes_117 : decode cL_comes 117 = .ok (.iconst 2, 1) := by decide +kernel
theorem dL_comes_118 : decode cL_comes 118 = .ok (.if_icmp .ne 7, 3) := by decide +kernel
theorem dL_comes_121 : decode cL_comes 121 = .ok (.iconst 4, 1) := by decide +kernel
theorem dL_comes_122 : decode cL_comes 122 = .ok (.goto 4, 3) := by decide +kernel
theorem dL_comes_125 : decode cL_comes 125 = .ok (.iconst 0, 1) := by decide +kernel
theorem dL_comes_126 : decode cL_comes 126 = .ok (.iastore, 1) := by decide +kernel
theorem dL_comes_127 : decode cL_comes 127 = .ok (.iinc 6 1, 3) := by decide +kernel
theorem dL_comes_130 : decode cL_comes 130 = .ok (.goto (-54), 3) := by decide +kernel
theorem dL_comes_133 : decode cL_comes 133 = .ok (.aload_n 2, 1) := by decide +kernel
theorem dL_comes_134 : decode cL_comes 134 = .ok (.bipush 8, 2) := by decide +kernel
theorem dL_comes_136 : decode cL_comes 136 = .ok (.dup2, 1) := by decide +kernel
theorem dL_comes_137 : decode cL_comes 137 = .ok (.iaload, 1) := by decide +kernel
theorem dL_comes_138 : decode cL_comes 138 = .ok (.iconst 1, 1) := by decide +kernel
theorem dL_comes_139 : decode cL_comes 139 = .ok (.iadd, 1) := by decide +kernel
theorem dL_comes_140 : decode cL_comes 140 = .ok (.iastore, 1) := by decide +kernel
theorem dL_comes_141 : decode cL_comes 141 = .ok (.aload_n 0, 1) := by decide +kernel
theorem dL_comes_142 : decode cL_comes 142 = .ok (.iload 4, 2) := by decide +kernel
theorem dL_comes_144 : decode cL_comes 144 = .ok (.iload 5, 2) := by decide +kernel
theorem dL_comes_146 : decode cL_comes 146 = .ok (.invokevirtual 90, 3) := by decide +kernel
theorem dL_comes_149 : decode cL_comes 149 = .ok (.aload_n 2, 1) := by decide +kernel
theorem dL_comes_150 : decode cL_comes 150 = .ok (.bipush 8, 2) := by decide +kernel
theorem dL_comes_152 : decode cL_comes 152 = .ok (.iaload, 1) := by decide +kernel
theorem dL_comes_153 : decode cL_comes 153 = .ok (.iconst 1, 1) := by decide +kernel
theorem dL_comes_154 : decode cL_comes 154 = .ok (.isub, 1) := by decide +kernel
theorem dL_comes_155 : decode cL_comes 155 = .ok (.if_icmp .ne 7, 3) := by decide +kernel
theorem dL_comes_158 : decode cL_comes 158 = .ok (.iconst 1, 1) := by decide +kernel
theorem dL_comes_159 : decode cL_comes 159 = .ok (.goto 4, 3) := by decide +kernel
theorem dL_comes_162 : decode cL_comes 162 = .ok (.iconst 0, 1) := by decide +kernel
theorem dL_comes_163 : decode cL_comes 163 = .ok (.ireturn, 1) := by decide +kernel
theorem dL_acts_0 : decode cL_acts 0 = .ok (.iload 5, 2) := by decide +kernel
theorem dL_acts_2 : decode cL_acts 2 = .ok (.iconst 3, 1) := by decide +kernel
theorem dL_acts_3 : decode cL_acts 3 = .ok (.invokestatic 87, 3) := by decide +kernel
theorem dL_acts_6 : decode cL_acts 6 = .ok (.istore 6, 2) := by decide +kernel
theorem dL_acts_8 : decode cL_acts 8 = .ok (.iload 4, 2) := by decide +kernel
theorem dL_acts_10 : decode cL_acts 10 = .ok (.tableswitch 471 0 7 #[46, 55, 55, 55, 185, 282, 282, 403], 46) := by decide +kernel
theorem dL_acts_56 : decode cL_acts 56 = .ok (.aload_n 0, 1) := by decide +kernel
theorem dL_acts_57 : decode cL_acts 57 = .ok (.aload_n 1, 1) := by decide +kernel
theorem dL_acts_58 : decode cL_acts 58 = .ok (.aload_n 3, 1) := by decide +kernel
theorem dL_acts_59 : decode cL_acts 59 = .ok (.iload 5, 2) := by decide +kernel
theorem dL_acts_61 : decode cL_acts 61 = .ok (.invokestatic 93, 3) := by decide +kernel
theorem dL_acts_64 : decode cL_acts 64 = .ok (.ireturn, 1) := by decide +kernel
theorem dL_acts_65 : decode cL_acts 65 = .ok (.aload_n 3, 1) := by decide +kernel
theorem dL_acts_66 : decode cL_acts 66 = .ok (.bipush 8, 2) := by decide +kernel
theorem dL_acts_68 : decode cL_acts 68 = .ok (.iaload, 1) := by decide +kernel
theorem dL_acts_69 : decode cL_acts 69 = .ok (.ifCond .ne 19, 3) := by decide +kernel
theorem dL_acts_72 : decode cL_acts 72 = .ok (.aload_n 0, 1) := by decide +kernel
theorem dL_acts_73 : decode cL_acts 73 = .ok (.iconst 0, 1) := by decide +kernel
theorem dL_acts_74 : decode cL_acts 74 = .ok (.iconst 0, 1) := by decide +kernel
theorem dL_acts_75 : decode cL_acts 75 = .ok (.invokevirtual 97, 3) := by decide +kernel
theorem dL_acts_78 : decode cL_acts 78 = .ok (.iconst (-1), 1) := by decide +kernel
theorem dL_acts_79 : decode cL_acts 79 = .ok (.if_icmp .ne 7, 3) := by decide +kernel
theorem dL_acts_82 : decode cL_acts 82 = .ok (.iconst 1, 1) := by decide +kernel
theorem dL_acts_83 : decode cL_acts 83 = .ok (.goto 4, 3) := by decide +kernel
theorem dL_acts_86 : decode cL_acts 86 = .ok (.iconst 0, 1) := by decide +kernel
theorem dL_acts_87 : decode cL_acts 87 = .ok (.ireturn, 1) := by decide +kernel
theorem dL_acts_88 : decode cL_acts 88 = .ok (.iload 5, 2) := by decide +kernel
theorem dL_acts_90 : decode cL_acts 90 = .ok (.aload_n 3, 1) := by decide +kernel
theorem dL_acts_91 : decode cL_acts 91 = .ok (.bipush 8, 2) := by decide +kernel
theorem dL_acts_93 : decode cL_acts 93 = .ok (.iaload, 1) := by decide +kernel
theorem dL_acts_94 : decode cL_acts 94 = .ok (.invokestatic 87, 3) := by decide +kernel
theorem dL_acts_97 : decode cL_acts 97 = .ok (.istore 7, 2) := by decide +kernel
theorem dL_acts_99 : decode cL_acts 99 = .ok (.iload 5, 2) := by decide +kernel
theorem dL_acts_101 : decode cL_acts 101 = .ok (.iconst 4, 1) := by decide +kernel
theorem dL_acts_102 : decode cL_acts 102 = .ok (.ishr, 1) := by decide +kernel
theorem dL_acts_103 : decode cL_acts 103 = .ok (.bipush 6, 2) := by decide +kernel
theorem dL_acts_105 : decode cL_acts 105 = .ok (.invokestatic 87, 3) := by decide +kernel
theorem dL_acts_108 : decode cL_acts 108 = .ok (.iconst 1, 1) := by decide +kernel
theorem dL_acts_109 : decode cL_acts 109 = .ok (.isub, 1) := by decide +kernel
theorem dL_acts_110 : decode cL_acts 110 = .ok (.istore 8, 2) := by decide +kernel
theorem dL_acts_112 : decode cL_acts 112 = .ok (.iload 8, 2) := by decide +kernel
theorem dL_acts_114 : decode cL_acts 114 = .ok (.iconst 3, 1) := by decide +kernel
theorem dL_acts_115 : decode cL_acts 115 = .ok (.if_icmp .le 7, 3) := by decide +kernel
theorem dL_acts_118 : decode cL_acts 118 = .ok (.iconst 2, 1) := by decide +kernel
theorem dL_acts_119 : decode cL_acts 119 = .ok (.goto 5, 3) := by decide +kernel
theorem dL_acts_122 : decode cL_acts 122 = .ok (.iload 8, 2) := by decide +kernel
theorem dL_acts_124 : decode cL_acts 124 = .ok (.istore 8, 2) := by decide +kernel
theorem dL_acts_126 : decode cL_acts 126 = .ok (.aload_n 1, 1) := by decide +kernel
theorem dL_acts_127 : decode cL_acts 127 = .ok (.bipush 7, 2) := by decide +kernel
theorem dL_acts_129 : decode cL_acts 129 = .ok (.iload 7, 2) := by decide +kernel
theorem dL_acts_131 : decode cL_acts 131 = .ok (.imul, 1) := by decide +kernel
theorem dL_acts_132 : decode cL_acts 132 = .ok (.iconst 2, 1) := by decide +kernel
theorem dL_acts_133 : decode cL_acts 133 = .ok (.iadd, 1) := by decide +kernel
theorem dL_acts_134 : decode cL_acts 134 = .ok (.iaload, 1) := by decide +kernel
theorem dL_acts_135 : decode cL_acts 135 = .ok (.istore 9, 2) := by decide +kernel
theorem dL_acts_137 : decode cL_acts 137 = .ok (.aload_n 1, 1) := by decide +kernel
theorem dL_acts_138 : decode cL_acts 138 = .ok (.bipush 7, 2) := by decide +kernel
theorem dL_acts_140 : decode cL_acts 140 = .ok (.iload 7, 2) := by decide +kernel
theorem dL_acts_142 : decode cL_acts 142 = .ok (.imul, 1) := by decide +kernel
theorem dL_acts_143 : decode cL_acts 143 = .ok (.iconst 2, 1) := by decide +kernel
theorem dL_acts_144 : decode cL_acts 144 = .ok (.iadd, 1) := by decide +kernel
theorem dL_acts_145 : decode cL_acts 145 = .ok (.iload 8, 2) := by decide +kernel
theorem dL_acts_147 : decode cL_acts 147 = .ok (.ifCond .ge 7, 3) := by decide +kernel
theorem dL_acts_150 : decode cL_acts 150 = .ok (.iconst 4, 1) := by decide +kernel
theorem dL_acts_151 : decode cL_acts 151 = .ok (.goto 5, 3) := by decide +kernel
theorem dL_acts_154 : decode cL_acts 154 = .ok (.iload 8, 2) := by decide +kernel
theorem dL_acts_156 : decode cL_acts 156 = .ok (.iastore, 1) := by decide +kernel
theorem dL_acts_157 : decode cL_acts 157 = .ok (.aload_n 0, 1) := by decide +kernel
theorem dL_acts_158 : decode cL_acts 158 = .ok (.iload 7, 2) := by decide +kernel
theorem dL_acts_160 : decode cL_acts 160 = .ok (.iload 8, 2) := by decide +kernel
theorem dL_acts_162 : decode cL_acts 162 = .ok (.invokevirtual 97, 3) := by decide +kernel
theorem dL_acts_165 : decode cL_acts 165 = .ok (.iload 9, 2) := by decide +kernel
theorem dL_acts_167 : decode cL_acts 167 = .ok (.aload_n 1, 1) := by decide +kernel
theorem dL_acts_168 : decode cL_acts 168 = .ok (.bipush 7, 2) := by decide +kernel
theorem dL_acts_170 : decode cL_acts 170 = .ok (.iload 7, 2) := by decide +kernel
theorem dL_acts_172 : decode cL_acts 172 = .ok (.imul, 1) := by decide +kernel
theorem dL_acts_173 : decode cL_acts 173 = .ok (.iconst 2, 1) := by decide +kernel
theorem dL_acts_174 : decode cL_acts 174 = .ok (.iadd, 1) := by decide +kernel
theorem dL_acts_175 : decode cL_acts 175 = .ok (.iaload, 1) := by decide +kernel
theorem dL_acts_176 : decode cL_acts 176 = .ok (.if_icmp .ne 8, 3) := by decide +kernel
theorem dL_acts_179 : decode cL_acts 179 = .ok (.bipush (-5), 2) := by decide +kernel
theorem dL_acts_181 : decode cL_acts 181 = .ok (.goto 5, 3) := by decide +kernel
theorem dL_acts_184 : decode cL_acts 184 = .ok (.iload 9, 2) := by decide +kernel
theorem dL_acts_186 : decode cL_acts 186 = .ok (.if_icmp .ne 7, 3) := by decide +kernel
theorem dL_acts_189 : decode cL_acts 189 = .ok (.iconst 1, 1) := by decide +kernel
theorem dL_acts_190 : decode cL_acts 190 = .ok (.goto 4, 3) := by decide +kernel
theorem dL_acts_193 : decode cL_acts 193 = .ok (.iconst 0, 1) := by decide +kernel
theorem dL_acts_194 : decode cL_acts 194 = .ok (.ireturn, 1) := by decide +kernel
theorem dL_acts_195 : decode cL_acts 195 = .ok (.aload_n 2, 1) := by decide +kernel
theorem dL_acts_196 : decode cL_acts 196 = .ok (.iconst 4, 1) := by decide +kernel
theorem dL_acts_197 : decode cL_acts 197 = .ok (.iload 6, 2) := by decide +kernel
theorem dL_acts_199 : decode cL_acts 199 = .ok (.imul, 1) := by decide +kernel
theorem dL_acts_200 : decode cL_acts 200 = .ok (.iconst 3, 1) := by decide +kernel
theorem dL_acts_201 : decode cL_acts 201 = .ok (.iadd, 1) := by decide +kernel
theorem dL_acts_202 : decode cL_acts 202 = .ok (.iaload, 1) := by decide +kernel
theorem dL_acts_203 : decode cL_acts 203 = .ok (.istore 10, 2) := by decide +kernel
theorem dL_acts_205 : decode cL_acts 205 = .ok (.aload_n 2, 1) := by decide +kernel
theorem dL_acts_206 : decode cL_acts 206 = .ok (.iconst 4, 1) := by decide +kernel
theorem dL_acts_207 : decode cL_acts 207 = .ok (.iload 6, 2) := by decide +kernel
theorem dL_acts_209 : decode cL_acts 209 = .ok (.imul, 1) := by decide +kernel
theorem dL_acts_210 : decode cL_acts 210 = .ok (.iconst 3, 1) := by decide +kernel
theorem dL_acts_211 : decode cL_acts 211 = .ok (.iadd, 1) := by decide +kernel
theorem dL_acts_212 : decode cL_acts 212 = .ok (.iload 5, 2) := by decide +kernel
theorem dL_acts_214 : decode cL_acts 214 = .ok (.iconst 2, 1) := by decide +kernel
theorem dL_acts_215 : decode cL_acts 215 = .ok (.ishr, 1) := by decide +kernel
theorem dL_acts_216 : decode cL_acts 216 = .ok (.iconst 3, 1) := by decide +kernel
theorem dL_acts_217 : decode cL_acts 217 = .ok (.invokestatic 87, 3) := by decide +kernel
theorem dL_acts_220 : decode cL_acts 220 = .ok (.ifCond .le 7, 3) := by decide +kernel
theorem dL_acts_223 : decode cL_acts 223 = .ok (.iconst 1, 1) := by decide +kernel
theorem dL_acts_224 : decode cL_acts 224 = .ok (.goto 4, 3) := by decide +kernel
theorem dL_acts_227 : decode cL_acts 227 = .ok (.iconst 0, 1) := by decide +kernel
theorem dL_acts_228 : decode cL_acts 228 = .ok (.iastore, 1) := by decide +kernel
theorem dL_acts_229 : decode cL_acts 229 = .ok (.aload_n 0, 1) := by decide +kernel
theorem dL_acts_230 : decode cL_acts 230 = .ok (.iload 6, 2) := by decide +kernel
theorem dL_acts_232 : decode cL_acts 232 = .ok (.aload_n 2, 1) := by decide +kernel
theorem dL_acts_233 : decode cL_acts 233 = .ok (.iconst 4, 1) := by decide +kernel
theorem dL_acts_234 : decode cL_acts 234 = .ok (.iload 6, 2) := by decide +kernel
theorem dL_acts_236 : decode cL_acts 236 = .ok (.imul, 1) := by decide +kernel
theorem dL_acts_237 : decode cL_acts 237 = .ok (.iconst 3, 1) := by decide +kernel
theorem dL_acts_238 : decode cL_acts 238 = .ok (.iadd, 1) := by decide +kernel
theorem dL_acts_239 : decode cL_acts 239 = .ok (.iaload, 1) := by decide +kernel
theorem dL_acts_240 : decode cL_acts 240 = .ok (.iconst 1, 1) := by decide +kernel
theorem dL_acts_241 : decode cL_acts 241 = .ok (.if_icmp .ne 7, 3) := by decide +kernel
theorem dL_acts_244 : decode cL_acts 244 = .ok (.iconst 1, 1) := by decide +kernel
theorem dL_acts_245 : decode cL_acts 245 = .ok (.goto 4, 3) := by decide +kernel
theorem dL_acts_248 : decode cL_acts 248 = .ok (.iconst 0, 1) := by decide +kernel
theorem dL_acts_249 : decode cL_acts 249 = .ok (.invokevirtual 100, 3) := by decide +kernel
theorem dL_acts_252 : decode cL_acts 252 = .ok (.iload 10, 2) := by decide +kernel
theorem dL_acts_254 : decode cL_acts 254 = .ok (.aload_n 2, 1) := by decide +kernel
theorem dL_acts_255 : decode cL_acts 255 = .ok (.iconst 4, 1) := by decide +kernel
theorem dL_acts_256 : decode cL_acts 256 = .ok (.iload 6, 2) := by decide +kernel
theorem dL_acts_258 : decode cL_acts 258 = .ok (.imul, 1) := by decide +kernel
theorem dL_acts_259 : decode cL_acts 259 = .ok (.iconst 3, 1) := by decide +kernel
theorem dL_acts_260 : decode cL_acts 260 = .ok (.iadd, 1) := by decide +kernel
theorem dL_acts_261 : decode cL_acts 261 = .ok (.iaload, 1) := by decide +kernel
theorem dL_acts_262 : decode cL_acts 262 = .ok (.if_icmp .ne 8, 3) := by decide +kernel
theorem dL_acts_265 : decode cL_acts 265 = .ok (.bipush (-5), 2) := by decide +kernel
theorem dL_acts_267 : decode cL_acts 267 = .ok (.goto 16, 3) := by decide +kernel
theorem dL_acts_270 : decode cL_acts 270 = .ok (.aload_n 2, 1) := by decide +kernel
theorem dL_acts_271 : decode cL_acts 271 = .ok (.iconst 3, 1) := by decide +kernel
theorem dL_acts_272 : decode cL_acts 272 = .ok (.iaload, 1) := by decide +kernel
theorem dL_acts_273 : decode cL_acts 273 = .ok (.aload_n 2, 1) := by decide +kernel
theorem dL_acts_274 : decode cL_acts 274 = .ok (.bipush 7, 2) := by decide +kernel
theorem dL_acts_276 : decode cL_acts 276 = .ok (.iaload, 1) := by decide +kernel
theorem dL_acts_277 : decode cL_acts 277 = .ok (.iadd, 1) := by decide +kernel
theorem dL_acts_278 : decode cL_acts 278 = .ok (.aload_n 2, 1) := by decide +kernel
theorem dL_acts_279 : decode cL_acts 279 = .ok (.bipush 11, 2) := by decide +kernel
theorem dL_acts_281 : decode cL_acts 281 = .ok (.iaload, 1) := by decide +kernel
theorem dL_acts_282 : decode cL_acts 282 = .ok (.iadd, 1) := by decide +kernel
theorem dL_acts_283 : decode cL_acts 283 = .ok (.if_icmp .ne 7, 3) := by decide +kernel
theorem dL_acts_286 : decode cL_acts 286 = .ok (.iconst 1, 1) := by decide +kernel
theorem dL_acts_287 : decode cL_acts 287 = .ok (.goto 4, 3) := by decide +kernel
theorem dL_acts_290 : decode cL_acts 290 = .ok (.iconst 0, 1) := by decide +kernel
theorem dL_acts_291 : decode cL_acts 291 = .ok (.ireturn, 1) := by decide +kernel
theorem dL_acts_292 : decode cL_acts 292 = .ok (.iload 5, 2) := by decide +kernel
theorem dL_acts_294 : decode cL_acts 294 = .ok (.iconst 2, 1) := by decide +kernel
theorem dL_acts_295 : decode cL_acts 295 = .ok (.ishr, 1) := by decide +kernel
theorem dL_acts_296 : decode cL_acts 296 = .ok (.iconst 3, 1) := by decide +kernel
theorem dL_acts_297 : decode cL_acts 297 = .ok (.invokestatic 87, 3) := by decide +kernel
theorem dL_acts_300 : decode cL_acts 300 = .ok (.istore 11, 2) := by decide +kernel
theorem dL_acts_302 : decode cL_acts 302 = .ok (.aload_n 2, 1) := by decide +kernel
theorem dL_acts_303 : decode cL_acts 303 = .ok (.iconst 4, 1) := by decide +kernel
theorem dL_acts_304 : decode cL_acts 304 = .ok (.iload 6, 2) := by decide +kernel
theorem dL_acts_306 : decode cL_acts 306 = .ok (.imul, 1) := by decide +kernel
theorem dL_acts_307 : decode cL_acts 307 = .ok (.iload 11, 2) := by decide +kernel
theorem dL_acts_309 : decode cL_acts 309 = .ok (.iadd, 1) := by decide +kernel
theorem dL_acts_310 : decode cL_acts 310 = .ok (.iaload, 1) := by decide +kernel
theorem dL_acts_311 : decode cL_acts 311 = .ok (.istore 12, 2) := by decide +kernel
theorem dL_acts_313 : decode cL_acts 313 = .ok (.aload_n 2, 1) := by decide +kernel
theorem dL_acts_314 : decode cL_acts 314 = .ok (.iconst 4, 1) := by decide +kernel
theorem dL_acts_315 : decode cL_acts 315 = .ok (.iload 6, 2) := by decide +kernel
theorem dL_acts_317 : decode cL_acts 317 = .ok (.imul, 1) := by decide +kernel
theorem dL_acts_318 : decode cL_acts 318 = .ok (.iload 11, 2) := by decide +kernel
theorem dL_acts_320 : decode cL_acts 320 = .ok (.iadd, 1) := by decide +kernel
theorem dL_acts_321 : decode cL_acts 321 = .ok (.iload 11, 2) := by decide +kernel
theorem dL_acts_323 : decode cL_acts 323 = .ok (.ifCond .ne 14, 3) := by decide +kernel
theorem dL_acts_326 : decode cL_acts 326 = .ok (.iload 5, 2) := by decide +kernel
theorem dL_acts_328 : decode cL_acts 328 = .ok (.iconst 4, 1) := by decide +kernel
theorem dL_acts_329 : decode cL_acts 329 = .ok (.ishr, 1) := by decide +kernel
theorem dL_acts_330 : decode cL_acts 330 = .ok (.iconst 4, 1) := by decide +kernel
theorem dL_acts_331 : decode cL_acts 331 = .ok (.invokestatic 87, 3) := by decide +kernel
theorem dL_acts_334 : decode cL_acts 334 = .ok (.goto 31, 3) := by decide +kernel
theorem dL_acts_337 : decode cL_acts 337 = .ok (.iload 11, 2) := by decide +kernel
theorem dL_acts_339 : decode cL_acts 339 = .ok (.iconst 1, 1) := by decide +kernel
theorem dL_acts_340 : decode cL_acts 340 = .ok (.if_icmp .ne 16, 3) := by decide +kernel
theorem dL_acts_343 : decode cL_acts 343 = .ok (.iconst 1, 1) := by decide +kernel
theorem dL_acts_344 : decode cL_acts 344 = .ok (.iload 5, 2) := by decide +kernel
theorem dL_acts_346 : decode cL_acts 346 = .ok (.iconst 4, 1) := by decide +kernel
theorem dL_acts_347 : decode cL_acts 347 = .ok (.ishr, 1) := by decide +kernel
theorem dL_acts_348 : decode cL_acts 348 = .ok (.iconst 4, 1) := by decide +kernel
theorem dL_acts_349 : decode cL_acts 349 = .ok (.invokestatic 87, 3) := by decide +kernel
theorem dL_acts_352 : decode cL_acts 352 = .ok (.iadd, 1) := by decide +kernel
theorem dL_acts_353 : decode cL_acts 353 = .ok (.goto 12, 3) := by decide +kernel
theorem dL_acts_356 : decode cL_acts 356 = .ok (.iload 5, 2) := by decide +kernel
theorem dL_acts_358 : decode cL_acts 358 = .ok (.iconst 4, 1) := by decide +kernel
theorem dL_acts_359 : decode cL_acts 359 = .ok (.ishr, 1) := by decide +kernel
theorem dL_acts_360 : decode cL_acts 360 = .ok (.bipush 10, 2) := by decide +kernel
theorem dL_acts_362 : decode cL_acts 362 = .ok (.invokestatic 87, 3) := by decide +kernel
theorem dL_acts_365 : decode cL_acts 365 = .ok (.iastore, 1) := by decide +kernel
theorem dL_acts_366 : decode cL_acts 366 = .ok (.aload_n 0, 1) := by decide +kernel
theorem dL_acts_367 : decode cL_acts 367 = .ok (.iload 6, 2) := by decide +kernel
theorem dL_acts_369 : decode cL_acts 369 = .ok (.iload 11, 2) := by decide +kernel
theorem dL_acts_371 : decode cL_acts 371 = .ok (.aload_n 2, 1) := by decide +kernel
theorem dL_acts_372 : decode cL_acts 372 = .ok (.iconst 4, 1) := by decide +kernel
theorem dL_acts_373 : decode cL_acts 373 = .ok (.iload 6, 2) := by decide +kernel
theorem dL_acts_375 : decode cL_acts 375 = .ok (.imul, 1) := by decide +kernel
theorem dL_acts_376 : decode cL_acts 376 = .ok (.iload 11, 2) := by decide +kernel
theorem dL_acts_378 : decode cL_acts 378 = .ok (.iadd, 1) := by decide +kernel
theorem dL_acts_379 : decode cL_acts 379 = .ok (.iaload, 1) := by decide +kernel
theorem dL_acts_380 : decode cL_acts 380 = .ok (.invokevirtual 104, 3) := by decide +kernel
theorem dL_acts_383 : decode cL_acts 383 = .ok (.iload 12, 2) := by decide +kernel
theorem dL_acts_385 : decode cL_acts 385 = .ok (.aload_n 2, 1) := by decide +kernel
theorem dL_acts_386 : decode cL_acts 386 = .ok (.iconst 4, 1) := by decide +kernel
theorem dL_acts_387 : decode cL_acts 387 = .ok (.iload 6, 2) := by decide +kernel
theorem dL_acts_389 : decode cL_acts 389 = .ok (.imul, 1) := by decide +kernel
theorem dL_acts_390 : decode cL_acts 390 = .ok (.iload 11, 2) := by decide +kernel
theorem dL_acts_392 : decode cL_acts 392 = .ok (.iadd, 1) := by decide +kernel
theorem dL_acts_393 : decode cL_acts 393 = .ok (.iaload, 1) := by decide +kernel
theorem dL_acts_394 : decode cL_acts 394 = .ok (.if_icmp .ne 8, 3) := by decide +kernel
theorem dL_acts_397 : decode cL_acts 397 = .ok (.bipush (-5), 2) := by decide +kernel
theorem dL_acts_399 : decode cL_acts 399 = .ok (.goto 5, 3) := by decide +kernel
theorem dL_acts_402 : decode cL_acts 402 = .ok (.iload 12, 2) := by decide +kernel
theorem dL_acts_404 : decode cL_acts 404 = .ok (.if_icmp .ne 7, 3) := by decide +kernel
theorem dL_acts_407 : decode cL_acts 407 = .ok (.iconst 1, 1) := by decide +kernel
theorem dL_acts_408 : decode cL_acts 408 = .ok (.goto 4, 3) := by decide +kernel
theorem dL_acts_411 : decode cL_acts 411 = .ok (.iconst 0, 1) := by decide +kernel
theorem dL_acts_412 : decode cL_acts 412 = .ok (.ireturn, 1) := by decide +kernel
theorem dL_acts_413 : decode cL_acts 413 = .ok (.bipush 6, 2) := by decide +kernel
theorem dL_acts_415 : decode cL_acts 415 = .ok (.iload 5, 2) := by decide +kernel
theorem dL_acts_417 : decode cL_acts 417 = .ok (.iconst 2, 1) := by decide +kernel
theorem dL_acts_418 : decode cL_acts 418 = .ok (.invokestatic 87, 3) := by decide +kernel
theorem dL_acts_421 : decode cL_acts 421 = .ok (.iadd, 1) := by decide +kernel
theorem dL_acts_422 : decode cL_acts 422 = .ok (.istore 13, 2) := by decide +kernel
theorem dL_acts_424 : decode cL_acts 424 = .ok (.aload_n 3, 1) := by decide +kernel
theorem dL_acts_425 : decode cL_acts 425 = .ok (.iload 13, 2) := by decide +kernel
theorem dL_acts_427 : decode cL_acts 427 = .ok (.iaload, 1) := by decide +kernel
theorem dL_acts_428 : decode cL_acts 428 = .ok (.istore 14, 2) := by decide +kernel
theorem dL_acts_430 : decode cL_acts 430 = .ok (.aload_n 3, 1) := by decide +kernel
theorem dL_acts_431 : decode cL_acts 431 = .ok (.iload 13, 2) := by decide +kernel
theorem dL_acts_433 : decode cL_acts 433 = .ok (.iload 5, 2) := by decide +kernel
theorem dL_acts_435 : decode cL_acts 435 = .ok (.iconst 1, 1) := by decide +kernel
theorem dL_acts_436 : decode cL_acts 436 = .ok (.ishr, 1) := by decide +kernel
theorem dL_acts_437 : decode cL_acts 437 = .ok (.bipush 10, 2) := by decide +kernel
theorem dL_acts_439 : decode cL_acts 439 = .ok (.invokestatic 87, 3) := by decide +kernel
theorem dL_acts_442 : decode cL_acts 442 = .ok (.iastore, 1) := by decide +kernel
theorem dL_acts_443 : decode cL_acts 443 = .ok (.aload_n 0, 1) := by decide +kernel
theorem dL_acts_444 : decode cL_acts 444 = .ok (.iload 13, 2) := by decide +kernel
theorem dL_acts_446 : decode cL_acts 446 = .ok (.bipush 6, 2) := by decide +kernel
theorem dL_acts_448 : decode cL_acts 448 = .ok (.isub, 1) := by decide +kernel
theorem dL_acts_449 : decode cL_acts 449 = .ok (.aload_n 3, 1) := by decide +kernel
theorem dL_acts_450 : decode cL_acts 450 = .ok (.iload 13, 2) := by decide +kernel
theorem dL_acts_452 : decode cL_acts 452 = .ok (.iaload, 1) := by decide +kernel
theorem dL_acts_453 : decode cL_acts 453 = .ok (.invokevirtual 107, 3) := by decide +kernel
theorem dL_acts_456 : decode cL_acts 456 = .ok (.iload 14, 2) := by decide +kernel
theorem dL_acts_458 : decode cL_acts 458 = .ok (.aload_n 3, 1) := by decide +kernel
theorem dL_acts_459 : decode cL_acts 459 = .ok (.iload 13, 2) := by decide +kernel
theorem dL_acts_461 : decode cL_acts 461 = .ok (.iaload, 1) := by decide +kernel
theorem dL_acts_462 : decode cL_acts 462 = .ok (.if_icmp .ne 8, 3) := by decide +kernel
theorem dL_acts_465 : decode cL_acts 465 = .ok (.bipush (-5), 2) := by decide +kernel
theorem dL_acts_467 : decode cL_acts 467 = .ok (.goto 5, 3) := by decide +kernel
theorem dL_acts_470 : decode cL_acts 470 = .ok (.iload 14, 2) := by decide +kernel
theorem dL_acts_472 : decode cL_acts 472 = .ok (.if_icmp .ne 7, 3) := by decide +kernel
theorem dL_acts_475 : decode cL_acts 475 = .ok (.iconst 1, 1) := by decide +kernel
theorem dL_acts_476 : decode cL_acts 476 = .ok (.goto 4, 3) := by decide +kernel
theorem dL_acts_479 : decode cL_acts 479 = .ok (.iconst 0, 1) := by decide +kernel
theorem dL_acts_480 : decode cL_acts 480 = .ok (.ireturn, 1) := by decide +kernel
theorem dL_acts_481 : decode cL_acts 481 = .ok (.iconst 1, 1) := by decide +kernel
theorem dL_acts_482 : decode cL_acts 482 = .ok (.iload 5, 2) := by decide +kernel
theorem dL_acts_484 : decode cL_acts 484 = .ok (.iload 5, 2) := by decide +kernel
theorem dL_acts_486 : decode cL_acts 486 = .ok (.bipush 7, 2) := by decide +kernel
theorem dL_acts_488 : decode cL_acts 488 = .ok (.ishr, 1) := by decide +kernel
theorem dL_acts_489 : decode cL_acts 489 = .ok (.iconst 4, 1) := by decide +kernel
theorem dL_acts_490 : decode cL_acts 490 = .ok (.invokestatic 87, 3) := by decide +kernel
theorem dL_acts_493 : decode cL_acts 493 = .ok (.ifCond .ne 8, 3) := by decide +kernel
theorem dL_acts_496 : decode cL_acts 496 = .ok (.bipush 40, 2) := by decide +kernel
theorem dL_acts_498 : decode cL_acts 498 = .ok (.goto 4, 3) := by decide +kernel
theorem dL_acts_501 : decode cL_acts 501 = .ok (.iconst 4, 1) := by decide +kernel
theorem dL_acts_502 : decode cL_acts 502 = .ok (.invokestatic 87, 3) := by decide +kernel
theorem dL_acts_505 : decode cL_acts 505 = .ok (.iadd, 1) := by decide +kernel
theorem dL_acts_506 : decode cL_acts 506 = .ok (.istore 15, 2) := by decide +kernel
theorem dL_acts_508 : decode cL_acts 508 = .ok (.aload_n 3, 1) := by decide +kernel
theorem dL_acts_509 : decode cL_acts 509 = .ok (.iconst 2, 1) := by decide +kernel
theorem dL_acts_510 : decode cL_acts 510 = .ok (.iaload, 1) := by decide +kernel
theorem dL_acts_511 : decode cL_acts 511 = .ok (.istore 16, 2) := by decide +kernel
theorem dL_acts_513 : decode cL_acts 513 = .ok (.iconst 0, 1) := by decide +kernel
theorem dL_acts_514 : decode cL_acts 514 = .ok (.istore 17, 2) := by decide +kernel
theorem dL_acts_516 : decode cL_acts 516 = .ok (.iload 17, 2) := by decide +kernel
theorem dL_acts_518 : decode cL_acts 518 = .ok (.iload 15, 2) := by decide +kernel
theorem dL_acts_520 : decode cL_acts 520 = .ok (.if_icmp .ge 15, 3) := by decide +kernel
theorem dL_acts_523 : decode cL_acts 523 = .ok (.aload_n 1, 1) := by decide +kernel
theorem dL_acts_524 : decode cL_acts 524 = .ok (.aload_n 2, 1) := by decide +kernel
theorem dL_acts_525 : decode cL_acts 525 = .ok (.aload_n 3, 1) := by decide +kernel
theorem dL_acts_526 : decode cL_acts 526 = .ok (.invokestatic 80, 3) := by decide +kernel
theorem dL_acts_529 : decode cL_acts 529 = .ok (.iinc 17 1, 3) := by decide +kernel
theorem dL_acts_532 : decode cL_acts 532 = .ok (.goto (-16), 3) := by decide +kernel
theorem dL_acts_535 : decode cL_acts 535 = .ok (.aload_n 0, 1) := by decide +kernel
theorem dL_acts_536 : decode cL_acts 536 = .ok (.iload 15, 2) := by decide +kernel
theorem dL_acts_538 : decode cL_acts 538 = .ok (.invokevirtual 110, 3) := by decide +kernel
theorem dL_acts_541 : decode cL_acts 541 = .ok (.aload_n 3, 1) := by decide +kernel
theorem dL_acts_542 : decode cL_acts 542 = .ok (.iconst 2, 1) := by decide +kernel
theorem dL_acts_543 : decode cL_acts 543 = .ok (.iaload, 1) := by decide +kernel
theorem dL_acts_544 : decode cL_acts 544 = .ok (.iload 16, 2) := by decide +kernel
theorem dL_acts_546 : decode cL_acts 546 = .ok (.isub, 1) := by decide +kernel
theorem dL_acts_547 : decode cL_acts 547 = .ok (.if_icmp .ne 7, 3) := by decide +kernel
theorem dL_acts_550 : decode cL_acts 550 = .ok (.iconst 1, 1) := by decide +kernel
theorem dL_acts_551 : decode cL_acts 551 = .ok (.goto 4, 3) := by decide +kernel
theorem dL_acts_554 : decode cL_acts 554 = .ok (.iconst 0, 1) := by decide +kernel
theorem dL_acts_555 : decode cL_acts 555 = .ok (.ireturn, 1) := by decide +kernel
theorem dL_law_0 : decode cL_law 0 = .ok (.new 36, 3) := by decide +kernel
theorem dL_law_3 : decode cL_law 3 = .ok (.dup, 1) := by decide +kernel
theorem dL_law_4 : decode cL_law 4 = .ok (.invokespecial 113, 3) := by decide +kernel
theorem dL_law_7 : decode cL_law 7 = .ok (.astore_n 1, 1) := by decide +kernel
theorem dL_law_8 : decode cL_law 8 = .ok (.bipush 42, 2) := by decide +kernel
theorem dL_law_10 : decode cL_law 10 = .ok (.newarray .int, 2) := by decide +kernel
theorem dL_law_12 : decode cL_law 12 = .ok (.astore_n 2, 1) := by decide +kernel
theorem dL_law_13 : decode cL_law 13 = .ok (.bipush 12, 2) := by decide +kernel
theorem dL_law_15 : decode cL_law 15 = .ok (.newarray .int, 2) := by decide +kernel
theorem dL_law_17 : decode cL_law 17 = .ok (.astore_n 3, 1) := by decide +kernel
theorem dL_law_18 : decode cL_law 18 = .ok (.bipush 9, 2) := by decide +kernel
theorem dL_law_20 : decode cL_law 20 = .ok (.newarray .int, 2) := by decide +kernel
theorem dL_law_22 : decode cL_law 22 = .ok (.astore 4, 2) := by decide +kernel
theorem dL_law_24 : decode cL_law 24 = .ok (.aload 4, 2) := by decide +kernel
theorem dL_law_26 : decode cL_law 26 = .ok (.bipush 6, 2) := by decide +kernel
theorem dL_law_28 : decode cL_law 28 = .ok (.iconst 3, 1) := by decide +kernel
theorem dL_law_29 : decode cL_law 29 = .ok (.iastore, 1) := by decide +kernel
theorem dL_law_30 : decode cL_law 30 = .ok (.iconst 0, 1) := by decide +kernel
theorem dL_law_31 : decode cL_law 31 = .ok (.istore 5, 2) := by decide +kernel
theorem dL_law_33 : decode cL_law 33 = .ok (.iload 5, 2) := by decide +kernel
theorem dL_law_35 : decode cL_law 35 = .ok (.iconst 3, 1) := by decide +kernel
theorem dL_law_36 : decode cL_law 36 = .ok (.if_icmp .ge 35, 3) := by decide +kernel
theorem dL_law_39 : decode cL_law 39 = .ok (.aload_n 3, 1) := by decide +kernel
theorem dL_law_40 : decode cL_law 40 = .ok (.iconst 4, 1) := by decide +kernel
theorem dL_law_41 : decode cL_law 41 = .ok (.iload 5, 2) := by decide +kernel
theorem dL_law_43 : decode cL_law 43 = .ok (.imul, 1) := by decide +kernel
theorem dL_law_44 : decode cL_law 44 = .ok (.iload 5, 2) := by decide +kernel
theorem dL_law_46 : decode cL_law 46 = .ok (.iastore, 1) := by decide +kernel
theorem dL_law_47 : decode cL_law 47 = .ok (.aload_n 3, 1) := by decide +kernel
theorem dL_law_48 : decode cL_law 48 = .ok (.iconst 4, 1) := by decide +kernel
theorem dL_law_49 : decode cL_law 49 = .ok (.iload 5, 2) := by decide +kernel
theorem dL_law_51 : decode cL_law 51 = .ok (.imul, 1) := by decide +kernel
theorem dL_law_52 : decode cL_law 52 = .ok (.iconst 1, 1) := by decide +kernel
theorem dL_law_53 : decode cL_law 53 = .ok (.iadd, 1) := by decide +kernel
theorem dL_law_54 : decode cL_law 54 = .ok (.iconst 1, 1) := by decide +kernel
theorem dL_law_55 : decode cL_law 55 = .ok (.iastore, 1) := by decide +kernel
theorem dL_law_56 : decode cL_law 56 = .ok (.aload_n 3, 1) := by decide +kernel
theorem dL_law_57 : decode cL_law 57 = .ok (.iconst 4, 1) := by decide +kernel
theorem dL_law_58 : decode cL_law 58 = .ok (.iload 5, 2) := by decide +kernel
theorem dL_law_60 : decode cL_law 60 = .ok (.imul, 1) := by decide +kernel
theorem dL_law_61 : decode cL_law 61 = .ok (.iconst 3, 1) := by decide +kernel
theorem dL_law_62 : decode cL_law 62 = .ok (.iadd, 1) := by decide +kernel
theorem dL_law_63 : decode cL_law 63 = .ok (.iconst 1, 1) := by decide +kernel
theorem dL_law_64 : decode cL_law 64 = .ok (.iastore, 1) := by decide +kernel
theorem dL_law_65 : decode cL_law 65 = .ok (.iinc 5 1, 3) := by decide +kernel
theorem dL_law_68 : decode cL_law 68 = .ok (.goto (-35), 3) := by decide +kernel
theorem dL_law_71 : decode cL_law 71 = .ok (.aload_n 1, 1) := by decide +kernel
theorem dL_law_72 : decode cL_law 72 = .ok (.aload_n 2, 1) := by decide +kernel
theorem dL_law_73 : decode cL_law 73 = .ok (.aload_n 3, 1) := by decide +kernel
theorem dL_law_74 : decode cL_law 74 = .ok (.aload 4, 2) := by decide +kernel
theorem dL_law_76 : decode cL_law 76 = .ok (.invokestatic 114, 3) := by decide +kernel
theorem dL_law_79 : decode cL_law 79 = .ok (.ifCond .eq 38, 3) := by decide +kernel
theorem dL_law_82 : decode cL_law 82 = .ok (.aload_n 1, 1) := by decide +kernel
theorem dL_law_83 : decode cL_law 83 = .ok (.aload_n 2, 1) := by decide +kernel
theorem dL_law_84 : decode cL_law 84 = .ok (.aload_n 3, 1) := by decide +kernel
theorem dL_law_85 : decode cL_law 85 = .ok (.aload 4, 2) := by decide +kernel
theorem dL_law_87 : decode cL_law 87 = .ok (.invokestatic 118, 3) := by decide +kernel
theorem dL_law_90 : decode cL_law 90 = .ok (.ifCond .eq 27, 3) := by decide +kernel
theorem dL_law_93 : decode cL_law 93 = .ok (.aload_n 1, 1) := by decide +kernel
theorem dL_law_94 : decode cL_law 94 = .ok (.invokevirtual 72, 3) := by decide +kernel
theorem dL_law_97 : decode cL_law 97 = .ok (.bipush (-5), 2) := by decide +kernel
theorem dL_law_99 : decode cL_law 99 = .ok (.if_icmp .ne 18, 3) := by decide +kernel
theorem dL_law_102 : decode cL_law 102 = .ok (.aload_n 1, 1) := by decide +kernel
theorem dL_law_103 : decode cL_law 103 = .ok (.iconst 1, 1) := by decide +kernel
theorem dL_law_104 : decode cL_law 104 = .ok (.iconst 1, 1) := by decide +kernel
theorem dL_law_105 : decode cL_law 105 = .ok (.invokevirtual 84, 3) := by decide +kernel
theorem dL_law_108 : decode cL_law 108 = .ok (.bipush (-5), 2) := by decide +kernel
theorem dL_law_110 : decode cL_law 110 = .ok (.if_icmp .ne 7, 3) := by decide +kernel
theorem dL_law_113 : decode cL_law 113 = .ok (.iconst 1, 1) := by decide +kernel
theorem dL_law_114 : decode cL_law 114 = .ok (.goto 4, 3) := by decide +kernel
theorem dL_law_117 : decode cL_law 117 = .ok (.iconst 0, 1) := by decide +kernel
theorem dL_law_118 : decode cL_law 118 = .ok (.istore 5, 2) := by decide +kernel
theorem dL_law_120 : decode cL_law 120 = .ok (.iconst 0, 1) := by decide +kernel
theorem dL_law_121 : decode cL_law 121 = .ok (.istore 6, 2) := by decide +kernel
theorem dL_law_123 : decode cL_law 123 = .ok (.iload 6, 2) := by decide +kernel
theorem dL_law_125 : decode cL_law 125 = .ok (.bipush 36, 2) := by decide +kernel
theorem dL_law_127 : decode cL_law 127 = .ok (.if_icmp .ge 158, 3) := by decide +kernel
theorem dL_law_130 : decode cL_law 130 = .ok (.iload 5, 2) := by decide +kernel
theorem dL_law_132 : decode cL_law 132 = .ok (.ifCond .eq 153, 3) := by decide +kernel
theorem dL_law_135 : decode cL_law 135 = .ok (.aload_n 0, 1) := by decide +kernel
theorem dL_law_136 : decode cL_law 136 = .ok (.iload 6, 2) := by decide +kernel
theorem dL_law_138 : decode cL_law 138 = .ok (.invokestatic 121, 3) := by decide +kernel
theorem dL_law_141 : decode cL_law 141 = .ok (.istore 7, 2) := by decide +kernel
theorem dL_law_143 : decode cL_law 143 = .ok (.aload_n 1, 1) := by decide +kernel
theorem dL_law_144 : decode cL_law 144 = .ok (.aload_n 2, 1) := by decide +kernel
theorem dL_law_145 : decode cL_law 145 = .ok (.aload_n 3, 1) := by decide +kernel
theorem dL_law_146 : decode cL_law 146 = .ok (.aload 4, 2) := by decide +kernel
theorem dL_law_148 : decode cL_law 148 = .ok (.iload 6, 2) := by decide +kernel
theorem dL_law_150 : decode cL_law 150 = .ok (.iconst 4, 1) := by decide +kernel
theorem dL_law_151 : decode cL_law 151 = .ok (.if_icmp .ge 7, 3) := by decide +kernel
theorem dL_law_154 : decode cL_law 154 = .ok (.iconst 0, 1) := by decide +kernel
theorem dL_law_155 : decode cL_law 155 = .ok (.goto 13, 3) := by decide +kernel
theorem dL_law_158 : decode cL_law 158 = .ok (.iload 7, 2) := by decide +kernel
theorem dL_law_160 : decode cL_law 160 = .ok (.bipush 18, 2) := by decide +kernel
theorem dL_law_162 : decode cL_law 162 = .ok (.ishr, 1) := by decide +kernel
theorem dL_law_163 : decode cL_law 163 = .ok (.bipush 14, 2) := by decide +kernel
theorem dL_law_165 : decode cL_law 165 = .ok (.invokestatic 87, 3) := by decide +kernel
theorem dL_law_168 : decode cL_law 168 = .ok (.iload 7, 2) := by decide +kernel
theorem dL_law_170 : decode cL_law 170 = .ok (.invokestatic 125, 3) := by decide +kernel
theorem dL_law_173 : decode cL_law 173 = .ok (.ifCond .eq 103, 3) := by decide +kernel
theorem dL_law_176 : decode cL_law 176 = .ok (.aload_n 1, 1) := by decide +kernel
theorem dL_law_177 : decode cL_law 177 = .ok (.aload_n 2, 1) := by decide +kernel
theorem dL_law_178 : decode cL_law 178 = .ok (.aload_n 3, 1) := by decide +kernel
theorem dL_law_179 : decode cL_law 179 = .ok (.aload 4, 2) := by decide +kernel
theorem dL_law_181 : decode cL_law 181 = .ok (.invokestatic 114, 3) := by decide +kernel
theorem dL_law_184 : decode cL_law 184 = .ok (.ifCond .eq 92, 3) := by decide +kernel
theorem dL_law_187 : decode cL_law 187 = .ok (.aload_n 1, 1) := by decide +kernel
theorem dL_law_188 : decode cL_law 188 = .ok (.aload_n 2, 1) := by decide +kernel
theorem dL_law_189 : decode cL_law 189 = .ok (.aload_n 3, 1) := by decide +kernel
theorem dL_law_190 : decode cL_law 190 = .ok (.aload 4, 2) := by decide +kernel
theorem dL_law_192 : decode cL_law 192 = .ok (.invokestatic 118, 3) := by decide +kernel
theorem dL_law_195 : decode cL_law 195 = .ok (.ifCond .eq 81, 3) := by decide +kernel
theorem dL_law_198 : decode cL_law 198 = .ok (.aload_n 1, 1) := by decide +kernel
theorem dL_law_199 : decode cL_law 199 = .ok (.aload_n 2, 1) := by decide +kernel
theorem dL_law_200 : decode cL_law 200 = .ok (.aload_n 3, 1) := by decide +kernel
theorem dL_law_201 : decode cL_law 201 = .ok (.aload 4, 2) := by decide +kernel
theorem dL_law_203 : decode cL_law 203 = .ok (.iload 7, 2) := by decide +kernel
theorem dL_law_205 : decode cL_law 205 = .ok (.iconst 5, 1) := by decide +kernel
theorem dL_law_206 : decode cL_law 206 = .ok (.ishr, 1) := by decide +kernel
theorem dL_law_207 : decode cL_law 207 = .ok (.aload 4, 2) := by decide +kernel
theorem dL_law_209 : decode cL_law 209 = .ok (.bipush 8, 2) := by decide +kernel
theorem dL_law_211 : decode cL_law 211 = .ok (.iaload, 1) := by decide +kernel
theorem dL_law_212 : decode cL_law 212 = .ok (.invokestatic 87, 3) := by decide +kernel
theorem dL_law_215 : decode cL_law 215 = .ok (.iload 7, 2) := by decide +kernel
theorem dL_law_217 : decode cL_law 217 = .ok (.bipush 8, 2) := by decide +kernel
theorem dL_law_219 : decode cL_law 219 = .ok (.ishr, 1) := by decide +kernel
theorem dL_law_220 : decode cL_law 220 = .ok (.iconst 3, 1) := by decide +kernel
theorem dL_law_221 : decode cL_law 221 = .ok (.invokestatic 87, 3) := by decide +kernel
theorem dL_law_224 : decode cL_law 224 = .ok (.invokestatic 129, 3) := by decide +kernel
theorem dL_law_227 : decode cL_law 227 = .ok (.ifCond .eq 49, 3) := by decide +kernel
theorem dL_law_230 : decode cL_law 230 = .ok (.iload 6, 2) := by decide +kernel
theorem dL_law_232 : decode cL_law 232 = .ok (.iconst 3, 1) := by decide +kernel
theorem dL_law_233 : decode cL_law 233 = .ok (.irem, 1) := by decide +kernel
theorem dL_law_234 : decode cL_law 234 = .ok (.iconst 2, 1) := by decide +kernel
theorem dL_law_235 : decode cL_law 235 = .ok (.if_icmp .ne 37, 3) := by decide +kernel
theorem dL_law_238 : decode cL_law 238 = .ok (.aload_n 1, 1) := by decide +kernel
theorem dL_law_239 : decode cL_law 239 = .ok (.aload_n 2, 1) := by decide +kernel
theorem dL_law_240 : decode cL_law 240 = .ok (.aload_n 3, 1) := by decide +kernel
theorem dL_law_241 : decode cL_law 241 = .ok (.aload 4, 2) := by decide +kernel
theorem dL_law_243 : decode cL_law 243 = .ok (.invokestatic 132, 3) := by decide +kernel
theorem dL_law_246 : decode cL_law 246 = .ok (.ifCond .eq 30, 3) := by decide +kernel
theorem dL_law_249 : decode cL_law 249 = .ok (.aload_n 1, 1) := by decide +kernel
theorem dL_law_250 : decode cL_law 250 = .ok (.aload_n 2, 1) := by decide +kernel
theorem dL_law_251 : decode cL_law 251 = .ok (.aload_n 3, 1) := by decide +kernel
theorem dL_law_252 : decode cL_law 252 = .ok (.aload 4, 2) := by decide +kernel
theorem dL_law_254 : decode cL_law 254 = .ok (.iconst 1, 1) := by decide +kernel
theorem dL_law_255 : decode cL_law 255 = .ok (.iload 7, 2) := by decide +kernel
theorem dL_law_257 : decode cL_law 257 = .ok (.bipush 6, 2) := by decide +kernel
theorem dL_law_259 : decode cL_law 259 = .ok (.ishr, 1) := by decide +kernel
theorem dL_law_260 : decode cL_law 260 = .ok (.bipush 99, 2) := by decide +kernel
theorem dL_law_262 : decode cL_law 262 = .ok (.invokestatic 87, 3) := by decide +kernel
theorem dL_law_265 : decode cL_law 265 = .ok (.iadd, 1) := by decide +kernel
theorem dL_law_266 : decode cL_law 266 = .ok (.invokestatic 135, 3) := by decide +kernel
theorem dL_law_269 : decode cL_law 269 = .ok (.ifCond .eq 7, 3) := by decide +kernel
theorem dL_law_272 : decode cL_law 272 = .ok (.iconst 1, 1) := by decide +kernel
theorem dL_law_273 : decode cL_law 273 = .ok (.goto 4, 3) := by decide +kernel
theorem dL_law_276 : decode cL_law 276 = .ok (.iconst 0, 1) := by decide +kernel
theorem dL_law_277 : decode cL_law 277 = .ok (.istore 5, 2) := by decide +kernel
theorem dL_law_279 : decode cL_law 279 = .ok (.iinc 6 1, 3) := by decide +kernel
theorem dL_law_282 : decode cL_law 282 = .ok (.goto (-159), 3) := by decide +kernel
theorem dL_law_285 : decode cL_law 285 = .ok (.iload 5, 2) := by decide +kernel
theorem dL_law_287 : decode cL_law 287 = .ok (.ireturn, 1) := by decide +kernel
end
section
/-! ===== 03: the plan of the objects, in the order of their making (object 0 is the script) ===== -/
def sh_ty (c f : Nat) : FieldType := match c with
  | 0 => tyX0 f
  | 1 => tyX1 f
  | 2 => tyX2 f
  | 3 => tyX3 f
  | 4 => tyX4 f
  | 5 => tyX5 f
  | 6 => tyX6 f
  | _ => tyX7 f
def sh_KDl : List (Nat × Nat) := [(12, 0), (6, 9), (4, 5), (5, 12), (8, 6), (8, 6), (8, 6), (8, 6), (8, 6), (8, 6), (8, 6), (3, 4), (8, 3), (8, 3), (8, 3), (8, 3), (8, 2), (4, 5), (5, 12), (8, 6), (8, 6), (8, 6), (8, 6), (8, 6), (8, 6), (8, 6), (3, 4), (8, 3), (8, 3), (8, 3), (8, 3), (8, 2), (4, 5), (5, 12), (8, 6), (8, 6), (8, 6), (8, 6), (8, 6), (8, 6), (8, 6), (3, 4), (8, 3), (8, 3), (8, 3), (8, 3), (8, 2), (2, 3), (11, 4), (4, 5), (5, 12), (8, 6), (8, 6), (8, 6), (8, 6), (8, 6), (8, 6), (8, 6), (3, 4), (8, 3), (8, 3), (8, 3), (8, 3), (8, 2), (4, 5), (5, 12), (8, 6), (8, 6), (8, 6), (8, 6), (8, 6), (8, 6), (8, 6), (3, 4), (8, 3), (8, 3), (8, 3), (8, 3), (8, 2), (4, 5), (5, 12), (8, 6), (8, 6), (8, 6), (8, 6), (8, 6), (8, 6), (8, 6), (3, 4), (8, 3), (8, 3), (8, 3), (8, 3), (8, 2), (4, 5), (5, 12), (8, 6), (8, 6), (8, 6), (8, 6), (8, 6), (8, 6), (8, 6), (3, 4), (8, 3), (8, 3), (8, 3), (8, 3), (8, 2), (1, 7), (10, 60), (8, 20), (8, 20), (8, 20), (0, 5), (9, 100), (9, 100), (8, 100), (8, 100)]
def sh_KD (o : Nat) : Nat × Nat := sh_KDl.getD o (12, 0)
def sh_nest : List (String × Nat × MethodName × String) := [(RX6, 11, yX4_init, RX6), (RX4, 11, yX5_init, RX6), (RX4, 20, yX3_init, RX6), (RX2, 24, yX4_init, RX6), (RX6, 31, yX1_init, RX6), (RX6, 38, yX0_init, RX6), (RX4, 100, yX6_isLamp, RX6), (RX4, 106, yX6_opposite, RX6), (RX4, 126, yX6_cellsToEdge, RX6), (RX4, 110, yX6_distanceAlong, RX6), (RX4, 137, yX6_cellAlong, RX6), (RX0, 29, yX6_isCell, RX6), (RX0, 37, yX6_cellsToEdge, RX6), (RX0, 41, yX6_cellAlong, RX6), (RX5, 49, yX6_copyRow, RX6), (RX3, 24, yX6_copyRow, RX6), (RX4, 43, yX6_copyRow, RX6), (RX5, 72, yX6_cellAlong, RX6), (RX5, 76, yX6_cellsToEdge, RX6), (RX4, 143, yX6_isCell, RX6), (RX5, 53, yX6_isCell, RX6), (RX5, 64, yX6_replace, RX6), (RX3, 28, yX6_replace, RX6), (RX3, 36, yX6_isLamp, RX6)]
end
section
/-! ===== 03: the frame of this proof: whole numbers for ints, objects by their order of making, one memory for the whole system ===== -/
abbrev sh_V : Type := Int ⊕ Nat
abbrev sh_Mem : Type := Nat → Int → Int
abbrev sh_Ptr : Type := Nat → Nat → Option Nat
abbrev sh_St : Type := Nat × sh_Mem × sh_Ptr
abbrev sh_M : Type := MethodName × ByteArray × Nat × Option FieldType × (Nat × Nat) × (Nat × Nat)
def sh_rm (y : sh_M) : Room := { frames := y.2.2.2.2.1.1, cells := y.2.2.2.2.2.1, slots := y.2.2.2.2.2.2, locals := y.2.2.2.2.1.2 }
def sh_tr (ad : Nat → Nat) (v : sh_V) : Value := match v with
  | .inl z => .int (Int32.ofInt z)
  | .inr o => .ref (ad o)
def sh_ws : List Cond := lw_tbl.filter goodWord
def sh_wsy (y : sh_M) : List Cond := Cond.code y.1 y.2.1 y.2.2.1 y.2.2.2.1 :: sh_ws
def sh_isr (t : FieldType) : Bool := match t with
  | .object _ => true
  | .array _ => true
  | _ => false
def sh_et (k : Nat) : FieldType := match k with
  | 8 => .int
  | 9 => .boolean
  | 10 => .char
  | 12 => .int
  | _ => .object RX4
def sh_fs (ad : Nat → Nat) (I : sh_Mem) (P : sh_Ptr) (k ci N : Nat) : List Value := (List.range N).map (fun f => if sh_isr (sh_ty ci f) then va_rf ((P k f).map ad) else Value.int (Int32.ofInt (I k (f : Int))))
def sh_ia (I : sh_Mem) (k : Nat) : Nat → Int32 := fun j => Int32.ofInt (I k (j : Int))
/-- how long an array is; of the kind 12, an array of whole numbers of the law's own, the map of objects tells it -/
def sh_len (P : sh_Ptr) (k : Nat) (kd : Nat × Nat) : Nat := if kd.1 = 12 then (P k 0).getD 0 else kd.2
def sh_E (ad : Nat → Nat) (ac : Nat → ClassId) (I : sh_Mem) (P : sh_Ptr) (k : Nat) (kd : Nat × Nat) : va_E :=
  if kd.1 < 8 then .inr (kd.1, sh_fs ad I P k kd.1 kd.2)
  else .inl (ac k, sh_len P k kd, if kd.1 = 11 then .inr (.inr (.inr (.inr (fun j => (P k j).map ad)))) else .inl (sh_ia I k))
def sh_W (ad : Nat → Nat) (ac : Nat → ClassId) (σ : sh_St) : va_W := (List.range (σ.1 - 1)).map (fun k => (ad (k + 1), sh_E ad ac σ.2.1 σ.2.2 (k + 1) (sh_KD (k + 1))))
def sh_is (n o ci N : Nat) : Prop := o < n ∧ sh_KD o = (ci, N) ∧ 0 < o
def sh_u (I : sh_Mem) (o : Nat) (f v : Int) : sh_Mem := fun a b => if a = o ∧ b = f then v else I a b
def sh_uP (P : sh_Ptr) (o f q : Nat) : sh_Ptr := fun a b => if a = o ∧ b = f then some q else P a b
theorem sh_W_len {ad : Nat → Nat} {ac : Nat → ClassId} {σ : sh_St} : (sh_W ad ac σ).length = σ.1 - 1 := by simp [sh_W]
theorem sh_W_get {ad : Nat → Nat} {ac : Nat → ClassId} {σ : sh_St} {o ci N : Nat} (h : sh_is σ.1 o ci N) : (sh_W ad ac σ)[o - 1]? = some (ad o, sh_E ad ac σ.2.1 σ.2.2 o (ci, N)) := by
  obtain ⟨h1, h2, h3⟩ := h
  have e : o - 1 + 1 = o := by omega
  have hlt : o - 1 < σ.1 - 1 := by omega
  rw [sh_W, List.getElem?_map, List.getElem?_range hlt]
  simp only [Option.map_some, e, h2]
theorem sh_W_idx {ad : Nat → Nat} {ac : Nat → ClassId} {σ : sh_St} {k : Nat} {q : Nat × va_E} (h : (sh_W ad ac σ)[k]? = some q) : k + 1 < σ.1 ∧ q = (ad (k + 1), sh_E ad ac σ.2.1 σ.2.2 (k + 1) (sh_KD (k + 1))) := by
  have hk : k < (sh_W ad ac σ).length := (List.getElem?_eq_some_iff.mp h).1
  rw [sh_W_len] at hk
  rw [sh_W, List.getElem?_map, List.getElem?_range hk] at h
  exact ⟨by omega, (Option.some.inj h).symm⟩
theorem sh_mapset {β : Type} {n o : Nat} {g g' : Nat → β} {x : β} (h1 : ∀ j, j < n → j ≠ o → g' j = g j) (h2 : g' o = x) : ((List.range n).map g).set o x = (List.range n).map g' := by
  apply List.ext_getElem?
  intro j
  rw [List.getElem?_set]
  by_cases hj : j < n
  · by_cases hjo : o = j
    · subst hjo
      simp [hj, h2]
    · rw [if_neg hjo]
      simp [List.getElem?_map, List.getElem?_range hj, h1 j hj (fun e => hjo e.symm)]
  · by_cases hjo : o = j
    · subst hjo
      simp [hj]
    · rw [if_neg hjo]
      simp [hj]
theorem sh_E_obj {ad : Nat → Nat} {ac : Nat → ClassId} {I : sh_Mem} {P : sh_Ptr} {o ci N : Nat} (h : ci < 8) : sh_E ad ac I P o (ci, N) = .inr (ci, sh_fs ad I P o ci N) := by simp [sh_E, h]
theorem sh_E_arr {ad : Nat → Nat} {ac : Nat → ClassId} {I : sh_Mem} {P : sh_Ptr} {o ci N : Nat} (h : 8 ≤ ci) (h2 : ci < 11) : sh_E ad ac I P o (ci, N) = .inl (ac o, N, .inl (sh_ia I o)) := by
  have h3 : ¬ ci < 8 := by omega
  have h4 : ¬ ci = 11 := by omega
  have h5 : ¬ ci = 12 := by omega
  simp [sh_E, sh_len, h3, h4, h5]
theorem sh_E_dyn {ad : Nat → Nat} {ac : Nat → ClassId} {I : sh_Mem} {P : sh_Ptr} {o N M : Nat} (h : P o 0 = some M) : sh_E ad ac I P o (12, N) = .inl (ac o, M, .inl (sh_ia I o)) := by simp [sh_E, sh_len, h]
theorem sh_E_ref {ad : Nat → Nat} {ac : Nat → ClassId} {I : sh_Mem} {P : sh_Ptr} {o N : Nat} : sh_E ad ac I P o (11, N) = .inl (ac o, N, .inr (.inr (.inr (.inr (fun j => (P o j).map ad))))) := by simp [sh_E, sh_len]
/-- another object's cell doesn't feel a change -/
theorem sh_E_congr {ad : Nat → Nat} {ac : Nat → ClassId} {I I' : sh_Mem} {P P' : sh_Ptr} {k : Nat} {kd : Nat × Nat} (h1 : I' k = I k) (h2 : P' k = P k) : sh_E ad ac I' P' k kd = sh_E ad ac I P k kd := by
  have h3 : sh_ia I' k = sh_ia I k := by
    funext j
    simp only [sh_ia, h1]
  simp only [sh_E, sh_len, sh_fs, h1, h2, h3]
theorem sh_W_set {ad : Nat → Nat} {ac : Nat → ClassId} {n o : Nat} {I I' : sh_Mem} {P P' : sh_Ptr} {ci N : Nat} {x : va_E} (h : sh_is n o ci N) (h1 : ∀ k, k ≠ o → I' k = I k) (h2 : ∀ k, k ≠ o → P' k = P k) (h3 : sh_E ad ac I' P' o (ci, N) = x) : (sh_W ad ac (n, I, P)).set (o - 1) (ad o, x) = sh_W ad ac (n, I', P') := by
  obtain ⟨ha, hb, hc⟩ := h
  have e : o - 1 + 1 = o := by omega
  refine sh_mapset (fun j hj hjo => ?_) ?_
  · have hne : j + 1 ≠ o := by omega
    show (ad (j + 1), sh_E ad ac I' P' (j + 1) (sh_KD (j + 1))) = (ad (j + 1), sh_E ad ac I P (j + 1) (sh_KD (j + 1)))
    rw [sh_E_congr (h1 _ hne) (h2 _ hne)]
  · show (ad (o - 1 + 1), sh_E ad ac I' P' (o - 1 + 1) (sh_KD (o - 1 + 1))) = (ad o, x)
    rw [e, hb, h3]
theorem sh_fs_get {ad : Nat → Nat} {I : sh_Mem} {P : sh_Ptr} {k ci N f : Nat} (hf : f < N) : (sh_fs ad I P k ci N)[f]? = some (if sh_isr (sh_ty ci f) then va_rf ((P k f).map ad) else Value.int (Int32.ofInt (I k (f : Int)))) := by
  rw [sh_fs, List.getElem?_map, List.getElem?_range hf]
  rfl
theorem sh_fs_len {ad : Nat → Nat} {I : sh_Mem} {P : sh_Ptr} {k ci N : Nat} : (sh_fs ad I P k ci N).length = N := by simp [sh_fs]
theorem sh_fs_setI {ad : Nat → Nat} {I : sh_Mem} {P : sh_Ptr} {k ci N f : Nat} {v : Int} (hi : sh_isr (sh_ty ci f) = false) : (sh_fs ad I P k ci N).set f (.int (Int32.ofInt v)) = sh_fs ad (sh_u I k (f : Int) v) P k ci N := by
  refine sh_mapset (fun j hj hjo => ?_) ?_
  · have hne : ¬ (j : Int) = (f : Int) := by omega
    simp [sh_u, hne]
  · simp [sh_u, hi]
theorem sh_fs_setP {ad : Nat → Nat} {I : sh_Mem} {P : sh_Ptr} {k ci N f q : Nat} (hi : sh_isr (sh_ty ci f) = true) : (sh_fs ad I P k ci N).set f (.ref (ad q)) = sh_fs ad I (sh_uP P k f q) k ci N := by
  refine sh_mapset (fun j hj hjo => ?_) ?_
  · simp [sh_uP, hjo]
  · simp [sh_uP, hi, va_rf]
theorem sh_u_ne {I : sh_Mem} {o : Nat} {f v : Int} {k : Nat} (h : k ≠ o) : sh_u I o f v k = I k := by
  funext b
  simp [sh_u, h]
theorem sh_uP_ne {P : sh_Ptr} {o f q k : Nat} (h : k ≠ o) : sh_uP P o f q k = P k := by
  funext b
  simp [sh_uP, h]
theorem sh_ia_set {I : sh_Mem} {o : Nat} {i v : Int} {w : Int32} (h0 : 0 ≤ i) (hw : w = Int32.ofInt v) : upd (sh_ia I o) i.toNat w = sh_ia (sh_u I o i v) o := by
  funext j
  simp only [upd, sh_ia, sh_u]
  by_cases h : j = i.toNat
  · subst h
    rw [if_pos rfl, if_pos ⟨trivial, by omega⟩, hw]
  · rw [if_neg h, if_neg]
    intro q
    exact h (by omega)
/-! what is known of classes, arrays, links through nest mates -/
def sh_K (D : va_G) (ac : Nat → ClassId) (n : Nat) (U : State) : Prop :=
  (∀ (c : Nat) (q : vw_C), vwCl[c]? = some q → u_Kn U q.1 q.2.1 q.2.2 (D.1 c) (D.2 c)) ∧
  (∀ o ci N, sh_is n o ci N → 8 ≤ ci → ci < 13 → ArrOfT U (ac o) (sh_et ci) ∧ va_RA U (ac o) (sh_et ci)) ∧
  (∀ q ∈ sh_nest, va_Nw (.methodLinkNest q.1 q.2.1 q.2.2.1 q.2.2.2) U) ∧ va_AO RX4 U
theorem sh_K.moved {D : va_G} {ac : Nat → ClassId} {n : Nat} {s U : State} (hW : s.WarmedH U.vm) (h : sh_K D ac n s) : sh_K D ac n U :=
  ⟨fun c q hq => u_Kn_moved hW.alike (h.1 c q hq), fun o ci N a b c => ⟨arrOfT_moved hW.alike (h.2.1 o ci N a b c).1, (h.2.1 o ci N a b c).2.moved hW.alike⟩, fun q hq => va_Nw.warmM hW (h.2.2.1 q hq), h.2.2.2.moved hW.alike⟩
theorem sh_K.one {D : va_G} {ac : Nat → ClassId} {n o ci N : Nat} {U : State} (h : sh_K D ac n U) (ho : sh_is n o ci N) (h8 : 8 ≤ ci) (h12 : ci < 13) : va_K D vwCl [(ac o, sh_et ci)] U := by
  refine ⟨h.1, fun k q hk => ?_⟩
  have hz : k < 1 := (List.getElem?_eq_some_iff.mp hk).1
  rw [show k = 0 by omega] at hk
  cases hk
  exact h.2.1 o ci N ho h8 h12
theorem sh_K.none {D : va_G} {ac : Nat → ClassId} {n : Nat} {U : State} (h : sh_K D ac n U) : va_K D vwCl [] U := ⟨h.1, fun k q hk => by simp at hk⟩
def sh_X (y : sh_M) (p : Program) (R : Room) (s : State) (m : MethodId) (args : Array Value) (meth : Method) (c : Code) : Prop :=
  p.tables.exec = Jvm.exec ∧ c.code = y.2.1 ∧ c.maxLocals = y.2.2.1 ∧ s.vm.findClass y.1.cls = some m.cls ∧ (∀ w ∈ sh_ws, w.before args s = true) ∧ (y.1.name = "<init>" → meth.name = "<init>") ∧ R = sh_rm y
def sh_R (D : va_G) (ad : Nat → Nat) (ac : Nat → ClassId) (σ : sh_St) (A : Nat → Prop) (s : State) (H0 H : Heap) (locs : List Loc) : Prop :=
  sh_K D ac σ.1 s ∧ va_P D vwCl (sh_W ad ac σ) H ∧ va_D A (sh_W ad ac σ) ∧ va_S A H0 H locs ∧ va_X (ad 0) (σ.2.1 0 0).toNat (fun j => Int32.ofInt (σ.2.1 0 ((j : Int) + 1))) s H0 ∧ ad 0 < H0.size ∧ ¬ A (ad 0) ∧ (∀ o f q, σ.2.2 o f = some q → q < σ.1) ∧ 0 < σ.1
def sh_L (ad : Nat → Nat) (la : Array Slot) (n : Nat) (ls : List (Option sh_V)) : Prop := la.size = n ∧ lv_wf la ∧ ∀ (i : Nat) (v : sh_V), ls[i]? = some (some v) → la[i]? = some (.val (sh_tr ad v))
theorem sh_tr_cat (ad : Nat → Nat) (v : sh_V) : (sh_tr ad v).category = 1 := by cases v <;> rfl
/-- how a method ends -/
def sh_ret (y : sh_M) (pc : Nat) (r : Option Int) : Prop := match r with
  | none => decode y.2.1 pc = .ok (.return_, 1) ∧ y.2.2.2.1 = none
  | some z => decode y.2.1 pc = .ok (.ireturn, 1) ∧ ∃ ty, y.2.2.2.1 = some ty ∧ narrow ty (.int (Int32.ofInt z)) = .int (Int32.ofInt z)
/-- from this place the method comes to its end with an answer and a memory of which Q holds -/
def sh_O (y : sh_M) (pc : Nat) (ls : List (Option sh_V)) (st : List sh_V) (cn : Nat × Nat) (σ : sh_St) (Q : Option Int → sh_St → Prop) : Prop :=
  ∀ (p : Program) (l : Launch) (e : Env) (R : Room) (s : State) (m : MethodId) (args : Array Value) (below : List Frame) (meth : Method) (c : Code) (Z : State → Prop)
    (D : va_G) (A : Nat → Prop) (H0 : Heap) (ad : Nat → Nat) (ac : Nat → ClassId) (H : Heap) (locs : List Loc) (la : Array Slot),
    sh_X y p R s m args meth c → (∀ q, H0.size ≤ q → A q) → sh_R D ad ac σ A s H0 H locs → sh_L ad la y.2.2.1 ls → (cn.1 ≤ y.2.2.2.2.2.1 ∧ cn.2 ≤ y.2.2.2.2.2.2) →
    (∀ (r : Option Int) (σ' : sh_St) (ad' : Nat → Nat) (ac' : Nat → ClassId) (H' : Heap) (locs' : List Loc) (la' : Array Slot) (pc' : Nat), Q r σ' → sh_R D ad' ac' σ' A s H0 H' locs' →
      (y.2.2.2.2.2.1 = 0 → ad' = ad ∧ ac' = ac) → (∀ k, k < σ.1 → ad' k = ad k ∧ ac' k = ac k) → σ.1 ≤ σ'.1 → sh_ret y pc' r →
      W p l e R s m args below meth c H' locs' y.2.2.2.2.2.1 y.2.2.2.2.2.2 Z (F0 m pc' la' (r.map (fun z => Value.int (Int32.ofInt z))).toList)) →
    W p l e R s m args below meth c H locs cn.1 cn.2 Z (F0 m pc la (st.map (sh_tr ad)))
theorem sh_O.mono {y : sh_M} {pc : Nat} {ls : List (Option sh_V)} {st : List sh_V} {cn : Nat × Nat} {σ : sh_St} {Q Q' : Option Int → sh_St → Prop} (h : sh_O y pc ls st cn σ Q) (hq : ∀ r σ', Q r σ' → Q' r σ') : sh_O y pc ls st cn σ Q' := by
  intro p l e R s m args below meth c Z D A H0 ad ac H locs la hX hA hR hL hc hret
  exact h p l e R s m args below meth c Z D A H0 ad ac H locs la hX hA hR hL hc (fun r σ' ad' ac' H' locs' la' pc' hQ => hret r σ' ad' ac' H' locs' la' pc' (hq r σ' hQ))
theorem sh_O.locals {y : sh_M} {pc : Nat} {ls ls' : List (Option sh_V)} {st : List sh_V} {cn : Nat × Nat} {σ : sh_St} {Q : Option Int → sh_St → Prop} (h : sh_O y pc ls' st cn σ Q) (hl : ∀ (i : Nat) (v : sh_V), ls'[i]? = some (some v) → ls[i]? = some (some v)) : sh_O y pc ls st cn σ Q := by
  intro p l e R s m args below meth c Z D A H0 ad ac H locs la hX hA hR hL hc hret
  exact h p l e R s m args below meth c Z D A H0 ad ac H locs la hX hA hR ⟨hL.1, hL.2.1, fun i v hi => hL.2.2 i v (hl i v hi)⟩ hc hret
/-! instructions that touch neither heap nor locals -/
def sh_Bd (a : Int) : Prop := -2147483648 ≤ a ∧ a < 2147483648
theorem sh_ti {a : Int} (h : sh_Bd a) : (Int32.ofInt a).toInt = a := Int32.toInt_ofInt_of_le h.1 h.2
theorem sh_Bd0 : sh_Bd 0 := ⟨by decide, by decide⟩
theorem sh_eqI {a b : Int} (ha : sh_Bd a) (hb : sh_Bd b) : Int32.ofInt a = Int32.ofInt b ↔ a = b := by
  rw [← Int32.toInt_inj, sh_ti ha, sh_ti hb]
theorem sh_ltI {a b : Int} (ha : sh_Bd a) (hb : sh_Bd b) : Int32.ofInt a < Int32.ofInt b ↔ a < b := by
  rw [Int32.lt_iff_toInt_lt, sh_ti ha, sh_ti hb]
theorem sh_leI {a b : Int} (ha : sh_Bd a) (hb : sh_Bd b) : Int32.ofInt a ≤ Int32.ofInt b ↔ a ≤ b := by
  rw [Int32.le_iff_toInt_le, sh_ti ha, sh_ti hb]
theorem sh_nz {b : Int} (h1 : 0 < b) (h2 : b < 2147483648) : ¬ Int32.ofInt b = 0 := by
  intro h
  have := (sh_eqI (a := b) (b := 0) ⟨by omega, h2⟩ sh_Bd0).mp h
  omega
theorem sh_div {a b : Int} (ha : 0 ≤ a) (ha2 : a < 2147483648) (hb : 0 < b) (hb2 : b < 2147483648) : Int32.ofInt a / Int32.ofInt b = Int32.ofInt (a / b) := by
  have h1 : (Int32.ofInt a).toInt = a := sh_ti ⟨by omega, ha2⟩
  have h2 : (Int32.ofInt b).toInt = b := sh_ti ⟨by omega, hb2⟩
  have h3 : 0 ≤ a / b := Int.ediv_nonneg ha (by omega)
  have h4 : a / b ≤ a := Int.ediv_le_self b ha
  apply Int32.toInt_inj.mp
  have hne : Int32.ofInt b ≠ -1 := by
    intro h
    have h9 : (Int32.ofInt b).toInt = -1 := by rw [h]; decide
    omega
  rw [Int32.toInt_div_of_ne_right _ _ hne, h1, h2, sh_ti ⟨by omega, by omega⟩, Int.tdiv_eq_ediv_of_nonneg ha]
theorem sh_mod {a b : Int} (ha : 0 ≤ a) (ha2 : a < 2147483648) (hb : 0 < b) (hb2 : b < 2147483648) : Int32.ofInt a - Int32.ofInt a / Int32.ofInt b * Int32.ofInt b = Int32.ofInt (a % b) := by
  rw [sh_div ha ha2 hb hb2, ← Int32.ofInt_mul, ← Int32.ofInt_sub]
  congr 1
  have := Int.emod_add_mul_ediv a b
  rw [Int.mul_comm] 
  omega
theorem sh_emod31 (x : BitVec 32) : ((x &&& 31#32).toNat : Int) = x.toInt % 32 := by
  have h : (x &&& 31#32).toNat = x.toNat % 32 := by
    rw [BitVec.toNat_and]
    exact Nat.and_two_pow_sub_one_eq_mod x.toNat 5
  rw [h, BitVec.toInt_eq_toNat_bmod, Int.bmod_def]
  split <;> omega
theorem sh_and31 {a : Int} : Int32.ofInt a &&& Int32.ofInt 31 = Int32.ofInt (a % 32) := by
  apply Int32.toInt_inj.mp
  rw [sh_ti ⟨by omega, by omega⟩]
  have e1 : (Int32.ofInt a &&& Int32.ofInt 31).toBitVec = BitVec.ofInt 32 a &&& 31#32 := by
    rw [Int32.toBitVec_and, Int32.toBitVec_ofInt]
    rfl
  have e2 := sh_emod31 (BitVec.ofInt 32 a)
  show (Int32.ofInt a &&& Int32.ofInt 31).toBitVec.toInt = a % 32
  rw [e1, BitVec.toInt_eq_toNat_of_lt, e2, BitVec.toInt_ofInt, Int.bmod_def]
  · split <;> omega
  · have : (BitVec.ofInt 32 a &&& 31#32).toNat ≤ 31 := by
      rw [BitVec.toNat_and]
      exact Nat.and_le_right
    omega
theorem sh_i2cV (a : Int) : ((Int32.ofInt a).toUInt32 % 65536).toInt32 = Int32.ofInt (a % 65536) := by
  apply Int32.toInt_inj.mp
  rw [sh_ti ⟨by omega, by omega⟩]
  have e1 : (((Int32.ofInt a).toUInt32 % 65536).toInt32).toBitVec = BitVec.ofInt 32 a % 65536#32 := by
    rfl
  show (((Int32.ofInt a).toUInt32 % 65536).toInt32).toBitVec.toInt = a % 65536
  have e2 : (BitVec.ofInt 32 a % 65536#32).toNat = (a % 4294967296).toNat % 65536 := by
    rw [BitVec.toNat_umod, BitVec.toNat_ofInt]
    rfl
  rw [e1, BitVec.toInt_eq_toNat_of_lt, e2]
  · omega
  · rw [e2]
    omega
theorem sh_z : (0 : Int32) = Int32.ofInt 0 := by decide
theorem sh_eq {a b : Int} (ha : sh_Bd a) (hb : sh_Bd b) : (Int32.ofInt a = Int32.ofInt b → a = b) ∧ (¬ Int32.ofInt a = Int32.ofInt b → ¬ a = b) := by
  simp only [sh_eqI ha hb]
  exact ⟨id, id⟩
theorem sh_eq0 {a : Int} (ha : sh_Bd a) : (Int32.ofInt a = (0 : Int32) → a = 0) ∧ (¬ Int32.ofInt a = (0 : Int32) → ¬ a = 0) := by
  rw [sh_z]
  exact sh_eq ha sh_Bd0
theorem sh_ne {a b : Int} (ha : sh_Bd a) (hb : sh_Bd b) : (¬ Int32.ofInt a = Int32.ofInt b → ¬ a = b) ∧ (Int32.ofInt a = Int32.ofInt b → a = b) := by
  simp only [sh_eqI ha hb]
  exact ⟨id, id⟩
theorem sh_ne0 {a : Int} (ha : sh_Bd a) : (¬ Int32.ofInt a = (0 : Int32) → ¬ a = 0) ∧ (Int32.ofInt a = (0 : Int32) → a = 0) := by
  rw [sh_z]
  exact sh_ne ha sh_Bd0
theorem sh_lt {a b : Int} (ha : sh_Bd a) (hb : sh_Bd b) : (Int32.ofInt a < Int32.ofInt b → a < b) ∧ (¬ Int32.ofInt a < Int32.ofInt b → b ≤ a) := by
  simp only [sh_ltI ha hb]
  exact ⟨id, fun q => Int.not_lt.mp q⟩
theorem sh_lt0 {a : Int} (ha : sh_Bd a) : (Int32.ofInt a < (0 : Int32) → a < 0) ∧ (¬ Int32.ofInt a < (0 : Int32) → 0 ≤ a) := by
  rw [sh_z]
  exact sh_lt ha sh_Bd0
theorem sh_ge {a b : Int} (ha : sh_Bd a) (hb : sh_Bd b) : (Int32.ofInt b ≤ Int32.ofInt a → b ≤ a) ∧ (¬ Int32.ofInt b ≤ Int32.ofInt a → a < b) := by
  simp only [sh_leI hb ha]
  exact ⟨id, fun q => Int.not_le.mp q⟩
theorem sh_ge0 {a : Int} (ha : sh_Bd a) : ((0 : Int32) ≤ Int32.ofInt a → 0 ≤ a) ∧ (¬ (0 : Int32) ≤ Int32.ofInt a → a < 0) := by
  rw [sh_z]
  exact sh_ge ha sh_Bd0
theorem sh_gt {a b : Int} (ha : sh_Bd a) (hb : sh_Bd b) : (Int32.ofInt b < Int32.ofInt a → b < a) ∧ (¬ Int32.ofInt b < Int32.ofInt a → a ≤ b) := by
  simp only [sh_ltI hb ha]
  exact ⟨id, fun q => Int.not_lt.mp q⟩
theorem sh_gt0 {a : Int} (ha : sh_Bd a) : ((0 : Int32) < Int32.ofInt a → 0 < a) ∧ (¬ (0 : Int32) < Int32.ofInt a → a ≤ 0) := by
  rw [sh_z]
  exact sh_gt ha sh_Bd0
theorem sh_le {a b : Int} (ha : sh_Bd a) (hb : sh_Bd b) : (Int32.ofInt a ≤ Int32.ofInt b → a ≤ b) ∧ (¬ Int32.ofInt a ≤ Int32.ofInt b → b < a) := by
  simp only [sh_leI ha hb]
  exact ⟨id, fun q => Int.not_le.mp q⟩
theorem sh_le0 {a : Int} (ha : sh_Bd a) : (Int32.ofInt a ≤ (0 : Int32) → a ≤ 0) ∧ (¬ Int32.ofInt a ≤ (0 : Int32) → 0 < a) := by
  rw [sh_z]
  exact sh_le ha sh_Bd0
theorem sh_iconst {y : sh_M} {pc : Nat} {ls : List (Option sh_V)} {st : List sh_V} {cn : Nat × Nat} {σ : sh_St} {Q : Option Int → sh_St → Prop} {n v : Int} (hd : decode y.2.1 pc = .ok (.iconst n, 1)) (hv : n = v) (h : sh_O y (pc + 1) ls (.inl v :: st) cn σ Q) : sh_O y pc ls st cn σ Q := by
  intro p l e R s m args below meth c Z D A H0 ad ac H locs la hX hA hR hL hc hret
  subst hv
  exact lv_iconst hX.1 hX.2.1 hd rfl (h p l e R s m args below meth c Z D A H0 ad ac H locs la hX hA hR hL hc hret)
theorem sh_bipush {y : sh_M} {pc : Nat} {ls : List (Option sh_V)} {st : List sh_V} {cn : Nat × Nat} {σ : sh_St} {Q : Option Int → sh_St → Prop} {n v : Int} (hd : decode y.2.1 pc = .ok (.bipush n, 2)) (hv : (Int8.ofInt n).toInt32 = Int32.ofInt v) (h : sh_O y (pc + 2) ls (.inl v :: st) cn σ Q) : sh_O y pc ls st cn σ Q := by
  intro p l e R s m args below meth c Z D A H0 ad ac H locs la hX hA hR hL hc hret
  exact lv_bipush hX.1 hX.2.1 hd hv (h p l e R s m args below meth c Z D A H0 ad ac H locs la hX hA hR hL hc hret)
theorem sh_sipush {y : sh_M} {pc : Nat} {ls : List (Option sh_V)} {st : List sh_V} {cn : Nat × Nat} {σ : sh_St} {Q : Option Int → sh_St → Prop} {n v : Int} (hd : decode y.2.1 pc = .ok (.sipush n, 3)) (hv : (Int16.ofInt n).toInt32 = Int32.ofInt v) (h : sh_O y (pc + 3) ls (.inl v :: st) cn σ Q) : sh_O y pc ls st cn σ Q := by
  intro p l e R s m args below meth c Z D A H0 ad ac H locs la hX hA hR hL hc hret
  exact lv_sipush hX.1 hX.2.1 hd hv (h p l e R s m args below meth c Z D A H0 ad ac H locs la hX hA hR hL hc hret)
theorem sh_ldc {y : sh_M} {pc : Nat} {ls : List (Option sh_V)} {st : List sh_V} {cn : Nat × Nat} {σ : sh_St} {Q : Option Int → sh_St → Prop} {i : Nat} {v : Int} (hd : decode y.2.1 pc = .ok (.ldc i, 2)) (hw : Cond.constant y.1.cls i (Int32.ofInt v) ∈ sh_ws) (h : sh_O y (pc + 2) ls (.inl v :: st) cn σ Q) : sh_O y pc ls st cn σ Q := by
  intro p l e R s m args below meth c Z D A H0 ad ac H locs la hX hA hR hL hc hret
  exact lv_ldc hX.1 hX.2.1 hX.2.2.2.1 (hX.2.2.2.2.1 _ hw) hd (h p l e R s m args below meth c Z D A H0 ad ac H locs la hX hA hR hL hc hret)
theorem sh_iload_n {y : sh_M} {pc : Nat} {ls : List (Option sh_V)} {st : List sh_V} {cn : Nat × Nat} {σ : sh_St} {Q : Option Int → sh_St → Prop} {k : Fin 4} {i : Nat} {x : Int} (hd : decode y.2.1 pc = .ok (.iload_n k, 1)) (hi : (k : Nat) = i) (hl : ls[i]? = some (some (.inl x))) (h : sh_O y (pc + 1) ls (.inl x :: st) cn σ Q) : sh_O y pc ls st cn σ Q := by
  intro p l e R s m args below meth c Z D A H0 ad ac H locs la hX hA hR hL hc hret
  exact lv_iload_n hX.1 hX.2.1 hd hi (hL.2.2 i _ hl) (h p l e R s m args below meth c Z D A H0 ad ac H locs la hX hA hR hL hc hret)
theorem sh_iload {y : sh_M} {pc : Nat} {ls : List (Option sh_V)} {st : List sh_V} {cn : Nat × Nat} {σ : sh_St} {Q : Option Int → sh_St → Prop} {i : Nat} {x : Int} (hd : decode y.2.1 pc = .ok (.iload i, 2)) (hl : ls[i]? = some (some (.inl x))) (h : sh_O y (pc + 2) ls (.inl x :: st) cn σ Q) : sh_O y pc ls st cn σ Q := by
  intro p l e R s m args below meth c Z D A H0 ad ac H locs la hX hA hR hL hc hret
  exact lv_iload hX.1 hX.2.1 hd (hL.2.2 i _ hl) (h p l e R s m args below meth c Z D A H0 ad ac H locs la hX hA hR hL hc hret)
theorem sh_aload_n {y : sh_M} {pc : Nat} {ls : List (Option sh_V)} {st : List sh_V} {cn : Nat × Nat} {σ : sh_St} {Q : Option Int → sh_St → Prop} {k : Fin 4} {i x : Nat} (hd : decode y.2.1 pc = .ok (.aload_n k, 1)) (hi : (k : Nat) = i) (hl : ls[i]? = some (some (.inr x))) (h : sh_O y (pc + 1) ls (.inr x :: st) cn σ Q) : sh_O y pc ls st cn σ Q := by
  intro p l e R s m args below meth c Z D A H0 ad ac H locs la hX hA hR hL hc hret
  exact lv_aload_n hX.1 hX.2.1 hd hi (hL.2.2 i _ hl) (h p l e R s m args below meth c Z D A H0 ad ac H locs la hX hA hR hL hc hret)
theorem sh_aload {y : sh_M} {pc : Nat} {ls : List (Option sh_V)} {st : List sh_V} {cn : Nat × Nat} {σ : sh_St} {Q : Option Int → sh_St → Prop} {i x : Nat} (hd : decode y.2.1 pc = .ok (.aload i, 2)) (hl : ls[i]? = some (some (.inr x))) (h : sh_O y (pc + 2) ls (.inr x :: st) cn σ Q) : sh_O y pc ls st cn σ Q := by
  intro p l e R s m args below meth c Z D A H0 ad ac H locs la hX hA hR hL hc hret
  exact lv_aload hX.1 hX.2.1 hd (hL.2.2 i _ hl) (h p l e R s m args below meth c Z D A H0 ad ac H locs la hX hA hR hL hc hret)
theorem sh_iadd {y : sh_M} {pc : Nat} {ls : List (Option sh_V)} {st : List sh_V} {cn : Nat × Nat} {σ : sh_St} {Q : Option Int → sh_St → Prop} {a b : Int} (hd : decode y.2.1 pc = .ok (.iadd, 1)) (h : sh_O y (pc + 1) ls (.inl (a + b) :: st) cn σ Q) : sh_O y pc ls (.inl b :: .inl a :: st) cn σ Q := by
  intro p l e R s m args below meth c Z D A H0 ad ac H locs la hX hA hR hL hc hret
  refine lv_iadd hX.1 hX.2.1 hd ?_
  rw [← Int32.ofInt_add]
  exact h p l e R s m args below meth c Z D A H0 ad ac H locs la hX hA hR hL hc hret
theorem sh_isub {y : sh_M} {pc : Nat} {ls : List (Option sh_V)} {st : List sh_V} {cn : Nat × Nat} {σ : sh_St} {Q : Option Int → sh_St → Prop} {a b : Int} (hd : decode y.2.1 pc = .ok (.isub, 1)) (h : sh_O y (pc + 1) ls (.inl (a - b) :: st) cn σ Q) : sh_O y pc ls (.inl b :: .inl a :: st) cn σ Q := by
  intro p l e R s m args below meth c Z D A H0 ad ac H locs la hX hA hR hL hc hret
  refine lv_isub hX.1 hX.2.1 hd ?_
  rw [← Int32.ofInt_sub]
  exact h p l e R s m args below meth c Z D A H0 ad ac H locs la hX hA hR hL hc hret
theorem sh_imul {y : sh_M} {pc : Nat} {ls : List (Option sh_V)} {st : List sh_V} {cn : Nat × Nat} {σ : sh_St} {Q : Option Int → sh_St → Prop} {a b : Int} (hd : decode y.2.1 pc = .ok (.imul, 1)) (h : sh_O y (pc + 1) ls (.inl (a * b) :: st) cn σ Q) : sh_O y pc ls (.inl b :: .inl a :: st) cn σ Q := by
  intro p l e R s m args below meth c Z D A H0 ad ac H locs la hX hA hR hL hc hret
  refine lv_imul hX.1 hX.2.1 hd ?_
  rw [← Int32.ofInt_mul]
  exact h p l e R s m args below meth c Z D A H0 ad ac H locs la hX hA hR hL hc hret
theorem sh_ineg {y : sh_M} {pc : Nat} {ls : List (Option sh_V)} {st : List sh_V} {cn : Nat × Nat} {σ : sh_St} {Q : Option Int → sh_St → Prop} {a : Int} (hd : decode y.2.1 pc = .ok (.ineg, 1)) (h : sh_O y (pc + 1) ls (.inl (-a) :: st) cn σ Q) : sh_O y pc ls (.inl a :: st) cn σ Q := by
  intro p l e R s m args below meth c Z D A H0 ad ac H locs la hX hA hR hL hc hret
  refine lv_ineg hX.1 hX.2.1 hd ?_
  rw [← Int32.ofInt_neg]
  exact h p l e R s m args below meth c Z D A H0 ad ac H locs la hX hA hR hL hc hret
theorem sh_idiv {y : sh_M} {pc : Nat} {ls : List (Option sh_V)} {st : List sh_V} {cn : Nat × Nat} {σ : sh_St} {Q : Option Int → sh_St → Prop} {a b : Int} (hd : decode y.2.1 pc = .ok (.idiv, 1)) (ha : 0 ≤ a) (ha2 : a < 2147483648) (hb0 : 0 < b) (hb2 : b < 2147483648) (h : sh_O y (pc + 1) ls (.inl (a / b) :: st) cn σ Q) : sh_O y pc ls (.inl b :: .inl a :: st) cn σ Q := by
  intro p l e R s m args below meth c Z D A H0 ad ac H locs la hX hA hR hL hc hret
  refine lv_idiv hX.1 hX.2.1 hd (sh_nz hb0 hb2) ?_
  rw [sh_div ha ha2 hb0 hb2]
  exact h p l e R s m args below meth c Z D A H0 ad ac H locs la hX hA hR hL hc hret
theorem sh_irem {y : sh_M} {pc : Nat} {ls : List (Option sh_V)} {st : List sh_V} {cn : Nat × Nat} {σ : sh_St} {Q : Option Int → sh_St → Prop} {a b : Int} (hd : decode y.2.1 pc = .ok (.irem, 1)) (ha : 0 ≤ a) (ha2 : a < 2147483648) (hb0 : 0 < b) (hb2 : b < 2147483648) (h : sh_O y (pc + 1) ls (.inl (a % b) :: st) cn σ Q) : sh_O y pc ls (.inl b :: .inl a :: st) cn σ Q := by
  intro p l e R s m args below meth c Z D A H0 ad ac H locs la hX hA hR hL hc hret
  refine lv_irem hX.1 hX.2.1 hd (sh_nz hb0 hb2) ?_
  rw [sh_mod ha ha2 hb0 hb2]
  exact h p l e R s m args below meth c Z D A H0 ad ac H locs la hX hA hR hL hc hret
theorem sh_iand31 {y : sh_M} {pc : Nat} {ls : List (Option sh_V)} {st : List sh_V} {cn : Nat × Nat} {σ : sh_St} {Q : Option Int → sh_St → Prop} {a : Int} (hd : decode y.2.1 pc = .ok (.iand, 1)) (h : sh_O y (pc + 1) ls (.inl (a % 32) :: st) cn σ Q) : sh_O y pc ls (.inl 31 :: .inl a :: st) cn σ Q := by
  intro p l e R s m args below meth c Z D A H0 ad ac H locs la hX hA hR hL hc hret
  refine lv_iand hX.1 hX.2.1 hd ?_
  rw [sh_and31]
  exact h p l e R s m args below meth c Z D A H0 ad ac H locs la hX hA hR hL hc hret
theorem sh_i2c {y : sh_M} {pc : Nat} {ls : List (Option sh_V)} {st : List sh_V} {cn : Nat × Nat} {σ : sh_St} {Q : Option Int → sh_St → Prop} {a : Int} (hd : decode y.2.1 pc = .ok (.i2c, 1)) (h : sh_O y (pc + 1) ls (.inl (a % 65536) :: st) cn σ Q) : sh_O y pc ls (.inl a :: st) cn σ Q := by
  intro p l e R s m args below meth c Z D A H0 ad ac H locs la hX hA hR hL hc hret
  exact lv_i2c hX.1 hX.2.1 hd (sh_i2cV a) (h p l e R s m args below meth c Z D A H0 ad ac H locs la hX hA hR hL hc hret)
theorem sh_dup {y : sh_M} {pc : Nat} {ls : List (Option sh_V)} {st : List sh_V} {cn : Nat × Nat} {σ : sh_St} {Q : Option Int → sh_St → Prop} {v : sh_V} (hd : decode y.2.1 pc = .ok (.dup, 1)) (h : sh_O y (pc + 1) ls (v :: v :: st) cn σ Q) : sh_O y pc ls (v :: st) cn σ Q := by
  intro p l e R s m args below meth c Z D A H0 ad ac H locs la hX hA hR hL hc hret
  exact lv_dup hX.1 hX.2.1 hd (sh_tr_cat ad v) (h p l e R s m args below meth c Z D A H0 ad ac H locs la hX hA hR hL hc hret)
theorem sh_dup2 {y : sh_M} {pc : Nat} {ls : List (Option sh_V)} {st : List sh_V} {cn : Nat × Nat} {σ : sh_St} {Q : Option Int → sh_St → Prop} {v w : sh_V} (hd : decode y.2.1 pc = .ok (.dup2, 1)) (h : sh_O y (pc + 1) ls (v :: w :: v :: w :: st) cn σ Q) : sh_O y pc ls (v :: w :: st) cn σ Q := by
  intro p l e R s m args below meth c Z D A H0 ad ac H locs la hX hA hR hL hc hret
  exact lv_dup2_11 hX.1 hX.2.1 hd (sh_tr_cat ad v) (sh_tr_cat ad w) (h p l e R s m args below meth c Z D A H0 ad ac H locs la hX hA hR hL hc hret)
theorem sh_pop {y : sh_M} {pc : Nat} {ls : List (Option sh_V)} {st : List sh_V} {cn : Nat × Nat} {σ : sh_St} {Q : Option Int → sh_St → Prop} {v : sh_V} (hd : decode y.2.1 pc = .ok (.pop, 1)) (h : sh_O y (pc + 1) ls st cn σ Q) : sh_O y pc ls (v :: st) cn σ Q := by
  intro p l e R s m args below meth c Z D A H0 ad ac H locs la hX hA hR hL hc hret
  exact lv_pop hX.1 hX.2.1 hd (sh_tr_cat ad v) (h p l e R s m args below meth c Z D A H0 ad ac H locs la hX hA hR hL hc hret)
theorem sh_goto {y : sh_M} {pc : Nat} {ls : List (Option sh_V)} {st : List sh_V} {cn : Nat × Nat} {σ : sh_St} {Q : Option Int → sh_St → Prop} {off : Int} {tgt : Nat} (hd : decode y.2.1 pc = .ok (.goto off, 3)) (ht : (pc : Int) + off = (tgt : Int)) (h : sh_O y tgt ls st cn σ Q) : sh_O y pc ls st cn σ Q := by
  intro p l e R s m args below meth c Z D A H0 ad ac H locs la hX hA hR hL hc hret
  exact lv_goto hX.1 hX.2.1 hd ht (h p l e R s m args below meth c Z D A H0 ad ac H locs la hX hA hR hL hc hret)
theorem sh_ifnonnull {y : sh_M} {pc : Nat} {ls : List (Option sh_V)} {st : List sh_V} {cn : Nat × Nat} {σ : sh_St} {Q : Option Int → sh_St → Prop} {off : Int} {tgt x : Nat} (hd : decode y.2.1 pc = .ok (.ifnonnull off, 3)) (ht : (pc : Int) + off = (tgt : Int)) (h : sh_O y tgt ls st cn σ Q) : sh_O y pc ls (.inr x :: st) cn σ Q := by
  intro p l e R s m args below meth c Z D A H0 ad ac H locs la hX hA hR hL hc hret
  exact lv_ifnonnull hX.1 hX.2.1 hd ht (h p l e R s m args below meth c Z D A H0 ad ac H locs la hX hA hR hL hc hret)
theorem sh_icmp_eq {y : sh_M} {pc : Nat} {ls : List (Option sh_V)} {st : List sh_V} {cn : Nat × Nat} {σ : sh_St} {Q : Option Int → sh_St → Prop} {a b off : Int} {tgt : Nat} (hd : decode y.2.1 pc = .ok (.if_icmp .eq off, 3)) (ht : (pc : Int) + off = (tgt : Int)) (ha : sh_Bd a) (hb : sh_Bd b) (h1 : a = b → sh_O y tgt ls st cn σ Q) (h2 : ¬ a = b → sh_O y (pc + 3) ls st cn σ Q) : sh_O y pc ls (.inl b :: .inl a :: st) cn σ Q := by
  intro p l e R s m args below meth c Z D A H0 ad ac H locs la hX hA hR hL hc hret
  exact lv_icmp_eq hX.1 hX.2.1 hd ht (fun q => h1 ((sh_eq ha hb).1 q) p l e R s m args below meth c Z D A H0 ad ac H locs la hX hA hR hL hc hret) (fun q => h2 ((sh_eq ha hb).2 q) p l e R s m args below meth c Z D A H0 ad ac H locs la hX hA hR hL hc hret)
theorem sh_if_eq {y : sh_M} {pc : Nat} {ls : List (Option sh_V)} {st : List sh_V} {cn : Nat × Nat} {σ : sh_St} {Q : Option Int → sh_St → Prop} {a off : Int} {tgt : Nat} (hd : decode y.2.1 pc = .ok (.ifCond .eq off, 3)) (ht : (pc : Int) + off = (tgt : Int)) (ha : sh_Bd a) (h1 : a = 0 → sh_O y tgt ls st cn σ Q) (h2 : ¬ a = 0 → sh_O y (pc + 3) ls st cn σ Q) : sh_O y pc ls (.inl a :: st) cn σ Q := by
  intro p l e R s m args below meth c Z D A H0 ad ac H locs la hX hA hR hL hc hret
  exact lv_if_eq hX.1 hX.2.1 hd ht (fun q => h1 ((sh_eq0 ha).1 q) p l e R s m args below meth c Z D A H0 ad ac H locs la hX hA hR hL hc hret) (fun q => h2 ((sh_eq0 ha).2 q) p l e R s m args below meth c Z D A H0 ad ac H locs la hX hA hR hL hc hret)
theorem sh_icmp_ne {y : sh_M} {pc : Nat} {ls : List (Option sh_V)} {st : List sh_V} {cn : Nat × Nat} {σ : sh_St} {Q : Option Int → sh_St → Prop} {a b off : Int} {tgt : Nat} (hd : decode y.2.1 pc = .ok (.if_icmp .ne off, 3)) (ht : (pc : Int) + off = (tgt : Int)) (ha : sh_Bd a) (hb : sh_Bd b) (h1 : ¬ a = b → sh_O y tgt ls st cn σ Q) (h2 : a = b → sh_O y (pc + 3) ls st cn σ Q) : sh_O y pc ls (.inl b :: .inl a :: st) cn σ Q := by
  intro p l e R s m args below meth c Z D A H0 ad ac H locs la hX hA hR hL hc hret
  exact lv_icmp_ne hX.1 hX.2.1 hd ht (fun q => h1 ((sh_ne ha hb).1 q) p l e R s m args below meth c Z D A H0 ad ac H locs la hX hA hR hL hc hret) (fun q => h2 ((sh_ne ha hb).2 q) p l e R s m args below meth c Z D A H0 ad ac H locs la hX hA hR hL hc hret)
theorem sh_if_ne {y : sh_M} {pc : Nat} {ls : List (Option sh_V)} {st : List sh_V} {cn : Nat × Nat} {σ : sh_St} {Q : Option Int → sh_St → Prop} {a off : Int} {tgt : Nat} (hd : decode y.2.1 pc = .ok (.ifCond .ne off, 3)) (ht : (pc : Int) + off = (tgt : Int)) (ha : sh_Bd a) (h1 : ¬ a = 0 → sh_O y tgt ls st cn σ Q) (h2 : a = 0 → sh_O y (pc + 3) ls st cn σ Q) : sh_O y pc ls (.inl a :: st) cn σ Q := by
  intro p l e R s m args below meth c Z D A H0 ad ac H locs la hX hA hR hL hc hret
  exact lv_if_ne hX.1 hX.2.1 hd ht (fun q => h1 ((sh_ne0 ha).1 q) p l e R s m args below meth c Z D A H0 ad ac H locs la hX hA hR hL hc hret) (fun q => h2 ((sh_ne0 ha).2 q) p l e R s m args below meth c Z D A H0 ad ac H locs la hX hA hR hL hc hret)
theorem sh_icmp_lt {y : sh_M} {pc : Nat} {ls : List (Option sh_V)} {st : List sh_V} {cn : Nat × Nat} {σ : sh_St} {Q : Option Int → sh_St → Prop} {a b off : Int} {tgt : Nat} (hd : decode y.2.1 pc = .ok (.if_icmp .lt off, 3)) (ht : (pc : Int) + off = (tgt : Int)) (ha : sh_Bd a) (hb : sh_Bd b) (h1 : a < b → sh_O y tgt ls st cn σ Q) (h2 : b ≤ a → sh_O y (pc + 3) ls st cn σ Q) : sh_O y pc ls (.inl b :: .inl a :: st) cn σ Q := by
  intro p l e R s m args below meth c Z D A H0 ad ac H locs la hX hA hR hL hc hret
  exact lv_icmp_lt hX.1 hX.2.1 hd ht (fun q => h1 ((sh_lt ha hb).1 q) p l e R s m args below meth c Z D A H0 ad ac H locs la hX hA hR hL hc hret) (fun q => h2 ((sh_lt ha hb).2 q) p l e R s m args below meth c Z D A H0 ad ac H locs la hX hA hR hL hc hret)
theorem sh_if_lt {y : sh_M} {pc : Nat} {ls : List (Option sh_V)} {st : List sh_V} {cn : Nat × Nat} {σ : sh_St} {Q : Option Int → sh_St → Prop} {a off : Int} {tgt : Nat} (hd : decode y.2.1 pc = .ok (.ifCond .lt off, 3)) (ht : (pc : Int) + off = (tgt : Int)) (ha : sh_Bd a) (h1 : a < 0 → sh_O y tgt ls st cn σ Q) (h2 : 0 ≤ a → sh_O y (pc + 3) ls st cn σ Q) : sh_O y pc ls (.inl a :: st) cn σ Q := by
  intro p l e R s m args below meth c Z D A H0 ad ac H locs la hX hA hR hL hc hret
  exact lv_if_lt hX.1 hX.2.1 hd ht (fun q => h1 ((sh_lt0 ha).1 q) p l e R s m args below meth c Z D A H0 ad ac H locs la hX hA hR hL hc hret) (fun q => h2 ((sh_lt0 ha).2 q) p l e R s m args below meth c Z D A H0 ad ac H locs la hX hA hR hL hc hret)
theorem sh_icmp_ge {y : sh_M} {pc : Nat} {ls : List (Option sh_V)} {st : List sh_V} {cn : Nat × Nat} {σ : sh_St} {Q : Option Int → sh_St → Prop} {a b off : Int} {tgt : Nat} (hd : decode y.2.1 pc = .ok (.if_icmp .ge off, 3)) (ht : (pc : Int) + off = (tgt : Int)) (ha : sh_Bd a) (hb : sh_Bd b) (h1 : b ≤ a → sh_O y tgt ls st cn σ Q) (h2 : a < b → sh_O y (pc + 3) ls st cn σ Q) : sh_O y pc ls (.inl b :: .inl a :: st) cn σ Q := by
  intro p l e R s m args below meth c Z D A H0 ad ac H locs la hX hA hR hL hc hret
  exact lv_icmp_ge hX.1 hX.2.1 hd ht (fun q => h1 ((sh_ge ha hb).1 q) p l e R s m args below meth c Z D A H0 ad ac H locs la hX hA hR hL hc hret) (fun q => h2 ((sh_ge ha hb).2 q) p l e R s m args below meth c Z D A H0 ad ac H locs la hX hA hR hL hc hret)
theorem sh_if_ge {y : sh_M} {pc : Nat} {ls : List (Option sh_V)} {st : List sh_V} {cn : Nat × Nat} {σ : sh_St} {Q : Option Int → sh_St → Prop} {a off : Int} {tgt : Nat} (hd : decode y.2.1 pc = .ok (.ifCond .ge off, 3)) (ht : (pc : Int) + off = (tgt : Int)) (ha : sh_Bd a) (h1 : 0 ≤ a → sh_O y tgt ls st cn σ Q) (h2 : a < 0 → sh_O y (pc + 3) ls st cn σ Q) : sh_O y pc ls (.inl a :: st) cn σ Q := by
  intro p l e R s m args below meth c Z D A H0 ad ac H locs la hX hA hR hL hc hret
  exact lv_if_ge hX.1 hX.2.1 hd ht (fun q => h1 ((sh_ge0 ha).1 q) p l e R s m args below meth c Z D A H0 ad ac H locs la hX hA hR hL hc hret) (fun q => h2 ((sh_ge0 ha).2 q) p l e R s m args below meth c Z D A H0 ad ac H locs la hX hA hR hL hc hret)
theorem sh_icmp_gt {y : sh_M} {pc : Nat} {ls : List (Option sh_V)} {st : List sh_V} {cn : Nat × Nat} {σ : sh_St} {Q : Option Int → sh_St → Prop} {a b off : Int} {tgt : Nat} (hd : decode y.2.1 pc = .ok (.if_icmp .gt off, 3)) (ht : (pc : Int) + off = (tgt : Int)) (ha : sh_Bd a) (hb : sh_Bd b) (h1 : b < a → sh_O y tgt ls st cn σ Q) (h2 : a ≤ b → sh_O y (pc + 3) ls st cn σ Q) : sh_O y pc ls (.inl b :: .inl a :: st) cn σ Q := by
  intro p l e R s m args below meth c Z D A H0 ad ac H locs la hX hA hR hL hc hret
  exact lv_icmp_gt hX.1 hX.2.1 hd ht (fun q => h1 ((sh_gt ha hb).1 q) p l e R s m args below meth c Z D A H0 ad ac H locs la hX hA hR hL hc hret) (fun q => h2 ((sh_gt ha hb).2 q) p l e R s m args below meth c Z D A H0 ad ac H locs la hX hA hR hL hc hret)
theorem sh_if_gt {y : sh_M} {pc : Nat} {ls : List (Option sh_V)} {st : List sh_V} {cn : Nat × Nat} {σ : sh_St} {Q : Option Int → sh_St → Prop} {a off : Int} {tgt : Nat} (hd : decode y.2.1 pc = .ok (.ifCond .gt off, 3)) (ht : (pc : Int) + off = (tgt : Int)) (ha : sh_Bd a) (h1 : 0 < a → sh_O y tgt ls st cn σ Q) (h2 : a ≤ 0 → sh_O y (pc + 3) ls st cn σ Q) : sh_O y pc ls (.inl a :: st) cn σ Q := by
  intro p l e R s m args below meth c Z D A H0 ad ac H locs la hX hA hR hL hc hret
  exact lv_if_gt hX.1 hX.2.1 hd ht (fun q => h1 ((sh_gt0 ha).1 q) p l e R s m args below meth c Z D A H0 ad ac H locs la hX hA hR hL hc hret) (fun q => h2 ((sh_gt0 ha).2 q) p l e R s m args below meth c Z D A H0 ad ac H locs la hX hA hR hL hc hret)
theorem sh_icmp_le {y : sh_M} {pc : Nat} {ls : List (Option sh_V)} {st : List sh_V} {cn : Nat × Nat} {σ : sh_St} {Q : Option Int → sh_St → Prop} {a b off : Int} {tgt : Nat} (hd : decode y.2.1 pc = .ok (.if_icmp .le off, 3)) (ht : (pc : Int) + off = (tgt : Int)) (ha : sh_Bd a) (hb : sh_Bd b) (h1 : a ≤ b → sh_O y tgt ls st cn σ Q) (h2 : b < a → sh_O y (pc + 3) ls st cn σ Q) : sh_O y pc ls (.inl b :: .inl a :: st) cn σ Q := by
  intro p l e R s m args below meth c Z D A H0 ad ac H locs la hX hA hR hL hc hret
  exact lv_icmp_le hX.1 hX.2.1 hd ht (fun q => h1 ((sh_le ha hb).1 q) p l e R s m args below meth c Z D A H0 ad ac H locs la hX hA hR hL hc hret) (fun q => h2 ((sh_le ha hb).2 q) p l e R s m args below meth c Z D A H0 ad ac H locs la hX hA hR hL hc hret)
theorem sh_if_le {y : sh_M} {pc : Nat} {ls : List (Option sh_V)} {st : List sh_V} {cn : Nat × Nat} {σ : sh_St} {Q : Option Int → sh_St → Prop} {a off : Int} {tgt : Nat} (hd : decode y.2.1 pc = .ok (.ifCond .le off, 3)) (ht : (pc : Int) + off = (tgt : Int)) (ha : sh_Bd a) (h1 : a ≤ 0 → sh_O y tgt ls st cn σ Q) (h2 : 0 < a → sh_O y (pc + 3) ls st cn σ Q) : sh_O y pc ls (.inl a :: st) cn σ Q := by
  intro p l e R s m args below meth c Z D A H0 ad ac H locs la hX hA hR hL hc hret
  exact lv_if_le hX.1 hX.2.1 hd ht (fun q => h1 ((sh_le0 ha).1 q) p l e R s m args below meth c Z D A H0 ad ac H locs la hX hA hR hL hc hret) (fun q => h2 ((sh_le0 ha).2 q) p l e R s m args below meth c Z D A H0 ad ac H locs la hX hA hR hL hc hret)
/-! locals -/
def sh_lv (ad : Nat → Nat) (ls : List (Option sh_V)) : List (Nat × Value) := (List.range ls.length).filterMap (fun i => match ls[i]? with
  | some (some v) => some (i, sh_tr ad v)
  | _ => none)
theorem sh_lv_mem {ad : Nat → Nat} {ls : List (Option sh_V)} {q : Nat × Value} : q ∈ sh_lv ad ls ↔ ∃ v, ls[q.1]? = some (some v) ∧ q.2 = sh_tr ad v := by
  simp only [sh_lv, List.mem_filterMap, List.mem_range]
  constructor
  · rintro ⟨i, hi, h⟩
    split at h
    · next v hv =>
      cases h
      exact ⟨v, hv, rfl⟩
    · cases h
  · rintro ⟨v, hv, h⟩
    refine ⟨q.1, (List.getElem?_eq_some_iff.mp hv).1, ?_⟩
    rw [hv]
    simp [← h]
theorem sh_L.has {ad : Nat → Nat} {la : Array Slot} {n : Nat} {ls : List (Option sh_V)} (h : sh_L ad la n ls) : lv_has la n (sh_lv ad ls) := by
  refine ⟨h.1, h.2.1, fun q hq => ?_⟩
  obtain ⟨v, h1, h2⟩ := sh_lv_mem.mp hq
  rw [h2]
  exact h.2.2 q.1 v h1
theorem sh_L.set {ad : Nat → Nat} {la : Array Slot} {n i : Nat} {ls : List (Option sh_V)} {v : sh_V} (h : lv_has la n ((i, sh_tr ad v) :: (sh_lv ad ls).filter (fun q => !(q.1 == i) && !(q.1 + 1 == i && q.2.category == 2)))) : sh_L ad la n (ls.set i (some v)) := by
  refine ⟨h.1, h.2.1, fun j w hj => ?_⟩
  by_cases hji : i = j
  · subst hji
    rw [List.getElem?_set_self'] at hj
    have hv : v = w := by
      cases hq : ls[i]? with
      | none => rw [hq] at hj; cases hj
      | some z => rw [hq] at hj; simpa using hj
    rw [← hv]
    exact h.2.2 _ List.mem_cons_self
  · rw [List.getElem?_set_ne hji] at hj
    refine h.2.2 (j, sh_tr ad w) (List.mem_cons_of_mem _ (List.mem_filter.mpr ⟨sh_lv_mem.mpr ⟨w, hj, rfl⟩, ?_⟩))
    have hne : ¬ j = i := fun e => hji e.symm
    simp [hne, sh_tr_cat]
theorem sh_istore_n {y : sh_M} {pc : Nat} {ls : List (Option sh_V)} {st : List sh_V} {cn : Nat × Nat} {σ : sh_St} {Q : Option Int → sh_St → Prop} {k : Fin 4} {i : Nat} {x : Int} (hd : decode y.2.1 pc = .ok (.istore_n k, 1)) (hi : (k : Nat) = i) (hn : i < y.2.2.1) (h : sh_O y (pc + 1) (ls.set i (some (.inl x))) st cn σ Q) : sh_O y pc ls (.inl x :: st) cn σ Q := by
  intro p l e R s m args below meth c Z D A H0 ad ac H locs la hX hA hR hL hc hret
  exact lv_istore_n hX.1 hX.2.1 hd hi hL.has hn rfl (fun la' hl' => h p l e R s m args below meth c Z D A H0 ad ac H locs la' hX hA hR (sh_L.set (v := .inl x) hl') hc hret)
theorem sh_istore {y : sh_M} {pc : Nat} {ls : List (Option sh_V)} {st : List sh_V} {cn : Nat × Nat} {σ : sh_St} {Q : Option Int → sh_St → Prop} {i : Nat} {x : Int} (hd : decode y.2.1 pc = .ok (.istore i, 2)) (hn : i < y.2.2.1) (h : sh_O y (pc + 2) (ls.set i (some (.inl x))) st cn σ Q) : sh_O y pc ls (.inl x :: st) cn σ Q := by
  intro p l e R s m args below meth c Z D A H0 ad ac H locs la hX hA hR hL hc hret
  exact lv_istore hX.1 hX.2.1 hd hL.has hn rfl (fun la' hl' => h p l e R s m args below meth c Z D A H0 ad ac H locs la' hX hA hR (sh_L.set (v := .inl x) hl') hc hret)
theorem sh_astore_n {y : sh_M} {pc : Nat} {ls : List (Option sh_V)} {st : List sh_V} {cn : Nat × Nat} {σ : sh_St} {Q : Option Int → sh_St → Prop} {k : Fin 4} {i x : Nat} (hd : decode y.2.1 pc = .ok (.astore_n k, 1)) (hi : (k : Nat) = i) (hn : i < y.2.2.1) (h : sh_O y (pc + 1) (ls.set i (some (.inr x))) st cn σ Q) : sh_O y pc ls (.inr x :: st) cn σ Q := by
  intro p l e R s m args below meth c Z D A H0 ad ac H locs la hX hA hR hL hc hret
  exact lv_astore_n hX.1 hX.2.1 hd hi hL.has hn rfl (fun la' hl' => h p l e R s m args below meth c Z D A H0 ad ac H locs la' hX hA hR (sh_L.set (v := .inr x) hl') hc hret)
theorem sh_iinc {y : sh_M} {pc : Nat} {ls : List (Option sh_V)} {st : List sh_V} {cn : Nat × Nat} {σ : sh_St} {Q : Option Int → sh_St → Prop} {i : Nat} {n x : Int} (hd : decode y.2.1 pc = .ok (.iinc i n, 3)) (hl : ls[i]? = some (some (.inl x))) (hn : i < y.2.2.1) (h : sh_O y (pc + 3) (ls.set i (some (.inl (x + n)))) st cn σ Q) : sh_O y pc ls st cn σ Q := by
  intro p l e R s m args below meth c Z D A H0 ad ac H locs la hX hA hR hL hc hret
  obtain ⟨k, hk⟩ := List.mem_iff_getElem?.mp (sh_lv_mem.mpr ⟨.inl x, hl, rfl⟩ : ((i, sh_tr ad (.inl x)) : Nat × Value) ∈ sh_lv ad ls)
  exact lv_iinc hX.1 hX.2.1 hd hL.has hk (Int32.ofInt_add x n).symm hn rfl (fun la' hl' => h p l e R s m args below meth c Z D A H0 ad ac H locs la' hX hA hR (sh_L.set (v := .inl (x + n)) hl') hc hret)
/-! fields -/
def sh_cls (ci : Nat) (C : String) (T : u_T) (N : Nat) : Prop := vwCl[ci]? = some (C, T, N) ∧ (∀ w ∈ u_ws C T N, w ∈ sh_ws) ∧ (∀ k, k < N → parseFieldDescriptor (T k).2.2.1 = some (sh_ty ci k)) ∧ (∀ a, a < N → ∀ b, b < N → a ≠ b → (T a).2.1 ≠ (T b).2.1) ∧ ci < 8
def sh_FL (own : String) (idx ci f N : Nat) (fin : Bool) : Prop := ∃ (C : String) (T : u_T), sh_cls ci C T N ∧ f < N ∧ Cond.fieldLink own idx (T f).1 (T f).2.1 (T f).2.2.1 ∈ sh_ws ∧ (T f).2.2.2 = fin
theorem sh_getI {y : sh_M} {pc : Nat} {ls : List (Option sh_V)} {st : List sh_V} {cn : Nat × Nat} {σ : sh_St} {Q : Option Int → sh_St → Prop} {idx ci f N o : Nat} {fin : Bool} {g : Int} (hd : decode y.2.1 pc = .ok (.getfield idx, 3)) (hl : sh_FL y.1.cls idx ci f N fin) (hi : sh_isr (sh_ty ci f) = false) (hk : sh_is σ.1 o ci N) (hg : (f : Int) = g) (h : sh_O y (pc + 3) ls (.inl (σ.2.1 o g) :: st) cn σ Q) : sh_O y pc ls (.inr o :: st) cn σ Q := by
  intro p l e R s m args below meth c Z D A H0 ad ac H locs la hX hA hR hL hc hret
  obtain ⟨C, T, hC, hf, hw, hfin⟩ := hl
  obtain ⟨h1, h2, h3, h4, h5⟩ := hC
  subst hg
  have he := sh_W_get (ad := ad) (ac := ac) hk
  rw [sh_E_obj h5] at he
  have hv := sh_fs_get (ad := ad) (I := σ.2.1) (P := σ.2.2) (k := o) (ci := ci) hf
  rw [hi, if_neg (by decide)] at hv
  exact va_get hX.1 hX.2.1 hX.2.2.2.2.1 h2 hX.2.2.2.1 hR.1.none hR.2.1 (o - 1) he h1 f hf (hX.2.2.2.2.1 _ hw) (fun _ h9 => h9) hv hd (h p l e R s m args below meth c Z D A H0 ad ac H locs la hX hA hR hL hc hret)
theorem sh_getR {y : sh_M} {pc : Nat} {ls : List (Option sh_V)} {st : List sh_V} {cn : Nat × Nat} {σ : sh_St} {Q : Option Int → sh_St → Prop} {idx ci f N o q : Nat} {fin : Bool} (hd : decode y.2.1 pc = .ok (.getfield idx, 3)) (hl : sh_FL y.1.cls idx ci f N fin) (hi : sh_isr (sh_ty ci f) = true) (hk : sh_is σ.1 o ci N) (hq : σ.2.2 o f = some q) (h : sh_O y (pc + 3) ls (.inr q :: st) cn σ Q) : sh_O y pc ls (.inr o :: st) cn σ Q := by
  intro p l e R s m args below meth c Z D A H0 ad ac H locs la hX hA hR hL hc hret
  obtain ⟨C, T, hC, hf, hw, hfin⟩ := hl
  obtain ⟨h1, h2, h3, h4, h5⟩ := hC
  have he := sh_W_get (ad := ad) (ac := ac) hk
  rw [sh_E_obj h5] at he
  have hv := sh_fs_get (ad := ad) (I := σ.2.1) (P := σ.2.2) (k := o) (ci := ci) hf
  rw [hi, if_pos rfl, hq] at hv
  exact va_get hX.1 hX.2.1 hX.2.2.2.2.1 h2 hX.2.2.2.1 hR.1.none hR.2.1 (o - 1) he h1 f hf (hX.2.2.2.2.1 _ hw) (fun _ h9 => h9) hv hd (h p l e R s m args below meth c Z D A H0 ad ac H locs la hX hA hR hL hc hret)
theorem sh_R.putI {D : va_G} {ad : Nat → Nat} {ac : Nat → ClassId} {n o : Nat} {I : sh_Mem} {P : sh_Ptr} {A : Nat → Prop} {s : State} {H0 H H1 : Heap} {locs locs1 : List Loc} {f v : Int} (hR : sh_R D ad ac (n, I, P) A s H0 H locs) (ho : 0 < o) (hP : va_P D vwCl (sh_W ad ac (n, sh_u I o f v, P)) H1) (hD : va_D A (sh_W ad ac (n, sh_u I o f v, P))) (hS : va_S A H0 H1 locs1) : sh_R D ad ac (n, sh_u I o f v, P) A s H0 H1 locs1 := by
  obtain ⟨a, -, -, -, b, c, d, e, g⟩ := hR
  have h0 : sh_u I o f v 0 = I 0 := sh_u_ne (by omega)
  refine ⟨a, hP, hD, hS, ?_, c, d, e, g⟩
  show va_X (ad 0) (sh_u I o f v 0 0).toNat (fun j => Int32.ofInt (sh_u I o f v 0 ((j : Int) + 1))) s H0
  rw [h0]
  exact b
theorem sh_putI {y : sh_M} {pc : Nat} {ls : List (Option sh_V)} {st : List sh_V} {cn : Nat × Nat} {n : Nat} {I : sh_Mem} {P : sh_Ptr} {Q : Option Int → sh_St → Prop} {idx ci f N o : Nat} {g v : Int} (hd : decode y.2.1 pc = .ok (.putfield idx, 3)) (hl : sh_FL y.1.cls idx ci f N false) (hi : sh_isr (sh_ty ci f) = false) (hk : sh_is n o ci N) (hg : (f : Int) = g) (hn : narrow (sh_ty ci f) (.int (Int32.ofInt v)) = .int (Int32.ofInt v)) (hfit : fits (sh_ty ci f) (.int (Int32.ofInt v)) = true) (h : sh_O y (pc + 3) ls st cn (n, sh_u I o g v, P) Q) : sh_O y pc ls (.inl v :: .inr o :: st) cn (n, I, P) Q := by
  intro p l e R s m args below meth c Z D A H0 ad ac H locs la hX hA hR hL hc hret
  obtain ⟨C, T, hC, hf, hw, hfin⟩ := hl
  obtain ⟨h1, h2, h3, h4, h5⟩ := hC
  subst hg
  have he := sh_W_get (ad := ad) (ac := ac) (σ := (n, I, P)) hk
  rw [sh_E_obj h5] at he
  refine va_put hX.1 hX.2.1 hX.2.2.2.2.1 h2 (sh_ty ci) h3 h4 hX.2.2.2.1 hR.1.none hR.2.1 hR.2.2.1 hR.2.2.2.1 (o - 1) he h1 f hf (hX.2.2.2.2.1 _ hw) (fun _ h9 => h9) hfin (h3 f hf) hn hfit (by rw [sh_fs_len]; exact hf) hd (fun H1 locs1 hP1 hD1 hS1 => ?_)
  have e1 : (sh_W ad ac (n, I, P)).set (o - 1) (ad o, .inr (ci, (sh_fs ad I P o ci N).set f (.int (Int32.ofInt v)))) = sh_W ad ac (n, sh_u I o (f : Int) v, P) :=
    sh_W_set hk (fun k hk2 => sh_u_ne hk2) (fun _ _ => rfl) (by rw [sh_E_obj h5, sh_fs_setI hi])
  exact h p l e R s m args below meth c Z D A H0 ad ac H1 locs1 la hX hA (hR.putI hk.2.2 (by rw [← e1]; exact hP1) (by rw [← e1]; exact hD1) hS1) hL hc hret
theorem sh_putIF {y : sh_M} {pc : Nat} {ls : List (Option sh_V)} {st : List sh_V} {cn : Nat × Nat} {n : Nat} {I : sh_Mem} {P : sh_Ptr} {Q : Option Int → sh_St → Prop} {idx ci f N o : Nat} {g v : Int} (hd : decode y.2.1 pc = .ok (.putfield idx, 3)) (hl : sh_FL y.1.cls idx ci f N true) (hy : y.1.name = "<init>") (hown : ∀ (C : String) (T : u_T), vwCl[ci]? = some (C, T, N) → (T f).1 = y.1.cls) (hi : sh_isr (sh_ty ci f) = false) (hk : sh_is n o ci N) (hg : (f : Int) = g) (hn : narrow (sh_ty ci f) (.int (Int32.ofInt v)) = .int (Int32.ofInt v)) (hfit : fits (sh_ty ci f) (.int (Int32.ofInt v)) = true) (h : sh_O y (pc + 3) ls st cn (n, sh_u I o g v, P) Q) : sh_O y pc ls (.inl v :: .inr o :: st) cn (n, I, P) Q := by
  intro p l e R s m args below meth c Z D A H0 ad ac H locs la hX hA hR hL hc hret
  obtain ⟨C, T, hC, hf, hw, hfin⟩ := hl
  obtain ⟨h1, h2, h3, h4, h5⟩ := hC
  subst hg
  have he := sh_W_get (ad := ad) (ac := ac) (σ := (n, I, P)) hk
  rw [sh_E_obj h5] at he
  refine va_putF hX.1 hX.2.1 hX.2.2.2.2.1 h2 (sh_ty ci) h3 h4 hX.2.2.2.1 hR.1.none hR.2.1 hR.2.2.1 hR.2.2.2.1 (o - 1) he h1 f hf (hX.2.2.2.2.1 _ hw) (fun _ h9 => h9) hfin (hX.2.2.2.2.2.1 hy) (hown C T h1) (h3 f hf) hn hfit (by rw [sh_fs_len]; exact hf) hd (fun H1 locs1 hP1 hD1 hS1 => ?_)
  have e1 : (sh_W ad ac (n, I, P)).set (o - 1) (ad o, .inr (ci, (sh_fs ad I P o ci N).set f (.int (Int32.ofInt v)))) = sh_W ad ac (n, sh_u I o (f : Int) v, P) :=
    sh_W_set hk (fun k hk2 => sh_u_ne hk2) (fun _ _ => rfl) (by rw [sh_E_obj h5, sh_fs_setI hi])
  exact h p l e R s m args below meth c Z D A H0 ad ac H1 locs1 la hX hA (hR.putI hk.2.2 (by rw [← e1]; exact hP1) (by rw [← e1]; exact hD1) hS1) hL hc hret
theorem sh_putRF {y : sh_M} {pc : Nat} {ls : List (Option sh_V)} {st : List sh_V} {cn : Nat × Nat} {n : Nat} {I : sh_Mem} {P : sh_Ptr} {Q : Option Int → sh_St → Prop} {idx ci f N o q : Nat} (hd : decode y.2.1 pc = .ok (.putfield idx, 3)) (hl : sh_FL y.1.cls idx ci f N true) (hy : y.1.name = "<init>") (hown : ∀ (C : String) (T : u_T), vwCl[ci]? = some (C, T, N) → (T f).1 = y.1.cls) (hi : sh_isr (sh_ty ci f) = true) (hk : sh_is n o ci N) (hqn : q < n) (hn : ∀ a, narrow (sh_ty ci f) (.ref a) = .ref a) (hfit : ∀ a, fits (sh_ty ci f) (.ref a) = true) (h : sh_O y (pc + 3) ls st cn (n, I, sh_uP P o f q) Q) : sh_O y pc ls (.inr q :: .inr o :: st) cn (n, I, P) Q := by
  intro p l e R s m args below meth c Z D A H0 ad ac H locs la hX hA hR hL hc hret
  obtain ⟨C, T, hC, hf, hw, hfin⟩ := hl
  obtain ⟨h1, h2, h3, h4, h5⟩ := hC
  have he := sh_W_get (ad := ad) (ac := ac) (σ := (n, I, P)) hk
  rw [sh_E_obj h5] at he
  refine va_putF hX.1 hX.2.1 hX.2.2.2.2.1 h2 (sh_ty ci) h3 h4 hX.2.2.2.1 hR.1.none hR.2.1 hR.2.2.1 hR.2.2.2.1 (o - 1) he h1 f hf (hX.2.2.2.2.1 _ hw) (fun _ h9 => h9) hfin (hX.2.2.2.2.2.1 hy) (hown C T h1) (h3 f hf) (hn _) (hfit _) (by rw [sh_fs_len]; exact hf) hd (fun H1 locs1 hP1 hD1 hS1 => ?_)
  have e1 : (sh_W ad ac (n, I, P)).set (o - 1) (ad o, .inr (ci, (sh_fs ad I P o ci N).set f (.ref (ad q)))) = sh_W ad ac (n, I, sh_uP P o f q) :=
    sh_W_set hk (fun _ _ => rfl) (fun k hk2 => sh_uP_ne hk2) (by rw [sh_E_obj h5, sh_fs_setP hi])
  obtain ⟨a1, -, -, -, b1, c1, d1, g1, j1⟩ := hR
  refine h p l e R s m args below meth c Z D A H0 ad ac H1 locs1 la hX hA ⟨a1, by rw [← e1]; exact hP1, by rw [← e1]; exact hD1, hS1, b1, c1, d1, fun o' f' q' hq' => ?_, j1⟩ hL hc hret
  have hq2 : sh_uP P o f q o' f' = some q' := hq'
  simp only [sh_uP] at hq2
  split at hq2
  · cases hq2
    exact hqn
  · exact g1 o' f' q' hq2
end
section
/-! arrays -/
theorem sh_vin {i : Int} {n : Nat} (h : 0 ≤ i ∧ i < (n : Int)) (hn : n < 2147483648) : vp_in (Int32.ofInt i) n ∧ (Int32.ofInt i).toNatClampNeg = i.toNat := by
  have hb : sh_Bd i := ⟨by omega, by omega⟩
  have e : (Int32.ofInt i).toNatClampNeg = i.toNat := by
    show (Int32.ofInt i).toInt.toNat = i.toNat
    rw [sh_ti hb]
  refine ⟨?_, e⟩
  unfold vp_in
  rw [e, sh_z, sh_ltI hb sh_Bd0]
  omega
theorem sh_ia_at {I : sh_Mem} {o : Nat} {i : Int} (h : 0 ≤ i) : sh_ia I o i.toNat = Int32.ofInt (I o i) := by
  unfold sh_ia
  rw [Int.toNat_of_nonneg h]
theorem sh_narC {v : Int} (h : 0 ≤ v ∧ v < 65536) : vp_nar .char (Int32.ofInt v) = Int32.ofInt v := by
  show (Int32.ofInt v).toUInt32.toUInt16.toUInt32.toInt32 = Int32.ofInt v
  apply Int32.toInt_inj.mp
  rw [sh_ti ⟨by omega, by omega⟩]
  have e1 : ((Int32.ofInt v).toUInt32.toUInt16.toUInt32.toInt32).toBitVec = ((BitVec.ofInt 32 v).setWidth 16).setWidth 32 := rfl
  show ((Int32.ofInt v).toUInt32.toUInt16.toUInt32.toInt32).toBitVec.toInt = v
  rw [e1, BitVec.toInt_eq_toNat_of_lt]
  · simp only [BitVec.toNat_setWidth, BitVec.toNat_ofInt]
    omega
  · simp only [BitVec.toNat_setWidth, BitVec.toNat_ofInt]
    omega
theorem sh_iald {y : sh_M} {pc : Nat} {ls : List (Option sh_V)} {st : List sh_V} {cn : Nat × Nat} {n : Nat} {I : sh_Mem} {P : sh_Ptr} {Q : Option Int → sh_St → Prop} {o N : Nat} {i : Int} (hd : decode y.2.1 pc = .ok (.iaload, 1)) (hk : sh_is n o 8 N) (hN : N < 2147483648) (hi : 0 ≤ i ∧ i < (N : Int)) (h : sh_O y (pc + 1) ls (.inl (I o i) :: st) cn (n, I, P) Q) : sh_O y pc ls (.inl i :: .inr o :: st) cn (n, I, P) Q := by
  intro p l e R s m args below meth c Z D A H0 ad ac H locs la hX hA hR hL hc hret
  have he := sh_W_get (ad := ad) (ac := ac) (σ := (n, I, P)) hk
  rw [sh_E_arr (by decide) (by decide)] at he
  have hv := sh_vin hi hN
  refine va_iald hX.1 hX.2.1 (hR.1.one hk (by decide) (by decide)) hR.2.1 (o - 1) 0 he rfl hv.1 hd ?_
  rw [hv.2]
  show W p l e R s m args below meth c H locs cn.1 cn.2 Z (F0 m (pc + 1) la (.int (sh_ia I o i.toNat) :: st.map (sh_tr ad)))
  rw [sh_ia_at hi.1]
  exact h p l e R s m args below meth c Z D A H0 ad ac H locs la hX hA hR hL hc hret
theorem sh_bald {y : sh_M} {pc : Nat} {ls : List (Option sh_V)} {st : List sh_V} {cn : Nat × Nat} {n : Nat} {I : sh_Mem} {P : sh_Ptr} {Q : Option Int → sh_St → Prop} {o N : Nat} {i : Int} (hd : decode y.2.1 pc = .ok (.baload, 1)) (hk : sh_is n o 9 N) (hN : N < 2147483648) (hi : 0 ≤ i ∧ i < (N : Int)) (h : sh_O y (pc + 1) ls (.inl (I o i) :: st) cn (n, I, P) Q) : sh_O y pc ls (.inl i :: .inr o :: st) cn (n, I, P) Q := by
  intro p l e R s m args below meth c Z D A H0 ad ac H locs la hX hA hR hL hc hret
  have he := sh_W_get (ad := ad) (ac := ac) (σ := (n, I, P)) hk
  rw [sh_E_arr (by decide) (by decide)] at he
  have hv := sh_vin hi hN
  refine va_zald hX.1 hX.2.1 (hR.1.one hk (by decide) (by decide)) hR.2.1 (o - 1) 0 he rfl hv.1 hd ?_
  rw [hv.2]
  show W p l e R s m args below meth c H locs cn.1 cn.2 Z (F0 m (pc + 1) la (.int (sh_ia I o i.toNat) :: st.map (sh_tr ad)))
  rw [sh_ia_at hi.1]
  exact h p l e R s m args below meth c Z D A H0 ad ac H locs la hX hA hR hL hc hret
theorem sh_cald {y : sh_M} {pc : Nat} {ls : List (Option sh_V)} {st : List sh_V} {cn : Nat × Nat} {n : Nat} {I : sh_Mem} {P : sh_Ptr} {Q : Option Int → sh_St → Prop} {o N : Nat} {i : Int} (hd : decode y.2.1 pc = .ok (.caload, 1)) (hk : sh_is n o 10 N) (hN : N < 2147483648) (hi : 0 ≤ i ∧ i < (N : Int)) (h : sh_O y (pc + 1) ls (.inl (I o i) :: st) cn (n, I, P) Q) : sh_O y pc ls (.inl i :: .inr o :: st) cn (n, I, P) Q := by
  intro p l e R s m args below meth c Z D A H0 ad ac H locs la hX hA hR hL hc hret
  have he := sh_W_get (ad := ad) (ac := ac) (σ := (n, I, P)) hk
  rw [sh_E_arr (by decide) (by decide)] at he
  have hv := sh_vin hi hN
  refine va_cald hX.1 hX.2.1 (hR.1.one hk (by decide) (by decide)) hR.2.1 (o - 1) 0 he rfl hv.1 hd ?_
  rw [hv.2]
  show W p l e R s m args below meth c H locs cn.1 cn.2 Z (F0 m (pc + 1) la (.int (sh_ia I o i.toNat) :: st.map (sh_tr ad)))
  rw [sh_ia_at hi.1]
  exact h p l e R s m args below meth c Z D A H0 ad ac H locs la hX hA hR hL hc hret
theorem sh_iast {y : sh_M} {pc : Nat} {ls : List (Option sh_V)} {st : List sh_V} {cn : Nat × Nat} {n : Nat} {I : sh_Mem} {P : sh_Ptr} {Q : Option Int → sh_St → Prop} {o N : Nat} {i v : Int} (hd : decode y.2.1 pc = .ok (.iastore, 1)) (hk : sh_is n o 8 N) (hN : N < 2147483648) (hi : 0 ≤ i ∧ i < (N : Int))  (h : sh_O y (pc + 1) ls st cn (n, sh_u I o i v, P) Q) : sh_O y pc ls (.inl v :: .inl i :: .inr o :: st) cn (n, I, P) Q := by
  intro p l e R s m args below meth c Z D A H0 ad ac H locs la hX hA hR hL hc hret
  have he := sh_W_get (ad := ad) (ac := ac) (σ := (n, I, P)) hk
  rw [sh_E_arr (by decide) (by decide)] at he
  have hv := sh_vin hi hN
  refine va_iast hX.1 hX.2.1 (hR.1.one hk (by decide) (by decide)) hR.2.1 hR.2.2.1 hR.2.2.2.1 (o - 1) 0 he rfl hv.1 hd (fun H1 locs1 hP1 hD1 hS1 => ?_)
  have e1 : (sh_W ad ac (n, I, P)).set (o - 1) (ad o, .inl (ac o, N, .inl (upd (sh_ia I o) (Int32.ofInt i).toNatClampNeg (Int32.ofInt v)))) = sh_W ad ac (n, sh_u I o i v, P) := by
    rw [hv.2, sh_ia_set (v := v) hi.1 rfl]
    exact sh_W_set hk (fun k hk2 => sh_u_ne hk2) (fun _ _ => rfl) (sh_E_arr (by decide) (by decide))
  exact h p l e R s m args below meth c Z D A H0 ad ac H1 locs1 la hX hA (hR.putI hk.2.2 (by rw [← e1]; exact hP1) (by rw [← e1]; exact hD1) hS1) hL hc hret
theorem sh_bast {y : sh_M} {pc : Nat} {ls : List (Option sh_V)} {st : List sh_V} {cn : Nat × Nat} {n : Nat} {I : sh_Mem} {P : sh_Ptr} {Q : Option Int → sh_St → Prop} {o N : Nat} {i v : Int} (hd : decode y.2.1 pc = .ok (.bastore, 1)) (hk : sh_is n o 9 N) (hN : N < 2147483648) (hi : 0 ≤ i ∧ i < (N : Int)) (hv01 : v = 0 ∨ v = 1) (h : sh_O y (pc + 1) ls st cn (n, sh_u I o i v, P) Q) : sh_O y pc ls (.inl v :: .inl i :: .inr o :: st) cn (n, I, P) Q := by
  intro p l e R s m args below meth c Z D A H0 ad ac H locs la hX hA hR hL hc hret
  have he := sh_W_get (ad := ad) (ac := ac) (σ := (n, I, P)) hk
  rw [sh_E_arr (by decide) (by decide)] at he
  have hv := sh_vin hi hN
  refine va_zast hX.1 hX.2.1 (hR.1.one hk (by decide) (by decide)) hR.2.1 hR.2.2.1 hR.2.2.2.1 (o - 1) 0 he rfl hv.1 hd (fun H1 locs1 hP1 hD1 hS1 => ?_)
  have e1 : (sh_W ad ac (n, I, P)).set (o - 1) (ad o, .inl (ac o, N, .inl (upd (sh_ia I o) (Int32.ofInt i).toNatClampNeg (vp_nar .boolean (Int32.ofInt v))))) = sh_W ad ac (n, sh_u I o i v, P) := by
    rw [hv.2, sh_ia_set (v := v) hi.1 (by rcases hv01 with rfl | rfl <;> rfl)]
    exact sh_W_set hk (fun k hk2 => sh_u_ne hk2) (fun _ _ => rfl) (sh_E_arr (by decide) (by decide))
  exact h p l e R s m args below meth c Z D A H0 ad ac H1 locs1 la hX hA (hR.putI hk.2.2 (by rw [← e1]; exact hP1) (by rw [← e1]; exact hD1) hS1) hL hc hret
theorem sh_cast {y : sh_M} {pc : Nat} {ls : List (Option sh_V)} {st : List sh_V} {cn : Nat × Nat} {n : Nat} {I : sh_Mem} {P : sh_Ptr} {Q : Option Int → sh_St → Prop} {o N : Nat} {i v : Int} (hd : decode y.2.1 pc = .ok (.castore, 1)) (hk : sh_is n o 10 N) (hN : N < 2147483648) (hi : 0 ≤ i ∧ i < (N : Int)) (hvc : 0 ≤ v ∧ v < 65536) (h : sh_O y (pc + 1) ls st cn (n, sh_u I o i v, P) Q) : sh_O y pc ls (.inl v :: .inl i :: .inr o :: st) cn (n, I, P) Q := by
  intro p l e R s m args below meth c Z D A H0 ad ac H locs la hX hA hR hL hc hret
  have he := sh_W_get (ad := ad) (ac := ac) (σ := (n, I, P)) hk
  rw [sh_E_arr (by decide) (by decide)] at he
  have hv := sh_vin hi hN
  refine va_cast hX.1 hX.2.1 (hR.1.one hk (by decide) (by decide)) hR.2.1 hR.2.2.1 hR.2.2.2.1 (o - 1) 0 he rfl hv.1 hd (fun H1 locs1 hP1 hD1 hS1 => ?_)
  have e1 : (sh_W ad ac (n, I, P)).set (o - 1) (ad o, .inl (ac o, N, .inl (upd (sh_ia I o) (Int32.ofInt i).toNatClampNeg (vp_nar .char (Int32.ofInt v))))) = sh_W ad ac (n, sh_u I o i v, P) := by
    rw [hv.2, sh_ia_set (v := v) hi.1 (sh_narC hvc)]
    exact sh_W_set hk (fun k hk2 => sh_u_ne hk2) (fun _ _ => rfl) (sh_E_arr (by decide) (by decide))
  exact h p l e R s m args below meth c Z D A H0 ad ac H1 locs1 la hX hA (hR.putI hk.2.2 (by rw [← e1]; exact hP1) (by rw [← e1]; exact hD1) hS1) hL hc hret
theorem sh_aald {y : sh_M} {pc : Nat} {ls : List (Option sh_V)} {st : List sh_V} {cn : Nat × Nat} {n : Nat} {I : sh_Mem} {P : sh_Ptr} {Q : Option Int → sh_St → Prop} {o N q : Nat} {i : Int} (hd : decode y.2.1 pc = .ok (.aaload, 1)) (hk : sh_is n o 11 N) (hN : N < 2147483648) (hi : 0 ≤ i ∧ i < (N : Int)) (hq : P o i.toNat = some q) (h : sh_O y (pc + 1) ls (.inr q :: st) cn (n, I, P) Q) : sh_O y pc ls (.inl i :: .inr o :: st) cn (n, I, P) Q := by
  intro p l e R s m args below meth c Z D A H0 ad ac H locs la hX hA hR hL hc hret
  have he := sh_W_get (ad := ad) (ac := ac) (σ := (n, I, P)) hk
  rw [sh_E_ref] at he
  have hv := sh_vin hi hN
  refine va_aldq hX.1 hX.2.1 (hR.1.one hk (by decide) (by decide)) hR.2.1 (o - 1) 0 he rfl hv.1 hd ?_
  rw [hv.2]
  show W p l e R s m args below meth c H locs cn.1 cn.2 Z (F0 m (pc + 1) la (va_rf ((P o i.toNat).map ad) :: st.map (sh_tr ad)))
  rw [hq]
  exact h p l e R s m args below meth c Z D A H0 ad ac H locs la hX hA hR hL hc hret
theorem sh_aast {y : sh_M} {pc : Nat} {ls : List (Option sh_V)} {st : List sh_V} {cn : Nat × Nat} {n : Nat} {I : sh_Mem} {P : sh_Ptr} {Q : Option Int → sh_St → Prop} {o N q : Nat} {i : Int} (hd : decode y.2.1 pc = .ok (.aastore, 1)) (hk : sh_is n o 11 N) (hN : N < 2147483648) (hi : 0 ≤ i ∧ i < (N : Int)) (hq : sh_is n q 4 5) (h : sh_O y (pc + 1) ls st cn (n, I, sh_uP P o i.toNat q) Q) : sh_O y pc ls (.inr q :: .inl i :: .inr o :: st) cn (n, I, P) Q := by
  intro p l e R s m args below meth c Z D A H0 ad ac H locs la hX hA hR hL hc hret
  have he := sh_W_get (ad := ad) (ac := ac) (σ := (n, I, P)) hk
  rw [sh_E_ref] at he
  have heq := sh_W_get (ad := ad) (ac := ac) (σ := (n, I, P)) hq
  rw [sh_E_obj (by decide)] at heq
  have hv := sh_vin hi hN
  refine va_astq hX.1 hX.2.1 (hR.1.one hk (by decide) (by decide)) hR.2.1 hR.2.2.1 hR.2.2.2.1 (o - 1) 0 (q - 1) 4 he rfl heq rfl hv.1 hd (fun H1 locs1 hP1 hD1 hS1 => ?_)
  have e1 : (sh_W ad ac (n, I, P)).set (o - 1) (ad o, .inl (ac o, N, .inr (.inr (.inr (.inr (va_up (fun j => (P o j).map ad) (Int32.ofInt i).toNatClampNeg (some (ad q)))))))) = sh_W ad ac (n, I, sh_uP P o i.toNat q) := by
    rw [hv.2]
    refine sh_W_set hk (fun _ _ => rfl) (fun k hk2 => sh_uP_ne hk2) ?_
    rw [sh_E_ref]
    congr 7
    funext j
    by_cases hj : j = i.toNat
    · simp [va_up, sh_uP, hj]
    · simp [va_up, sh_uP, hj]
  obtain ⟨a1, -, -, -, b1, c1, d1, g1, j1⟩ := hR
  refine h p l e R s m args below meth c Z D A H0 ad ac H1 locs1 la hX hA ⟨a1, by rw [← e1]; exact hP1, by rw [← e1]; exact hD1, hS1, b1, c1, d1, fun o' f' q' hq' => ?_, j1⟩ hL hc hret
  have hq2 : sh_uP P o i.toNat q o' f' = some q' := hq'
  simp only [sh_uP] at hq2
  split at hq2
  · cases hq2
    exact hq.1
  · exact g1 o' f' q' hq2
theorem sh_alen {y : sh_M} {pc : Nat} {ls : List (Option sh_V)} {st : List sh_V} {cn : Nat × Nat} {n : Nat} {I : sh_Mem} {P : sh_Ptr} {Q : Option Int → sh_St → Prop} {o ci N : Nat} {v : Int} (hd : decode y.2.1 pc = .ok (.arraylength, 1)) (hk : sh_is n o ci N) (h8 : 8 ≤ ci) (h12 : ci < 12) (hv : (N : Int) = v) (h : sh_O y (pc + 1) ls (.inl v :: st) cn (n, I, P) Q) : sh_O y pc ls (.inr o :: st) cn (n, I, P) Q := by
  intro p l e R s m args below meth c Z D A H0 ad ac H locs la hX hA hR hL hc hret
  have he := sh_W_get (ad := ad) (ac := ac) (σ := (n, I, P)) hk
  subst hv
  have hx : ∃ x : vp_A, sh_E ad ac I P o (ci, N) = .inl (ac o, x) ∧ x.1 = N := by
    have h3 : ¬ ci < 8 := by omega
    have h4 : ¬ ci = 12 := by omega
    exact ⟨_, by simp only [sh_E, sh_len, h3, if_false, if_neg h4]; rfl, rfl⟩
  obtain ⟨x, hx1, hx2⟩ := hx
  have he2 : (sh_W ad ac (n, I, P))[o - 1]? = some (ad o, .inl (ac o, x)) := by rw [← hx1]; exact he
  exact va_alen hX.1 hX.2.1 (hR.1.one hk h8 (by omega)) hR.2.1 (o - 1) 0 he2 rfl (v := Int32.ofInt (N : Int)) (by rw [hx2]; rfl) hd (h p l e R s m args below meth c Z D A H0 ad ac H locs la hX hA hR hL hc hret)
/-- the script: object 0, its length at place 0, its ints behind -/
theorem sh_slen {y : sh_M} {pc : Nat} {ls : List (Option sh_V)} {st : List sh_V} {cn : Nat × Nat} {n : Nat} {I : sh_Mem} {P : sh_Ptr} {Q : Option Int → sh_St → Prop} (hd : decode y.2.1 pc = .ok (.arraylength, 1)) (hL0 : 0 ≤ I 0 0) (h : sh_O y (pc + 1) ls (.inl (I 0 0) :: st) cn (n, I, P) Q) : sh_O y pc ls (.inr 0 :: st) cn (n, I, P) Q := by
  intro p l e R s m args below meth c Z D A H0 ad ac H locs la hX hA hR hL hc hret
  have hk := h p l e R s m args below meth c Z D A H0 ad ac H locs la hX hA hR hL hc hret
  refine va_slen hX.1 hX.2.1 hR.2.2.2.2.1 hR.2.2.2.2.2.1 hR.2.2.2.2.2.2.1 hR.2.2.2.1 hd ?_
  have ee : Int32.ofNat (I 0 0).toNat = Int32.ofInt (I 0 0) := by
    rw [← Int32.ofInt_eq_ofNat, Int.toNat_of_nonneg hL0]
  show W p l e R s m args below meth c H locs cn.1 cn.2 Z (F0 m (pc + 1) la (.int (Int32.ofNat (I 0 0).toNat) :: st.map (sh_tr ad)))
  rw [ee]
  exact hk
theorem sh_sld {y : sh_M} {pc : Nat} {ls : List (Option sh_V)} {st : List sh_V} {cn : Nat × Nat} {n : Nat} {I : sh_Mem} {P : sh_Ptr} {Q : Option Int → sh_St → Prop} {i : Int} (hd : decode y.2.1 pc = .ok (.iaload, 1)) (hi : 0 ≤ i ∧ i < I 0 0) (hB : I 0 0 < 2147483648) (h : sh_O y (pc + 1) ls (.inl (I 0 (i + 1)) :: st) cn (n, I, P) Q) : sh_O y pc ls (.inl i :: .inr 0 :: st) cn (n, I, P) Q := by
  intro p l e R s m args below meth c Z D A H0 ad ac H locs la hX hA hR hL hc hret
  have hk := h p l e R s m args below meth c Z D A H0 ad ac H locs la hX hA hR hL hc hret
  have hv := sh_vin (i := i) (n := (I 0 0).toNat) (by omega) (by omega)
  refine va_sld hX.1 hX.2.1 hR.2.2.2.2.1 hR.2.2.2.2.2.1 hR.2.2.2.2.2.2.1 hR.2.2.2.1 hv.1 hd ?_
  rw [hv.2]
  show W p l e R s m args below meth c H locs cn.1 cn.2 Z (F0 m (pc + 1) la (.int (Int32.ofInt (I 0 (((i.toNat : Nat) : Int) + 1))) :: st.map (sh_tr ad)))
  rw [Int.toNat_of_nonneg hi.1]
  exact hk
/-! returns -/
theorem sh_iret {y : sh_M} {pc : Nat} {ls : List (Option sh_V)} {st : List sh_V} {cn : Nat × Nat} {n : Nat} {I : sh_Mem} {P : sh_Ptr} {Q : Option Int → sh_St → Prop} {v : Int} {ty : FieldType} (hd : decode y.2.1 pc = .ok (.ireturn, 1)) (ht : y.2.2.2.1 = some ty) (hv : narrow ty (.int (Int32.ofInt v)) = .int (Int32.ofInt v)) (h : Q (some v) (n, I, P)) : sh_O y pc ls [.inl v] cn (n, I, P) Q := by
  intro p l e R s m args below meth c Z D A H0 ad ac H locs la hX hA hR hL hc hret
  exact W.widen hc.1 hc.2 (hret (some v) (n, I, P) ad ac H locs la pc h hR (fun _ => ⟨rfl, rfl⟩) (fun _ _ => ⟨rfl, rfl⟩) (Nat.le_refl _) ⟨hd, ty, ht, hv⟩)
theorem sh_vret {y : sh_M} {pc : Nat} {ls : List (Option sh_V)} {st : List sh_V} {cn : Nat × Nat} {n : Nat} {I : sh_Mem} {P : sh_Ptr} {Q : Option Int → sh_St → Prop} (hd : decode y.2.1 pc = .ok (.return_, 1)) (ht : y.2.2.2.1 = none) (h : Q none (n, I, P)) : sh_O y pc ls [] cn (n, I, P) Q := by
  intro p l e R s m args below meth c Z D A H0 ad ac H locs la hX hA hR hL hc hret
  exact W.widen hc.1 hc.2 (hret none (n, I, P) ad ac H locs la pc h hR (fun _ => ⟨rfl, rfl⟩) (fun _ _ => ⟨rfl, rfl⟩) (Nat.le_refl _) ⟨hd, ht⟩)
/-! making objects -/
theorem sh_catsum (ad : Nat → Nat) (st : List sh_V) : ((st.map (sh_tr ad)).map fun v => v.category).sum = st.length := by
  induction st with
  | nil => rfl
  | cons v st ih => simp only [List.map_cons, List.sum_cons, sh_tr_cat, ih, List.length_cons]; omega
def sh_noref (n : Nat) (st : List sh_V) : Prop := ∀ o : Nat, Sum.inr o ∈ st → o < n
theorem sh_tr_same {ad ad' : Nat → Nat} {n : Nat} {st : List sh_V} (h : sh_noref n st) (he : ∀ k, k < n → ad' k = ad k) : st.map (sh_tr ad') = st.map (sh_tr ad) := by
  apply List.map_congr_left
  intro v hv
  cases v with
  | inl z => rfl
  | inr o => simp only [sh_tr, he o (h o hv)]
theorem sh_L.same {ad ad' : Nat → Nat} {la : Array Slot} {n k : Nat} {ls : List (Option sh_V)} (h : sh_L ad la n ls) (hr : ∀ o : Nat, some (Sum.inr o) ∈ ls → o < k) (he : ∀ j, j < k → ad' j = ad j) : sh_L ad' la n ls := by
  refine ⟨h.1, h.2.1, fun i v hi => ?_⟩
  rw [h.2.2 i v hi]
  cases v with
  | inl z => rfl
  | inr o => simp only [sh_tr, he o (hr o (List.mem_of_getElem? hi))]
theorem sh_E_same {ad ad' : Nat → Nat} {ac ac' : Nat → ClassId} {n o : Nat} {I : sh_Mem} {P : sh_Ptr} {kd : Nat × Nat} (ho : o < n) (hP : ∀ o f q, P o f = some q → q < n) (he : ∀ k, k < n → ad' k = ad k ∧ ac' k = ac k) : sh_E ad' ac' I P o kd = sh_E ad ac I P o kd := by
  have h1 : ∀ f, (P o f).map ad' = (P o f).map ad := by
    intro f
    cases hq : P o f with
    | none => rfl
    | some q => simp only [Option.map_some, (he q (hP o f q hq)).1]
  simp only [sh_E, sh_fs, h1, (he o ho).2]
theorem sh_W_same {ad ad' : Nat → Nat} {ac ac' : Nat → ClassId} {n : Nat} {I : sh_Mem} {P : sh_Ptr} (hP : ∀ o f q, P o f = some q → q < n) (he : ∀ k, k < n → ad' k = ad k ∧ ac' k = ac k) : sh_W ad' ac' (n, I, P) = sh_W ad ac (n, I, P) := by
  apply List.map_congr_left
  intro k hk
  have hk2 : k < n - 1 := List.mem_range.mp hk
  rw [sh_E_same (by omega) hP he, (he (k + 1) (by omega)).1]
theorem sh_W_push {ad : Nat → Nat} {ac : Nat → ClassId} {n : Nat} {I : sh_Mem} {P : sh_Ptr} (h0 : 0 < n) : sh_W ad ac (n + 1, I, P) = sh_W ad ac (n, I, P) ++ [(ad n, sh_E ad ac I P n (sh_KD n))] := by
  have e : n + 1 - 1 = (n - 1) + 1 := by omega
  have e2 : n - 1 + 1 = n := by omega
  simp only [sh_W]
  rw [e, List.range_succ, List.map_append, List.map_cons, List.map_nil, e2]
def sh_ext {α : Type} (ad : Nat → α) (n : Nat) (q : α) : Nat → α := fun k => if k = n then q else ad k
theorem sh_ext_lt {α : Type} {ad : Nat → α} {n k : Nat} {q : α} (h : k < n) : sh_ext ad n q k = ad k := by
  have : ¬ k = n := by omega
  simp [sh_ext, this]
theorem sh_ext_self {α : Type} {ad : Nat → α} {n : Nat} {q : α} : sh_ext ad n q n = q := by simp [sh_ext]
/-- behind the making of the object n, of a kind that the plan foresees -/
theorem sh_made {y : sh_M} {pc1 : Nat} {ls : List (Option sh_V)} {st : List sh_V} {cn : Nat × Nat} {n ci N M : Nat} {I : sh_Mem} {P : sh_Ptr} {Q : Option Int → sh_St → Prop}
    {p : Program} {l : Launch} {e : Env} {R : Room} {s : State} {m : MethodId} {args : Array Value} {below : List Frame} {meth : Method} {c : Code} {Z : State → Prop}
    {D : va_G} {A : Nat → Prop} {H0 : Heap} {ad : Nat → Nat} {ac : Nat → ClassId} {H : Heap} {locs : List Loc} {la : Array Slot}
    (hX : sh_X y p R s m args meth c) (hA : ∀ q, H0.size ≤ q → A q) (hR : sh_R D ad ac (n, I, P) A s H0 H locs) (hL : sh_L ad la y.2.2.1 ls) (hmc : cn.1 + 1 ≤ y.2.2.2.2.2.1 ∧ cn.2 + M ≤ y.2.2.2.2.2.2)
    (hret : ∀ (r : Option Int) (σ' : sh_St) (ad' : Nat → Nat) (ac' : Nat → ClassId) (H' : Heap) (locs' : List Loc) (la' : Array Slot) (pc' : Nat), Q r σ' → sh_R D ad' ac' σ' A s H0 H' locs' →
      (y.2.2.2.2.2.1 = 0 → ad' = ad ∧ ac' = ac) → (∀ k, k < n → ad' k = ad k ∧ ac' k = ac k) → n ≤ σ'.1 → sh_ret y pc' r →
      W p l e R s m args below meth c H' locs' y.2.2.2.2.2.1 y.2.2.2.2.2.2 Z (F0 m pc' la' (r.map (fun z => Value.int (Int32.ofInt z))).toList))
    (hst : sh_noref n st) (hls : ∀ o : Nat, some (Sum.inr o) ∈ ls → o < n) (hk : sh_KD n = (ci, N))
    (h : sh_O y pc1 ls (.inr n :: st) (cn.1 + 1, cn.2 + M) (n + 1, I, P) Q)
    {q : Nat} {cA : ClassId} {H1 : Heap} {E : va_E} (hE : sh_E (sh_ext ad n q) (sh_ext ac n cA) I P n (ci, N) = E)
    (hK : 8 ≤ ci → ci < 13 → ArrOfT s cA (sh_et ci) ∧ va_RA s cA (sh_et ci))
    (hP1 : va_P D vwCl (sh_W ad ac (n, I, P) ++ [(q, E)]) H1) (hD1 : va_D A (sh_W ad ac (n, I, P) ++ [(q, E)])) (hS1 : va_S A H0 H1 locs) :
    W p l e R s m args below meth c H1 locs (cn.1 + 1) (cn.2 + M) Z (F0 m pc1 la (.ref q :: st.map (sh_tr ad))) := by
  obtain ⟨a1, a2, a3, a4, b1, c1, d1, g1, j1⟩ := hR
  have hsame : ∀ k, k < n → sh_ext ad n q k = ad k ∧ sh_ext ac n cA k = ac k := fun k hk => ⟨sh_ext_lt hk, sh_ext_lt hk⟩
  have eW : sh_W (sh_ext ad n q) (sh_ext ac n cA) (n + 1, I, P) = sh_W ad ac (n, I, P) ++ [(q, E)] := by
    rw [sh_W_push j1, sh_W_same g1 hsame, hk, hE, sh_ext_self]
  have est : (Value.ref q :: st.map (sh_tr ad)) = (Sum.inr n :: st).map (sh_tr (sh_ext ad n q)) := by
    rw [List.map_cons, sh_tr_same hst (fun k hk => (hsame k hk).1)]
    show _ = Value.ref (sh_ext ad n q n) :: _
    rw [sh_ext_self]
  rw [est]
  refine h p l e R s m args below meth c Z D A H0 (sh_ext ad n q) (sh_ext ac n cA) H1 locs la hX hA ⟨⟨a1.1, fun o ci' N' ho h8 h12 => ?_, a1.2.2.1, a1.2.2.2⟩, by rw [eW]; exact hP1, by rw [eW]; exact hD1, hS1, ?_, ?_, ?_, fun o f q' hq' => Nat.lt_succ_of_lt (g1 o f q' hq'), Nat.succ_pos _⟩ (hL.same hls (fun k hk => (hsame k hk).1)) hmc ?_
  · by_cases hon : o = n
    · subst hon
      have hk2 := ho.2.1
      rw [hk] at hk2
      cases hk2
      rw [sh_ext_self]
      exact hK h8 h12
    · have h1 : o < n + 1 := ho.1
      have hlt : o < n := by omega
      rw [(hsame o hlt).2]
      exact a1.2.1 o ci' N' ⟨hlt, ho.2.1, ho.2.2⟩ h8 h12
  · rw [(hsame 0 j1).1]
    exact b1
  · rw [(hsame 0 j1).1]
    exact c1
  · rw [(hsame 0 j1).1]
    exact d1
  · intro r σ' ad' ac' H' locs' la' pc' hQ hR' h0 hs hle hr
    exact hret r σ' ad' ac' H' locs' la' pc' hQ hR' (fun h9 => absurd h9 (by omega)) (fun k hk => ⟨(hs k (Nat.lt_succ_of_lt hk)).1.trans (hsame k hk).1, (hs k (Nat.lt_succ_of_lt hk)).2.trans (hsame k hk).2⟩) (Nat.le_of_succ_le hle) hr
theorem sh_new {y : sh_M} {pc : Nat} {ls : List (Option sh_V)} {st : List sh_V} {cn : Nat × Nat} {n : Nat} {I : sh_Mem} {P : sh_Ptr} {Q : Option Int → sh_St → Prop} {idx ci N : Nat} {C : String} {T : u_T} (hd : decode y.2.1 pc = .ok (.new idx, 3)) (hC : sh_cls ci C T N) (hw1 : Cond.classLink y.1.cls idx C ∈ sh_ws) (hw2 : Cond.instantiable C N ∈ sh_ws) (hw3 : Cond.initialized C ∈ sh_ws) (hk : sh_KD n = (ci, N)) (hz : ∀ f, I n f = 0) (hzP : ∀ f, P n f = none) (hdef : ∀ f, f < N → defaultValue (sh_ty ci f) = if sh_isr (sh_ty ci f) then Value.null else Value.int 0)
    (hst : sh_noref n st) (hls : ∀ o : Nat, some (Sum.inr o) ∈ ls → o < n) (hmc : cn.1 + 1 ≤ y.2.2.2.2.2.1 ∧ cn.2 + N ≤ y.2.2.2.2.2.2) (h : sh_O y (pc + 3) ls (.inr n :: st) (cn.1 + 1, cn.2 + N) (n + 1, I, P) Q) : sh_O y pc ls st cn (n, I, P) Q := by
  intro p l e R s m args below meth c Z D A H0 ad ac H locs la hX hA hR hL hc hret
  obtain ⟨h1, h2, h3, h4, h5⟩ := hC
  have hRR : y.2.2.2.2.2.1 = R.cells ∧ y.2.2.2.2.2.2 = R.slots := by rw [hX.2.2.2.2.2.2]; exact ⟨rfl, rfl⟩
  refine va_new (ci := ci) (fs := sh_fs ad I P n ci N) hX.1 hX.2.1 hX.2.2.2.2.1 h2 (sh_ty ci) h3 hX.2.2.2.1 (hX.2.2.2.2.1 _ hw1) (hX.2.2.2.2.1 _ hw2) (hX.2.2.2.2.1 _ hw3) hR.1.none hR.2.1 hR.2.2.1 hR.2.2.2.1 hA h1 (fun j hj => ?_) (by rw [← hRR.1]; exact hmc.1) (by rw [← hRR.2]; exact hmc.2) hd (fun q H1 hP1 hD1 hS1 => ?_)
  · have hv := sh_fs_get (ad := ad) (I := I) (P := P) (k := n) (ci := ci) hj
    rw [hz, hzP] at hv
    unfold vp_V
    rw [List.getD_eq_getElem?_getD, hv, hdef j hj]
    cases sh_isr (sh_ty ci j) <;> rfl
  · refine sh_made (cA := D.1 0) hX hA hR hL hmc hret hst hls hk h ?_ (fun h8 => absurd h8 (by omega)) hP1 hD1 hS1
    rw [sh_E_obj h5]
    congr 2
    simp only [sh_fs, hzP, Option.map_none]
theorem sh_newa {y : sh_M} {pc : Nat} {ls : List (Option sh_V)} {st : List sh_V} {cn : Nat × Nat} {n : Nat} {I : sh_Mem} {P : sh_Ptr} {Q : Option Int → sh_St → Prop} {atype : ArrayType} {ci N : Nat} {z : Int} (hd : decode y.2.1 pc = .ok (.newarray atype, 2)) (hty : newarray.typeOf atype = sh_et ci) (hci : ci = 8 ∨ ci = 9 ∨ ci = 10) (hw : Cond.arrayClass (newarray.typeOf atype) ∈ sh_ws) (hzN : z = (N : Int)) (hN : N ≤ 100000) (hk : sh_KD n = (ci, N)) (hz : ∀ f, I n f = 0) (hzP : ∀ f, P n f = none)
    (hst : sh_noref n st) (hls : ∀ o : Nat, some (Sum.inr o) ∈ ls → o < n) (hmc : cn.1 + 1 ≤ y.2.2.2.2.2.1 ∧ cn.2 + N ≤ y.2.2.2.2.2.2) (h : sh_O y (pc + 2) ls (.inr n :: st) (cn.1 + 1, cn.2 + N) (n + 1, I, P) Q) : sh_O y pc ls (.inl z :: st) cn (n, I, P) Q := by
  intro p l e R s m args below meth c Z D A H0 ad ac H locs la hX hA hR hL hc hret
  have hRR : y.2.2.2.2.2.1 = R.cells ∧ y.2.2.2.2.2.2 = R.slots := by rw [hX.2.2.2.2.2.2]; exact ⟨rfl, rfl⟩
  subst hzN
  have hb : sh_Bd (N : Int) := ⟨by omega, by omega⟩
  have hia : sh_ia I n = fun _ => (0 : Int32) := by
    funext j
    simp only [sh_ia, hz]
    rfl
  refine va_newa (N' := N) (a0 := (N, .inl (sh_ia I n))) hX.1 hX.2.1 (hX.2.2.2.2.1 _ hw) hty hR.1.none hR.2.1 hR.2.2.1 hR.2.2.2.1 hA (fun cA => ?_) ?_ ?_ ?_ (by rw [← hRR.1]; exact hmc.1) (by rw [← hRR.2]; exact hmc.2) hd (fun q cA H1 hK1 hP1 hD1 hS1 => ?_)
  · rw [hia, vp_cell_i]
    rcases hci with rfl | rfl | rfl <;> rfl
  · rw [sh_z, sh_ltI hb sh_Bd0]
    omega
  · show (Int32.ofInt (N : Int)).toInt.toNat = N
    rw [sh_ti hb]
    rfl
  · have : componentBytes (sh_et ci) ≤ 4 := by rcases hci with rfl | rfl | rfl <;> decide
    calc N * componentBytes (sh_et ci) ≤ 100000 * 4 := Nat.mul_le_mul hN this
      _ ≤ 536870912 := by decide
  · refine sh_made (cA := cA) hX hA hR hL hmc hret hst hls hk h ?_ (fun _ _ => ?_) hP1 hD1 hS1
    · rw [sh_E_arr (by omega) (by omega), sh_ext_self]
    · exact hK1.2 0 (cA, sh_et ci) rfl
theorem sh_newq {y : sh_M} {pc : Nat} {ls : List (Option sh_V)} {st : List sh_V} {cn : Nat × Nat} {n : Nat} {I : sh_Mem} {P : sh_Ptr} {Q : Option Int → sh_St → Prop} {idx N : Nat} {z : Int} (hd : decode y.2.1 pc = .ok (.anewarray idx, 3)) (hw : Cond.classLink y.1.cls idx RX4 ∈ sh_ws) (hzN : z = (N : Int)) (hN : N ≤ 100000) (hk : sh_KD n = (11, N)) (hzP : ∀ f, P n f = none)
    (hst : sh_noref n st) (hls : ∀ o : Nat, some (Sum.inr o) ∈ ls → o < n) (hmc : cn.1 + 1 ≤ y.2.2.2.2.2.1 ∧ cn.2 + N ≤ y.2.2.2.2.2.2) (h : sh_O y (pc + 3) ls (.inr n :: st) (cn.1 + 1, cn.2 + N) (n + 1, I, P) Q) : sh_O y pc ls (.inl z :: st) cn (n, I, P) Q := by
  intro p l e R s m args below meth c Z D A H0 ad ac H locs la hX hA hR hL hc hret
  have hRR : y.2.2.2.2.2.1 = R.cells ∧ y.2.2.2.2.2.2 = R.slots := by rw [hX.2.2.2.2.2.2]; exact ⟨rfl, rfl⟩
  subst hzN
  have hb : sh_Bd (N : Int) := ⟨by omega, by omega⟩
  refine va_newq (N' := N) hX.1 hX.2.1 hX.2.2.2.1 (hX.2.2.2.2.1 _ hw) hR.1.2.2.2 hR.1.none hR.2.1 hR.2.2.1 hR.2.2.2.1 hA ?_ ?_ (by omega) (by rw [← hRR.1]; exact hmc.1) (by rw [← hRR.2]; exact hmc.2) hd (fun q cA H1 hK1 hP1 hD1 hS1 => ?_)
  · rw [sh_z, sh_ltI hb sh_Bd0]
    omega
  · show (Int32.ofInt (N : Int)).toInt.toNat = N
    rw [sh_ti hb]
    rfl
  · refine sh_made (cA := cA) hX hA hR hL hmc hret hst hls hk h ?_ (fun _ _ => ?_) hP1 hD1 hS1
    · rw [sh_E_ref, sh_ext_self]
      congr 7
      funext j
      simp [hzP]
    · exact hK1.2 0 (cA, .object RX4) rfl
theorem sh_objInit {y : sh_M} {pc : Nat} {ls : List (Option sh_V)} {st : List sh_V} {cn : Nat × Nat} {σ : sh_St} {Q : Option Int → sh_St → Prop} {idx o : Nat} (hd : decode y.2.1 pc = .ok (.invokespecial idx, 3)) (hw1 : Cond.methodLink y.1.cls idx objectInit ∈ sh_ws) (hw2 : Cond.instanceMethod objectInit ∈ sh_ws) (hw3 : Cond.code objectInit ⟨#[0xb1]⟩ 1 none ∈ sh_ws) (hfr : 1 ≤ y.2.2.2.2.1.1) (hlo : 20 ≤ y.2.2.2.2.1.2) (hst : st.length ≤ 8) (h : sh_O y (pc + 3) ls st cn σ Q) : sh_O y pc ls (.inr o :: st) cn σ Q := by
  intro p l e R s m args below meth c Z D A H0 ad ac H locs la hX hA hR hL hc hret
  have hRR : y.2.2.2.2.1.1 = R.frames ∧ y.2.2.2.2.1.2 = R.locals := by rw [hX.2.2.2.2.2.2]; exact ⟨rfl, rfl⟩
  refine W.objInit hX.1 hX.2.1 hX.2.2.2.1 (hX.2.2.2.2.1 _ hw1) (hX.2.2.2.2.1 _ hw2) (hX.2.2.2.2.1 _ hw3) rfl (by rw [hX.2.2.1]; exact hL.1) rfl hd (by rw [← hRR.1]; exact hfr) ?_ ?_
  · have hs := sh_catsum ad st
    show 2 * 0 + ((st.map (sh_tr ad)).map fun v => v.category).sum + 12 ≤ R.locals
    rw [hs, ← hRR.2]
    omega
  · exact h p l e R s m args below meth c Z D A H0 ad ac H locs la hX hA hR hL hc hret
theorem sh_min {y : sh_M} {pc : Nat} {ls : List (Option sh_V)} {st : List sh_V} {cn : Nat × Nat} {σ : sh_St} {Q : Option Int → sh_St → Prop} {idx : Nat} {a b : Int} (hd : decode y.2.1 pc = .ok (.invokestatic idx, 3)) (hw1 : Cond.methodLink y.1.cls idx Lib.Math.min.name ∈ sh_ws) (hw2 : Cond.static Lib.Math.min.name ∈ sh_ws) (hw3 : Cond.initialized "java/lang/Math" ∈ sh_ws) (hw4 : Cond.code Lib.Math.min.name Lib.Math.min.code 2 (some .int) ∈ sh_ws) (hfr : 1 ≤ y.2.2.2.2.1.1) (hlo : 30 ≤ y.2.2.2.2.1.2) (hst : st.length ≤ 8) (ha : sh_Bd a) (hb : sh_Bd b) (h : sh_O y (pc + 3) ls (.inl (min a b) :: st) cn σ Q) : sh_O y pc ls (.inl b :: .inl a :: st) cn σ Q := by
  intro p l e R s m args below meth c Z D A H0 ad ac H locs la hX hA hR hL hc hret
  have hRR : y.2.2.2.2 = ((R.frames, R.locals), (R.cells, R.slots)) := by rw [hX.2.2.2.2.2.2]; rfl
  rw [hRR] at hfr hlo
  have hc2 := hc
  rw [hRR] at hc2
  refine va_mmin hX.1 hX.2.1 (by rw [hX.2.2.1]; exact hL.1.symm) hX.2.2.2.1 (hX.2.2.2.2.1 _ hw1) (hX.2.2.2.2.1 _ hw2) (hX.2.2.2.2.1 _ hw3) (hX.2.2.2.2.1 _ hw4) hfr ?_ hc2.1 hc2.2 hd ?_
  · have hs := sh_catsum ad st
    rw [hs]
    have : 30 ≤ R.locals := hlo
    omega
  · have ee : (if Int32.ofInt b < Int32.ofInt a then Int32.ofInt b else Int32.ofInt a) = Int32.ofInt (min a b) := by
      by_cases hba : b < a
      · rw [if_pos ((sh_ltI hb ha).mpr hba), Int.min_eq_right (by omega)]
      · rw [if_neg (fun q => hba ((sh_ltI hb ha).mp q)), Int.min_eq_left (by omega)]
    rw [ee]
    exact h p l e R s m args below meth c Z D A H0 ad ac H locs la hX hA hR hL hc hret
def sh_cpy (I : sh_Mem) (src dst : Nat) (sp dp k : Int) : sh_Mem := fun a b => if a = dst ∧ dp ≤ b ∧ b < dp + k then I src (sp + (b - dp)) else I a b
theorem sh_copy {y : sh_M} {pc : Nat} {ls : List (Option sh_V)} {st : List sh_V} {cn : Nat × Nat} {n : Nat} {I : sh_Mem} {P : sh_Ptr} {Q : Option Int → sh_St → Prop} {idx o1 o2 N1 N2 : Nat} {k sp dp : Int} (hd : decode y.2.1 pc = .ok (.invokestatic idx, 3)) (hw1 : Cond.methodLink y.1.cls idx arraycopyName ∈ sh_ws) (hw2 : Cond.native arraycopyName ∈ sh_ws) (hw3 : Cond.static arraycopyName ∈ sh_ws) (hw4 : Cond.initialized "java/lang/System" ∈ sh_ws) (hfr : 1 ≤ y.2.2.2.2.1.1) (hlo : 60 ≤ y.2.2.2.2.1.2) (hst : st.length ≤ 8) (hk1 : sh_is n o1 8 N1) (hk2 : sh_is n o2 8 N2) (hN1 : N1 < 2147483648) (hN2 : N2 < 2147483648)
    (h0 : 0 ≤ k ∧ 0 ≤ sp ∧ 0 ≤ dp) (h1 : sp + k ≤ (N1 : Int)) (h2 : dp + k ≤ (N2 : Int)) (h : sh_O y (pc + 3) ls st cn (n, sh_cpy I o1 o2 sp dp k, P) Q) : sh_O y pc ls (.inl k :: .inl dp :: .inr o2 :: .inl sp :: .inr o1 :: st) cn (n, I, P) Q := by
  intro p l e R s m args below meth c Z D A H0 ad ac H locs la hX hA hR hL hc hret
  have hRR : y.2.2.2.2 = ((R.frames, R.locals), (R.cells, R.slots)) := by rw [hX.2.2.2.2.2.2]; rfl
  rw [hRR] at hfr hlo
  have he1 := sh_W_get (ad := ad) (ac := ac) (σ := (n, I, P)) hk1
  rw [sh_E_arr (by decide) (by decide)] at he1
  have he2 := sh_W_get (ad := ad) (ac := ac) (σ := (n, I, P)) hk2
  rw [sh_E_arr (by decide) (by decide)] at he2
  have bk : sh_Bd k := ⟨by omega, by omega⟩
  have bs : sh_Bd sp := ⟨by omega, by omega⟩
  have bd : sh_Bd dp := ⟨by omega, by omega⟩
  have ek : (Int32.ofInt k).toNatClampNeg = k.toNat := by show (Int32.ofInt k).toInt.toNat = _; rw [sh_ti bk]
  have es : (Int32.ofInt sp).toNatClampNeg = sp.toNat := by show (Int32.ofInt sp).toInt.toNat = _; rw [sh_ti bs]
  have ed : (Int32.ofInt dp).toNatClampNeg = dp.toNat := by show (Int32.ofInt dp).toInt.toNat = _; rw [sh_ti bd]
  have hK2 : va_K D vwCl [(ac o1, .int), (ac o2, .int)] s := by
    refine ⟨hR.1.1, fun j q hq => ?_⟩
    match j, hq with
    | 0, hq => cases hq; exact hR.1.2.1 o1 8 N1 hk1 (by decide) (by decide)
    | 1, hq => cases hq; exact hR.1.2.1 o2 8 N2 hk2 (by decide) (by decide)
    | j + 2, hq => simp at hq
  refine va_copyi hX.1 hX.2.1 (by rw [hX.2.2.1]; exact hL.1.symm) hX.2.2.2.1 (hX.2.2.2.2.1 _ hw1) (hX.2.2.2.2.1 _ hw2) (hX.2.2.2.2.1 _ hw3) (hX.2.2.2.2.1 _ hw4) hK2 hR.2.1 hR.2.2.1 hR.2.2.2.1 (o1 - 1) (o2 - 1) 0 1 he1 he2 rfl rfl rfl ?_ ?_ ?_ ?_ ?_ (fun i _ => rfl) hfr ?_ hd (fun H1 locs1 hP1 hD1 hS1 => ?_)
  · rw [sh_z, sh_ltI bs sh_Bd0]; omega
  · rw [sh_z, sh_ltI bd sh_Bd0]; omega
  · rw [sh_z, sh_ltI bk sh_Bd0]; omega
  · rw [ek, es]; omega
  · rw [ek, ed]; omega
  · rw [sh_catsum]
    have h9 : nativeFrameWords "java/lang/System" "arraycopy" 5 + 11 ≤ 50 := by decide +kernel
    have : 60 ≤ R.locals := hlo
    omega
  · have e1 : (sh_W ad ac (n, I, P)).set (o2 - 1) (ad o2, .inl (ac o2, N2, .inl (va_cpy (sh_ia I o1) (sh_ia I o2) (Int32.ofInt sp).toNatClampNeg (Int32.ofInt dp).toNatClampNeg (Int32.ofInt k).toNatClampNeg))) = sh_W ad ac (n, sh_cpy I o1 o2 sp dp k, P) := by
      refine sh_W_set hk2 (fun j hj => ?_) (fun _ _ => rfl) ?_
      · funext b
        simp [sh_cpy, hj]
      · rw [sh_E_arr (by decide) (by decide), ek, es, ed]
        congr 4
        funext j
        simp only [va_cpy, sh_ia, sh_cpy]
        by_cases hj : dp.toNat ≤ j ∧ j < dp.toNat + k.toNat
        · rw [if_pos hj, if_pos ⟨trivial, by omega, by omega⟩]
          congr 2
          omega
        · rw [if_neg hj, if_neg (fun q => hj ⟨by omega, by omega⟩)]
    obtain ⟨a1, -, -, -, b1, c1, d1, g1, j1⟩ := hR
    have hz : sh_cpy I o1 o2 sp dp k 0 = I 0 := by
      funext b
      have : ¬ 0 = o2 := fun q => absurd hk2.2.2 (by omega)
      simp [sh_cpy, this]
    refine h p l e R s m args below meth c Z D A H0 ad ac H1 locs1 la hX hA ⟨a1, by rw [← e1]; exact hP1, by rw [← e1]; exact hD1, hS1, ?_, c1, d1, g1, j1⟩ hL hc hret
    show va_X (ad 0) (sh_cpy I o1 o2 sp dp k 0 0).toNat (fun j => Int32.ofInt (sh_cpy I o1 o2 sp dp k 0 ((j : Int) + 1))) s H0
    rw [hz]
    exact b1
/-! switches -/
theorem sh_tableOut {y : sh_M} {pc : Nat} {ls : List (Option sh_V)} {st : List sh_V} {cn : Nat × Nat} {σ : sh_St} {Q : Option Int → sh_St → Prop} {dflt lo hi : Int} {offs : Array Int} {len : Nat} {x : Int} {tgt : Nat} (hd : decode y.2.1 pc = .ok (.tableswitch dflt lo hi offs, len)) (hx : sh_Bd x) (hh : x < lo ∨ hi < x) (ht : (pc : Int) + dflt = (tgt : Int)) (h : sh_O y tgt ls st cn σ Q) : sh_O y pc ls (.inl x :: st) cn σ Q := by
  intro p l e R s m args below meth c Z D A H0 ad ac H locs la hX hA hR hL hc hret
  exact lv_tableOut hX.1 hX.2.1 hd (by rw [sh_ti hx]; exact hh) ht (h p l e R s m args below meth c Z D A H0 ad ac H locs la hX hA hR hL hc hret)
theorem sh_tableIn {y : sh_M} {pc : Nat} {ls : List (Option sh_V)} {st : List sh_V} {cn : Nat × Nat} {σ : sh_St} {Q : Option Int → sh_St → Prop} {dflt lo hi : Int} {offs : Array Int} {len : Nat} {x k off : Int} {tgt : Nat} (hd : decode y.2.1 pc = .ok (.tableswitch dflt lo hi offs, len)) (hx : x = k) (hk : sh_Bd k) (h1 : ¬ k < lo) (h2 : ¬ hi < k) (ho : offs[(k - lo).toNat]? = some off) (ht : (pc : Int) + off = (tgt : Int)) (h : sh_O y tgt ls st cn σ Q) : sh_O y pc ls (.inl x :: st) cn σ Q := by
  intro p l e R s m args below meth c Z D A H0 ad ac H locs la hX hA hR hL hc hret
  subst hx
  exact lv_tableIn hX.1 hX.2.1 hd (by rw [sh_ti hk]; exact h1) (by rw [sh_ti hk]; exact h2) (by rw [sh_ti hk]; exact ho) ht (h p l e R s m args below meth c Z D A H0 ad ac H locs la hX hA hR hL hc hret)
theorem sh_lookup {y : sh_M} {pc : Nat} {ls : List (Option sh_V)} {st : List sh_V} {cn : Nat × Nat} {σ : sh_St} {Q : Option Int → sh_St → Prop} {dflt : Int} {ps : Array (Int × Int)} {len : Nat} {x off : Int} {tgt : Nat} (hd : decode y.2.1 pc = .ok (.lookupswitch dflt ps, len)) (hp : (ps.toList.zip (ps.toList.drop 1)).all (fun (a, next) => a.1 < next.1) = true) (hx : sh_Bd x) (ho : Op.lookupswitch.offset ps.toList dflt x = off) (ht : (pc : Int) + off = (tgt : Int)) (h : sh_O y tgt ls st cn σ Q) : sh_O y pc ls (.inl x :: st) cn σ Q := by
  intro p l e R s m args below meth c Z D A H0 ad ac H locs la hX hA hR hL hc hret
  exact lv_lookup hX.1 hX.2.1 hd hp (by rw [sh_ti hx]; exact ho) ht (h p l e R s m args below meth c Z D A H0 ad ac H locs la hX hA hR hL hc hret)
end
section
/-! calls -/
def sh_U (D : va_G) (ad : Nat → Nat) (ac : Nat → ClassId) (σ : sh_St) (A : Nat → Prop) (U : State) : Prop :=
  sh_K D ac σ.1 U ∧ va_P D vwCl (sh_W ad ac σ) U.heap ∧ va_D A (sh_W ad ac σ) ∧ va_X (ad 0) (σ.2.1 0 0).toNat (fun j => Int32.ofInt (σ.2.1 0 ((j : Int) + 1))) U U.heap ∧ ad 0 < U.heap.size ∧ (∀ (k : Nat) (q : Nat × va_E), (sh_W ad ac σ)[k]? = some q → q.1 ≠ ad 0) ∧ (∀ o f q, σ.2.2 o f = some q → q < σ.1) ∧ 0 < σ.1
/-- what a call of y with these arguments brings about, from any heap that holds the memory -/
def sh_C (y : sh_M) (as : List sh_V) (σ : sh_St) (Q : Option Int → sh_St → Prop) : Prop :=
  ∀ (l : Launch) (D : va_G) (ad : Nat → Nat) (ac : Nat → ClassId) (sz : Nat),
    Met l y.1 (sh_wsy y) (sh_rm y) (va_Pc (as.map (sh_tr ad)) (fun U => U.heap.size = sz ∧ sh_U D ad ac σ (fun _ => True) U))
      (fun _ st o t => (∃ (r : Option Int) (σ' : sh_St) (ad' : Nat → Nat) (ac' : Nat → ClassId), Q r σ' ∧ o = .returned (r.map (fun z => Value.int (Int32.ofInt z))) ∧ sh_U D ad' ac' σ' (va_A (sh_W ad ac σ) sz) t ∧
        (y.2.2.2.2.2.1 = 0 → ad' = ad ∧ ac' = ac) ∧ (∀ k, k < σ.1 → ad' k = ad k ∧ ac' k = ac k) ∧ σ.1 ≤ σ'.1) ∧ va_F (va_A (sh_W ad ac σ) sz) st t)
      y.2.2.2.2.2.1 y.2.2.2.2.2.2 (va_A (sh_W ad ac σ) sz)
theorem sh_U.blind {D : va_G} {ad : Nat → Nat} {ac : Nat → ClassId} {σ : sh_St} {A : Nat → Prop} {U : State} {g : JFrame} {mk : MethodId} {a : Array Value} (h : sh_U D ad ac σ A U) : sh_U D ad ac σ A (U.calling g mk a) := by
  obtain ⟨a1, a2, a3, a4, a5, a6, a7, a8⟩ := h
  have hv : U.vm.Alike (U.calling g mk a).vm := Vm.Alike.refl U.vm
  exact ⟨⟨fun c q hq => u_Kn_moved hv (a1.1 c q hq), fun o ci N x y z => ⟨arrOfT_moved hv (a1.2.1 o ci N x y z).1, (a1.2.1 o ci N x y z).2.moved hv⟩, fun q hq => va_Nw.same (u := U) (U := U.calling g mk a) rfl rfl (a1.2.2.1 q hq), a1.2.2.2.moved hv⟩, a2, a3, a4.moved hv, a5, a6, a7, a8⟩
theorem sh_C.mono {y : sh_M} {as : List sh_V} {σ : sh_St} {Q Q' : Option Int → sh_St → Prop} (h : sh_C y as σ Q) (hq : ∀ r σ', Q r σ' → Q' r σ') : sh_C y as σ Q' := by
  intro l D ad ac sz
  intro p e b1 b2 b3 s m args below b4 b5 b6 b7
  obtain ⟨k, o, c1, c2, c3, ⟨⟨r, σ', ad', ac', h1, h2⟩, h3⟩, c5⟩ := h l D ad ac sz p e b1 b2 b3 s m args below b4 b5 b6 b7
  exact ⟨k, o, c1, c2, c3, ⟨⟨r, σ', ad', ac', hq r σ' h1, h2⟩, h3⟩, c5⟩
theorem sh_lg_one {ad : Nat → Nat} (vs : List sh_V) : lg_sl (vs.map (sh_tr ad)) = vs.map (fun v => Slot.val (sh_tr ad v)) := by
  induction vs with
  | nil => rfl
  | cons v vs ih =>
    simp only [lg_sl, List.map_cons, List.flatMap_cons] at ih ⊢
    rw [ih, if_neg (by rw [sh_tr_cat]; decide)]
    rfl
theorem sh_lg_len {ad : Nat → Nat} (vs : List sh_V) : (lg_sl (vs.map (sh_tr ad))).length = vs.length := by rw [sh_lg_one, List.length_map]
theorem sh_L_entry {ad : Nat → Nat} {as : List sh_V} {n : Nat} (hn : as.length ≤ n) : sh_L ad ((lg_sl (as.map (sh_tr ad)) ++ List.replicate (n - (lg_sl (as.map (sh_tr ad))).length) Slot.unset).toArray) n (as.map some ++ List.replicate (n - as.length) none) := by
  have hlv := lv_entry (as.map (sh_tr ad)) (n := n) (by rw [sh_lg_len]; exact hn)
  refine ⟨hlv.1, hlv.2.1, fun i v hi => ?_⟩
  rw [sh_lg_one]
  by_cases h : i < as.length
  · rw [List.getElem?_append_left (by simpa using h), List.getElem?_map] at hi
    rw [List.getElem?_toArray, List.getElem?_append_left (by simpa using h), List.getElem?_map]
    cases hq : as[i]? with
    | none => rw [hq] at hi; cases hi
    | some w => rw [hq] at hi; simp only [Option.map_some, Option.some.injEq] at hi ⊢; rw [hi]
  · rw [List.getElem?_append_right (by simpa using h)] at hi
    rw [List.getElem?_replicate] at hi
    split at hi <;> simp at hi
/-- a body's walk is a contract -/
theorem sh_call {y : sh_M} {as : List sh_V} {σ : sh_St} {Q : Option Int → sh_St → Prop} (hy : plainName y.1.cls = true) (hlen : as.length ≤ y.2.2.1) (h : sh_O y 0 (as.map some ++ List.replicate (y.2.2.1 - as.length) none) [] (0, 0) σ Q) : sh_C y as σ Q := by
  intro l D ad ac sz
  refine Met.ofW (cc := y.2.1) (maxL := y.2.2.1) (ret := y.2.2.2.1) hy rfl ?_
  intro p e s m args below meth c s₁ B hml hv
  obtain ⟨rfl, hsz, a1, a2, a3, a4, a5, a6, a7, a8⟩ := hv
  have hts := atoms_spec (ws := sh_wsy y) B.pre
  have hX : sh_X y p (sh_rm y) s m (as.map (sh_tr ad)).toArray meth c := ⟨B.exec, B.bytes, hml, findClass_of_methodNamed B.named, fun w hw => hts w (List.mem_cons_of_mem _ hw), fun hi => (name_of_methodNamed B.named B.method).1.trans hi, rfl⟩
  have hA : ∀ q : Nat, s.heap.size ≤ q → va_A (sh_W ad ac σ) sz q := fun q hq => Or.inr (by omega)
  have hnA : ¬ va_A (sh_W ad ac σ) sz (ad 0) := by
    rintro (⟨k, e9, hk⟩ | hle)
    · exact a6 k _ hk rfl
    · omega
  have hR : sh_R D ad ac σ (va_A (sh_W ad ac σ) sz) s s.heap s.heap [] := ⟨a1, a2, a3.self, va_S.rf, a4, a5, hnA, a7, a8⟩
  rw [lg_entry_eq]
  refine h p l e (sh_rm y) s m _ below meth c _ D (va_A (sh_W ad ac σ) sz) s.heap ad ac s.heap [] _ hX hA hR (sh_L_entry hlen) ⟨Nat.zero_le _, Nat.zero_le _⟩ ?_
  intro r σ' ad' ac' H' locs' la' pc' hQ hR' h0 hs hle hr
  have hU : ∀ t : State, t.heap = H' → s.WarmedH t.vm → sh_U D ad' ac' σ' (va_A (sh_W ad ac σ) sz) t := by
    intro t ht hW
    obtain ⟨c1, c2, c3, c4, c5, c6, c7, c8, c9⟩ := hR'
    refine ⟨c1.moved hW, by rw [ht]; exact c2, c3, ?_, ?_, fun k q hk he => c7 (by rw [← he]; exact c3.2 k q hk), c8, c9⟩
    · rw [ht]
      exact (c5.kept (c4.2.1 _ c6 c7)).moved hW.alike
    · rw [ht]
      exact Nat.lt_of_lt_of_le c6 c4.1
  cases r with
  | none =>
    obtain ⟨hd, hrt⟩ := hr
    exact W.vret hX.1 hX.2.1 (by rw [B.returns]; exact hrt) (fun t ht hW => ⟨⟨none, σ', ad', ac', hQ, rfl, hU t ht hW, h0, hs, hle⟩, hR'.2.2.2.1.F ht⟩) hR'.2.2.2.1.2.2 hd B.notSynchronized
  | some z =>
    obtain ⟨hd, ty, hrt, hnr⟩ := hr
    exact W.zret hX.1 hX.2.1 (ty := ty) (by rw [B.returns]; exact hrt) hnr (fun t ht hW => ⟨⟨some z, σ', ad', ac', hQ, rfl, hU t ht hW, h0, hs, hle⟩, hR'.2.2.2.1.F ht⟩) hR'.2.2.2.1.2.2 hd B.notSynchronized
/-- the words of a callee among ours -/
theorem sh_good {y : sh_M} (h : Cond.code y.1 y.2.1 y.2.2.1 y.2.2.2.1 ∈ sh_ws) : GoodIn sh_ws (sh_wsy y) := by
  have hg : ∀ w ∈ sh_ws, w ∈ sh_ws ∧ ((w.onTables && w.keeps) = true ∨ ∃ ty, w = .arrayClass ty) := fun w hw => ⟨hw, good_of_word (List.mem_filter.mp hw).2⟩
  intro w hw
  rcases List.mem_cons.mp hw with e | hw
  · rw [e]
    exact hg _ h
  · exact hg w hw
def sh_cd (y : sh_M) (n : Nat) : Prop := Cond.code y.1 y.2.1 y.2.2.1 y.2.2.2.1 ∈ sh_ws ∧ (y.1.cls ≠ "java/lang/invoke/MethodHandle" ∧ y.1.cls ≠ "java/lang/invoke/VarHandle" ∧ (parseMethodDescriptor y.1.desc).map (fun d => d.parameters.length) = some n) ∧ Cond.initialized y.1.cls ∈ sh_ws ∧ plainName y.1.cls = true
def sh_LV (own : String) (idx : Nat) (y : sh_M) (n ci N : Nat) : Prop := sh_cd y n ∧ Cond.methodLink own idx y.1 ∈ sh_ws ∧ Cond.instanceMethod y.1 ∈ sh_ws ∧ Cond.selects y.1.cls y.1 y.1 ∈ sh_ws ∧ ∃ T, sh_cls ci y.1.cls T N
def sh_LS (own : String) (idx : Nat) (y : sh_M) (n : Nat) : Prop := sh_cd y n ∧ Cond.methodLink own idx y.1 ∈ sh_ws ∧ Cond.static y.1 ∈ sh_ws
def sh_LSN (own : String) (idx : Nat) (y : sh_M) (n : Nat) : Prop := sh_cd y n ∧ (∃ host, (own, idx, y.1, host) ∈ sh_nest) ∧ Cond.static y.1 ∈ sh_ws
def sh_LI (own : String) (idx : Nat) (y : sh_M) (n : Nat) : Prop := sh_cd y n ∧ Cond.methodLink own idx y.1 ∈ sh_ws ∧ Cond.instanceMethod y.1 ∈ sh_ws ∧ y.1.name = "<init>" ∧ y.2.2.2.1 = none
def sh_LIN (own : String) (idx : Nat) (y : sh_M) (n : Nat) : Prop := sh_cd y n ∧ (∃ host, (own, idx, y.1, host) ∈ sh_nest) ∧ Cond.instanceMethod y.1 ∈ sh_ws ∧ y.1.name = "<init>" ∧ y.2.2.2.1 = none
/-- room for a call of y2 in y, with cells and slots made so far -/
def sh_fit (y y2 : sh_M) (cn : Nat × Nat) (k : Nat) : Prop := y2.2.2.2.2.1.1 + 1 ≤ y.2.2.2.2.1.1 ∧ 8 + (y2.2.2.1 + 11) + y2.2.2.2.2.1.2 ≤ y.2.2.2.2.1.2 ∧ cn.1 + y2.2.2.2.2.2.1 ≤ y.2.2.2.2.2.1 ∧ cn.2 + y2.2.2.2.2.2.2 ≤ y.2.2.2.2.2.2 ∧ k ≤ 8
/-- behind a call, whatever kind it was -/
theorem sh_back {y y2 : sh_M} {pc : Nat} {ls : List (Option sh_V)} {st : List sh_V} {st0 : List Value} {cn : Nat × Nat} {σ : sh_St} {Q Q1 : Option Int → sh_St → Prop}
    {p : Program} {l : Launch} {e : Env} {R : Room} {s : State} {m : MethodId} {args : Array Value} {below : List Frame} {meth : Method} {c : Code} {Z : State → Prop}
    {D : va_G} {A : Nat → Prop} {H0 : Heap} {ad : Nat → Nat} {ac : Nat → ClassId} {H : Heap} {locs : List Loc} {la : Array Slot}
    (hX : sh_X y p R s m args meth c) (hA : ∀ q, H0.size ≤ q → A q) (hR : sh_R D ad ac σ A s H0 H locs) (hL : sh_L ad la y.2.2.1 ls) (hmc : cn.1 + y2.2.2.2.2.2.1 ≤ y.2.2.2.2.2.1 ∧ cn.2 + y2.2.2.2.2.2.2 ≤ y.2.2.2.2.2.2)
    (hret : ∀ (r : Option Int) (σ' : sh_St) (ad' : Nat → Nat) (ac' : Nat → ClassId) (H' : Heap) (locs' : List Loc) (la' : Array Slot) (pc' : Nat), Q r σ' → sh_R D ad' ac' σ' A s H0 H' locs' →
      (y.2.2.2.2.2.1 = 0 → ad' = ad ∧ ac' = ac) → (∀ k, k < σ.1 → ad' k = ad k ∧ ac' k = ac k) → σ.1 ≤ σ'.1 → sh_ret y pc' r →
      W p l e R s m args below meth c H' locs' y.2.2.2.2.2.1 y.2.2.2.2.2.2 Z (F0 m pc' la' (r.map (fun z => Value.int (Int32.ofInt z))).toList))
    (hst : y2.2.2.2.2.2.1 = 0 ∨ (sh_noref σ.1 st ∧ ∀ o : Nat, some (Sum.inr o) ∈ ls → o < σ.1))
    (h : ∀ r σ', Q1 r σ' → sh_O y (pc + 3) ls (r.toList.map Sum.inl ++ st) (cn.1 + y2.2.2.2.2.2.1, cn.2 + y2.2.2.2.2.2.2) σ' Q)
    (hr : va_Run p l e R s m args below meth c H locs cn.1 cn.2 y2.2.2.2.2.2.1 y2.2.2.2.2.2.2 (F0 m pc la st0) (st.map (sh_tr ad)) (fun st o t => (∃ (r : Option Int) (σ' : sh_St) (ad' : Nat → Nat) (ac' : Nat → ClassId), Q1 r σ' ∧ o = .returned (r.map (fun z => Value.int (Int32.ofInt z))) ∧ sh_U D ad' ac' σ' (va_A (sh_W ad ac σ) H.size) t ∧
        (y2.2.2.2.2.2.1 = 0 → ad' = ad ∧ ac' = ac) ∧ (∀ k, k < σ.1 → ad' k = ad k ∧ ac' k = ac k) ∧ σ.1 ≤ σ'.1) ∧ va_F (va_A (sh_W ad ac σ) H.size) st t) (va_A (sh_W ad ac σ) H.size)) :
    W p l e R s m args below meth c H locs cn.1 cn.2 Z (F0 m pc la st0) := by
  intro T hT X
  obtain ⟨v, st₀, t, T', L, g0, X', hLf, e1, e2, ⟨⟨r, σ', ad', ac', hQ, ho, hU, k0, ks, kle⟩, hz, hk⟩, stp⟩ := hr T hT X
  cases ho
  rw [g0] at hz hk
  obtain ⟨a1, a2, a3, a4, b1, c1, d1, g1, j1⟩ := hR
  have hAA : ∀ q, va_A (sh_W ad ac σ) H.size q → A q := by
    rintro q (⟨k, e9, hk9⟩ | hle)
    · exact a3.2 k _ hk9
    · exact hA q (Nat.le_trans a4.1 hle)
  have hS1 : va_S A H0 T'.heap (locs ++ L) := ⟨Nat.le_trans a4.1 (by rw [e1]; exact hz), fun q h1 h2 => by
      rw [e1, hk q (Nat.lt_of_lt_of_le h1 a4.1) (fun z => h2 (hAA q z))]
      exact a4.2.1 q h1 h2, fun q hq => by
      rcases List.mem_append.mp hq with h | h
      · exact a4.2.2 q h
      · exact hAA _ (hLf q h)⟩
  obtain ⟨u1, u2, u3, u4, u5, u6, u7, u8⟩ := hU
  have hal : t.vm.Alike s.vm := by rw [← e2]; exact X'.warmed.alike.symm
  have hK1 : sh_K D ac' σ'.1 s := ⟨a1.1, fun o ci N x y z => ⟨arrOfT_moved hal (u1.2.1 o ci N x y z).1, (u1.2.1 o ci N x y z).2.moved hal⟩, a1.2.2.1, a1.2.2.2⟩
  have hX1 : va_X (ad' 0) (σ'.2.1 0 0).toNat (fun j => Int32.ofInt (σ'.2.1 0 ((j : Int) + 1))) s H0 := by
    have h1 : va_X (ad' 0) (σ'.2.1 0 0).toNat (fun j => Int32.ofInt (σ'.2.1 0 ((j : Int) + 1))) s t.heap := u4.moved hal
    refine h1.kept ?_
    rw [(ks 0 j1).1]
    have h9 := hS1.2.1 _ c1 d1
    rw [e1] at h9
    exact h9.symm
  have hR1 : sh_R D ad' ac' σ' A s H0 T'.heap (locs ++ L) := ⟨hK1, by rw [e1]; exact u2, u3.weaken (fun k q hk h => hAA _ h), hS1, hX1, by rw [(ks 0 j1).1]; exact c1, by rw [(ks 0 j1).1]; exact d1, u7, u8⟩
  have hsame : st.map (sh_tr ad') = st.map (sh_tr ad) ∧ sh_L ad' la y.2.2.1 ls := by
    rcases hst with h9 | ⟨h9, h10⟩
    · rw [(k0 h9).1]
      exact ⟨rfl, hL⟩
    · exact ⟨sh_tr_same h9 (fun k hk => (ks k hk).1), hL.same h10 (fun k hk => (ks k hk).1)⟩
  have hgo := h r σ' hQ p l e R s m args below meth c Z D A H0 ad' ac' T'.heap (locs ++ L) la hX hA hR1 hsame.2 hmc (fun r2 σ2 ad2 ac2 H2 locs2 la2 pc2 q1 q2 q3 q4 q5 q6 =>
    hret r2 σ2 ad2 ac2 H2 locs2 la2 pc2 q1 q2 (fun h9 => by
      have hz9 : y2.2.2.2.2.2.1 = 0 := by have := hmc.1; omega
      exact ⟨(q3 h9).1.trans (k0 hz9).1, (q3 h9).2.trans (k0 hz9).2⟩) (fun k hk => ⟨(q4 k (Nat.lt_of_lt_of_le hk kle)).1.trans (ks k hk).1, (q4 k (Nat.lt_of_lt_of_le hk kle)).2.trans (ks k hk).2⟩) (Nat.le_trans kle q5) q6)
  have est : (r.toList.map Sum.inl ++ st).map (sh_tr ad') = (r.map (fun z => Value.int (Int32.ofInt z))).toList ++ st.map (sh_tr ad) := by
    rw [List.map_append, hsame.1]
    cases r <;> rfl
  rw [est] at hgo
  obtain ⟨t2, q1, q2⟩ := hgo T' rfl X'
  exact ⟨t2, stp t2 q1, q2⟩
theorem sh_preS {D : va_G} {ad : Nat → Nat} {ac : Nat → ClassId} {σ : sh_St} {A : Nat → Prop} {s : State} {H0 H : Heap} {locs : List Loc} {as : List sh_V} (hR : sh_R D ad ac σ A s H0 H locs) : PreS s H (va_Pc (as.map (sh_tr ad)) (fun U => U.heap.size = H.size ∧ sh_U D ad ac σ (fun _ => True) U)) (as.map (sh_tr ad)) := by
  obtain ⟨a1, a2, a3, a4, b1, c1, d1, g1, j1⟩ := hR
  refine ⟨fun a U g mk q => ⟨q.1, q.2.1, q.2.2.blind⟩, fun U hU hW => ⟨rfl, by rw [hU], a1.moved hW, by rw [hU]; exact a2, a3.weaken (fun _ _ _ _ => trivial), ?_, ?_, fun k q hk he => d1 (by rw [← he]; exact a3.2 k q hk), g1, j1⟩⟩
  · have h9 : va_X (ad 0) (σ.2.1 0 0).toNat (fun j => Int32.ofInt (σ.2.1 0 ((j : Int) + 1))) s U.heap := by
      rw [hU]
      exact b1.kept (a4.2.1 _ c1 d1)
    exact h9.moved hW.alike
  · rw [hU]
    exact Nat.lt_of_lt_of_le c1 a4.1
theorem sh_recv {D : va_G} {ad : Nat → Nat} {ac : Nat → ClassId} {σ : sh_St} {A : Nat → Prop} {s : State} {H0 H : Heap} {locs : List Loc} {o ci N : Nat} {C : String} {T : u_T} (hR : sh_R D ad ac σ A s H0 H locs) (hC : sh_cls ci C T N) (hk : sh_is σ.1 o ci N) : ∃ cellB : Cell, H[ad o]? = some cellB ∧ cellB.vm.isStatics = false ∧ s.vm.findClass C = some cellB.cls := by
  have he := sh_W_get (ad := ad) (ac := ac) hk
  rw [sh_E_obj hC.2.2.2.2] at he
  exact va_recv hR.1.none hR.2.1 hC.1 he
theorem sh_callS {y y2 : sh_M} {pc : Nat} {ls : List (Option sh_V)} {st : List sh_V} {cn : Nat × Nat} {σ : sh_St} {Q Q1 : Option Int → sh_St → Prop} {idx n : Nat} {as : List sh_V}  (hd : decode y.2.1 pc = .ok (.invokestatic idx, 3)) (hl : sh_LS y.1.cls idx y2 n) (hC : sh_C y2 as σ Q1) (hn : as.length = n) (hf : sh_fit y y2 cn st.length) (hst : y2.2.2.2.2.2.1 = 0 ∨ (sh_noref σ.1 st ∧ ∀ o : Nat, some (Sum.inr o) ∈ ls → o < σ.1)) (h : ∀ r σ', Q1 r σ' → sh_O y (pc + 3) ls (r.toList.map Sum.inl ++ st) (cn.1 + y2.2.2.2.2.2.1, cn.2 + y2.2.2.2.2.2.2) σ' Q) : sh_O y pc ls (as.reverse ++ st) cn σ Q := by
  intro p l e R s m args below meth c Z D A H0 ad ac H locs la hX hA hR hL hc hret
  obtain ⟨hcd, hw1, hw2⟩ := hl
  have hRR : y.2.2.2.2 = ((R.frames, R.locals), (R.cells, R.slots)) := by rw [hX.2.2.2.2.2.2]; rfl
  have hf0 := hf
  unfold sh_fit at hf
  rw [hRR] at hf
  have hroom : 2 * (F0 m pc la ((as.reverse ++ st).map (sh_tr ad))).monitorRoom + ((st.map (sh_tr ad)).map fun v => v.category).sum ≤ 8 := by
    show 2 * 0 + _ ≤ 8
    rw [sh_catsum]
    have := hf.2.2.2.2
    omega
  exact sh_back hX hA hR hL ⟨hf0.2.2.1, hf0.2.2.2.1⟩ hret hst h (va_runS (As := as.map (sh_tr ad)) (rest := st.map (sh_tr ad)) ⟨hX.1, hX.2.1, hX.2.2.1, hX.2.2.2.1, hX.2.2.2.2.1⟩ (hC l D ad ac H.size) ⟨callB_of n hX.2.2.2.2.1 (sh_good hcd.1) rfl rfl rfl (hX.2.2.2.2.1 _ hcd.2.2.1) (hX.2.2.2.2.1 _ hw1) hcd.2.1 ⟨hf.1, hf.2.1⟩, hX.2.2.2.2.1 _ hw2⟩ (sh_preS hR) rfl (by rw [List.length_map]; exact hn) hL.1 (by rw [List.map_append, List.map_reverse]) hroom hd ⟨hf.2.2.1, hf.2.2.2.1⟩)
theorem sh_callSN {y y2 : sh_M} {pc : Nat} {ls : List (Option sh_V)} {st : List sh_V} {cn : Nat × Nat} {σ : sh_St} {Q Q1 : Option Int → sh_St → Prop} {idx n : Nat} {as : List sh_V}  (hd : decode y.2.1 pc = .ok (.invokestatic idx, 3)) (hl : sh_LSN y.1.cls idx y2 n) (hC : sh_C y2 as σ Q1) (hn : as.length = n) (hf : sh_fit y y2 cn st.length) (hst : y2.2.2.2.2.2.1 = 0 ∨ (sh_noref σ.1 st ∧ ∀ o : Nat, some (Sum.inr o) ∈ ls → o < σ.1)) (h : ∀ r σ', Q1 r σ' → sh_O y (pc + 3) ls (r.toList.map Sum.inl ++ st) (cn.1 + y2.2.2.2.2.2.1, cn.2 + y2.2.2.2.2.2.2) σ' Q) : sh_O y pc ls (as.reverse ++ st) cn σ Q := by
  intro p l e R s m args below meth c Z D A H0 ad ac H locs la hX hA hR hL hc hret
  obtain ⟨hcd, ⟨host, hw1⟩, hw2⟩ := hl
  have hRR : y.2.2.2.2 = ((R.frames, R.locals), (R.cells, R.slots)) := by rw [hX.2.2.2.2.2.2]; rfl
  have hf0 := hf
  unfold sh_fit at hf
  rw [hRR] at hf
  have hroom : 2 * (F0 m pc la ((as.reverse ++ st).map (sh_tr ad))).monitorRoom + ((st.map (sh_tr ad)).map fun v => v.category).sum ≤ 8 := by
    show 2 * 0 + _ ≤ 8
    rw [sh_catsum]
    have := hf.2.2.2.2
    omega
  exact sh_back hX hA hR hL ⟨hf0.2.2.1, hf0.2.2.2.1⟩ hret hst h (va_runSN (As := as.map (sh_tr ad)) (rest := st.map (sh_tr ad)) ⟨hX.1, hX.2.1, hX.2.2.1, hX.2.2.2.1, hX.2.2.2.2.1⟩ (hC l D ad ac H.size) ⟨va_cnB n hX.2.2.2.2.1 (sh_good hcd.1) rfl rfl rfl (hR.1.2.2.1 _ hw1) (hX.2.2.2.2.1 _ hcd.2.2.1) hcd.2.1 ⟨hf.1, hf.2.1⟩, hX.2.2.2.2.1 _ hw2, trivial⟩ (sh_preS hR) rfl (by rw [List.length_map]; exact hn) hL.1 (by rw [List.map_append, List.map_reverse]) hroom hd ⟨hf.2.2.1, hf.2.2.2.1⟩)
theorem sh_callV {y y2 : sh_M} {pc : Nat} {ls : List (Option sh_V)} {st : List sh_V} {cn : Nat × Nat} {σ : sh_St} {Q Q1 : Option Int → sh_St → Prop} {idx n : Nat} {as : List sh_V} {o ci N : Nat} (hk : sh_is σ.1 o ci N) (hd : decode y.2.1 pc = .ok (.invokevirtual idx, 3)) (hl : sh_LV y.1.cls idx y2 n ci N) (hC : sh_C y2 (.inr o :: as) σ Q1) (hn : as.length = n) (hf : sh_fit y y2 cn st.length) (hst : y2.2.2.2.2.2.1 = 0 ∨ (sh_noref σ.1 st ∧ ∀ o : Nat, some (Sum.inr o) ∈ ls → o < σ.1)) (h : ∀ r σ', Q1 r σ' → sh_O y (pc + 3) ls (r.toList.map Sum.inl ++ st) (cn.1 + y2.2.2.2.2.2.1, cn.2 + y2.2.2.2.2.2.2) σ' Q) : sh_O y pc ls (as.reverse ++ .inr o :: st) cn σ Q := by
  intro p l e R s m args below meth c Z D A H0 ad ac H locs la hX hA hR hL hc hret
  obtain ⟨hcd, hw1, hw2, hw3, T, hcl⟩ := hl
  have hRR : y.2.2.2.2 = ((R.frames, R.locals), (R.cells, R.slots)) := by rw [hX.2.2.2.2.2.2]; rfl
  have hf0 := hf
  unfold sh_fit at hf
  rw [hRR] at hf
  have hroom : 2 * (F0 m pc la ((as.reverse ++ .inr o :: st).map (sh_tr ad))).monitorRoom + ((st.map (sh_tr ad)).map fun v => v.category).sum ≤ 8 := by
    show 2 * 0 + _ ≤ 8
    rw [sh_catsum]
    have := hf.2.2.2.2
    omega
  exact sh_back hX hA hR hL ⟨hf0.2.2.1, hf0.2.2.2.1⟩ hret hst h (va_runV (C := y2.1.cls) (b := ad o) (As := as.map (sh_tr ad)) (rest := st.map (sh_tr ad)) ⟨hX.1, hX.2.1, hX.2.2.1, hX.2.2.2.1, hX.2.2.2.2.1⟩ (hC l D ad ac H.size) ⟨callB_of n hX.2.2.2.2.1 (sh_good hcd.1) rfl rfl rfl (hX.2.2.2.2.1 _ hcd.2.2.1) (hX.2.2.2.2.1 _ hw1) hcd.2.1 ⟨hf.1, hf.2.1⟩, hX.2.2.2.2.1 _ hw2, hX.2.2.2.2.1 _ hw3⟩ ⟨(sh_preS (as := .inr o :: as) hR).1, sh_recv hR hcl hk, (sh_preS (as := .inr o :: as) hR).2⟩ rfl (by rw [List.length_map]; exact hn) hL.1 (by rw [List.map_append, List.map_reverse]; rfl) hroom hd ⟨hf.2.2.1, hf.2.2.2.1⟩)
theorem sh_callI {y y2 : sh_M} {pc : Nat} {ls : List (Option sh_V)} {st : List sh_V} {cn : Nat × Nat} {σ : sh_St} {Q Q1 : Option Int → sh_St → Prop} {idx n : Nat} {as : List sh_V} {o : Nat} (hd : decode y.2.1 pc = .ok (.invokespecial idx, 3)) (hl : sh_LI y.1.cls idx y2 n) (hC : sh_C y2 (.inr o :: as) σ Q1) (hn : as.length = n) (hf : sh_fit y y2 cn st.length) (hst : y2.2.2.2.2.2.1 = 0 ∨ (sh_noref σ.1 st ∧ ∀ o : Nat, some (Sum.inr o) ∈ ls → o < σ.1)) (h : ∀ r σ', Q1 r σ' → sh_O y (pc + 3) ls (r.toList.map Sum.inl ++ st) (cn.1 + y2.2.2.2.2.2.1, cn.2 + y2.2.2.2.2.2.2) σ' Q) : sh_O y pc ls (as.reverse ++ .inr o :: st) cn σ Q := by
  intro p l e R s m args below meth c Z D A H0 ad ac H locs la hX hA hR hL hc hret
  obtain ⟨hcd, hw1, hw2, hnm, hrn⟩ := hl
  have hRR : y.2.2.2.2 = ((R.frames, R.locals), (R.cells, R.slots)) := by rw [hX.2.2.2.2.2.2]; rfl
  have hf0 := hf
  unfold sh_fit at hf
  rw [hRR] at hf
  have hroom : 2 * (F0 m pc la ((as.reverse ++ .inr o :: st).map (sh_tr ad))).monitorRoom + ((st.map (sh_tr ad)).map fun v => v.category).sum ≤ 8 := by
    show 2 * 0 + _ ≤ 8
    rw [sh_catsum]
    have := hf.2.2.2.2
    omega
  exact sh_back hX hA hR hL ⟨hf0.2.2.1, hf0.2.2.2.1⟩ hret hst h (va_runI (b := ad o) (As := as.map (sh_tr ad)) (rest := st.map (sh_tr ad)) ⟨hX.1, hX.2.1, hX.2.2.1, hX.2.2.2.1, hX.2.2.2.2.1⟩ (hC l D ad ac H.size) ⟨callB_of n hX.2.2.2.2.1 (sh_good (y := y2) hcd.1) (by rw [← hrn]; rfl) rfl rfl (hX.2.2.2.2.1 _ hcd.2.2.1) (hX.2.2.2.2.1 _ hw1) hcd.2.1 ⟨hf.1, hf.2.1⟩, hnm, hX.2.2.2.2.1 _ hw2⟩ (sh_preS (as := .inr o :: as) hR) rfl (by rw [List.length_map]; exact hn) hL.1 (by rw [List.map_append, List.map_reverse]; rfl) hroom hd ⟨hf.2.2.1, hf.2.2.2.1⟩)
theorem sh_callIN {y y2 : sh_M} {pc : Nat} {ls : List (Option sh_V)} {st : List sh_V} {cn : Nat × Nat} {σ : sh_St} {Q Q1 : Option Int → sh_St → Prop} {idx n : Nat} {as : List sh_V} {o : Nat} (hd : decode y.2.1 pc = .ok (.invokespecial idx, 3)) (hl : sh_LIN y.1.cls idx y2 n) (hC : sh_C y2 (.inr o :: as) σ Q1) (hn : as.length = n) (hf : sh_fit y y2 cn st.length) (hst : y2.2.2.2.2.2.1 = 0 ∨ (sh_noref σ.1 st ∧ ∀ o : Nat, some (Sum.inr o) ∈ ls → o < σ.1)) (h : ∀ r σ', Q1 r σ' → sh_O y (pc + 3) ls (r.toList.map Sum.inl ++ st) (cn.1 + y2.2.2.2.2.2.1, cn.2 + y2.2.2.2.2.2.2) σ' Q) : sh_O y pc ls (as.reverse ++ .inr o :: st) cn σ Q := by
  intro p l e R s m args below meth c Z D A H0 ad ac H locs la hX hA hR hL hc hret
  obtain ⟨hcd, ⟨host, hw1⟩, hw2, hnm, hrn⟩ := hl
  have hRR : y.2.2.2.2 = ((R.frames, R.locals), (R.cells, R.slots)) := by rw [hX.2.2.2.2.2.2]; rfl
  have hf0 := hf
  unfold sh_fit at hf
  rw [hRR] at hf
  have hroom : 2 * (F0 m pc la ((as.reverse ++ .inr o :: st).map (sh_tr ad))).monitorRoom + ((st.map (sh_tr ad)).map fun v => v.category).sum ≤ 8 := by
    show 2 * 0 + _ ≤ 8
    rw [sh_catsum]
    have := hf.2.2.2.2
    omega
  exact sh_back hX hA hR hL ⟨hf0.2.2.1, hf0.2.2.2.1⟩ hret hst h (va_runIN (b := ad o) (As := as.map (sh_tr ad)) (rest := st.map (sh_tr ad)) ⟨hX.1, hX.2.1, hX.2.2.1, hX.2.2.2.1, hX.2.2.2.2.1⟩ (hC l D ad ac H.size) ⟨va_cnB n hX.2.2.2.2.1 (sh_good (y := y2) hcd.1) (by rw [← hrn]; rfl) rfl rfl (hR.1.2.2.1 _ hw1) (hX.2.2.2.2.1 _ hcd.2.2.1) hcd.2.1 ⟨hf.1, hf.2.1⟩, hnm, hX.2.2.2.2.1 _ hw2⟩ (sh_preS (as := .inr o :: as) hR) rfl (by rw [List.length_map]; exact hn) hL.1 (by rw [List.map_append, List.map_reverse]; rfl) hroom hd ⟨hf.2.2.1, hf.2.2.2.1⟩)
end
section
/-! ===== 06b: the law's own arrays, and worlds that grow and shrink ===== -/
/-- a world: how many objects there are, and the map of objects -/
abbrev sh_Cx : Type := Nat × sh_Ptr
/-- the object o is an array of the law's own, of N whole numbers -/
def dy (c : sh_Cx) (o N : Nat) : Prop := (119 ≤ o ∧ o < c.1) ∧ c.2 o 0 = some N ∧ N < 119
theorem sh_KD_dyn {o : Nat} (h : 119 ≤ o) : sh_KD o = (12, 0) := by
  have e : sh_KDl.length = 119 := by decide +kernel
  show sh_KDl.getD o (12, 0) = (12, 0)
  rw [List.getD_eq_getElem?_getD, List.getElem?_eq_none (by omega)]
  rfl
theorem dy.is {c : sh_Cx} {o N : Nat} (h : dy c o N) : sh_is c.1 o 12 0 := ⟨h.1.2, sh_KD_dyn h.1.1, by have := h.1.1; omega⟩
/-- from this place of y on, in the world c over the memory I -/
abbrev kl (c : sh_Cx) (cn : Nat × Nat) (y : sh_M) (pc : Nat) (ls : List (Option sh_V)) (st : List sh_V) (I : sh_Mem) (Q : Option Int → sh_St → Prop) : Prop := sh_O y pc ls st cn (c.1, I, c.2) Q
theorem l_ald {y : sh_M} {pc : Nat} {ls : List (Option sh_V)} {st : List sh_V} {cn : Nat × Nat} {c : sh_Cx} {I : sh_Mem} {Q : Option Int → sh_St → Prop} {o N : Nat} {i : Int} (hd : decode y.2.1 pc = .ok (.iaload, 1)) (hk : dy c o N) (hi : 0 ≤ i ∧ i < (N : Int)) (h : kl c cn y (pc + 1) ls (.inl (I o i) :: st) I Q) : kl c cn y pc ls (.inl i :: .inr o :: st) I Q := by
  intro p l e R s m args below meth cc Z D A H0 ad ac H locs la hX hA hR hL hc hret
  have he := sh_W_get (ad := ad) (ac := ac) (σ := (c.1, I, c.2)) hk.is
  rw [sh_E_dyn hk.2.1] at he
  have hv := sh_vin hi (by have := hk.2.2; omega)
  refine va_iald hX.1 hX.2.1 (hR.1.one hk.is (by decide) (by decide)) hR.2.1 (o - 1) 0 he rfl hv.1 hd ?_
  rw [hv.2]
  show W p l e R s m args below meth cc H locs cn.1 cn.2 Z (F0 m (pc + 1) la (.int (sh_ia I o i.toNat) :: st.map (sh_tr ad)))
  rw [sh_ia_at hi.1]
  exact h p l e R s m args below meth cc Z D A H0 ad ac H locs la hX hA hR hL hc hret
theorem l_ast {y : sh_M} {pc : Nat} {ls : List (Option sh_V)} {st : List sh_V} {cn : Nat × Nat} {c : sh_Cx} {I : sh_Mem} {Q : Option Int → sh_St → Prop} {o N : Nat} {i v : Int} (hd : decode y.2.1 pc = .ok (.iastore, 1)) (hk : dy c o N) (hi : 0 ≤ i ∧ i < (N : Int)) (h : kl c cn y (pc + 1) ls st (sh_u I o i v) Q) : kl c cn y pc ls (.inl v :: .inl i :: .inr o :: st) I Q := by
  intro p l e R s m args below meth cc Z D A H0 ad ac H locs la hX hA hR hL hc hret
  have he := sh_W_get (ad := ad) (ac := ac) (σ := (c.1, I, c.2)) hk.is
  rw [sh_E_dyn hk.2.1] at he
  have hv := sh_vin hi (by have := hk.2.2; omega)
  refine va_iast hX.1 hX.2.1 (hR.1.one hk.is (by decide) (by decide)) hR.2.1 hR.2.2.1 hR.2.2.2.1 (o - 1) 0 he rfl hv.1 hd (fun H1 locs1 hP1 hD1 hS1 => ?_)
  have e1 : (sh_W ad ac (c.1, I, c.2)).set (o - 1) (ad o, .inl (ac o, N, .inl (upd (sh_ia I o) (Int32.ofInt i).toNatClampNeg (Int32.ofInt v)))) = sh_W ad ac (c.1, sh_u I o i v, c.2) := by
    rw [hv.2, sh_ia_set (v := v) hi.1 rfl]
    exact sh_W_set hk.is (fun k hk2 => sh_u_ne hk2) (fun _ _ => rfl) (sh_E_dyn hk.2.1)
  exact h p l e R s m args below meth cc Z D A H0 ad ac H1 locs1 la hX hA (hR.putI hk.is.2.2 (by rw [← e1]; exact hP1) (by rw [← e1]; exact hD1) hS1) hL hc hret
theorem l_alen {y : sh_M} {pc : Nat} {ls : List (Option sh_V)} {st : List sh_V} {cn : Nat × Nat} {c : sh_Cx} {I : sh_Mem} {Q : Option Int → sh_St → Prop} {o N : Nat} (hd : decode y.2.1 pc = .ok (.arraylength, 1)) (hk : dy c o N) (h : kl c cn y (pc + 1) ls (.inl (N : Int) :: st) I Q) : kl c cn y pc ls (.inr o :: st) I Q := by
  intro p l e R s m args below meth cc Z D A H0 ad ac H locs la hX hA hR hL hc hret
  have he := sh_W_get (ad := ad) (ac := ac) (σ := (c.1, I, c.2)) hk.is
  rw [sh_E_dyn hk.2.1] at he
  exact va_alen hX.1 hX.2.1 (hR.1.one hk.is (by decide) (by decide)) hR.2.1 (o - 1) 0 he rfl (v := Int32.ofInt (N : Int)) rfl hd (h p l e R s m args below meth cc Z D A H0 ad ac H locs la hX hA hR hL hc hret)
/-! a world with one array more -/
def sh_cl (I : sh_Mem) (n : Nat) : sh_Mem := fun o => if o = n then fun _ => 0 else I o
def cp (c : sh_Cx) (N : Nat) : sh_Cx := (c.1 + 1, sh_uP c.2 c.1 0 N)
theorem sh_cl_lt {I : sh_Mem} {n k : Nat} (h : k ≠ n) : sh_cl I n k = I k := by simp [sh_cl, h]
theorem sh_cl_self {I : sh_Mem} {n : Nat} {f : Int} : sh_cl I n n f = 0 := by simp [sh_cl]
theorem dy.push {c : sh_Cx} {o N M : Nat} (h : dy c o N) : dy (cp c M) o N := ⟨⟨h.1.1, by have := h.1.2; show o < c.1 + 1; omega⟩, by
  show sh_uP c.2 c.1 0 M o 0 = some N
  rw [sh_uP_ne (by have := h.1.2; omega)]
  exact h.2.1, h.2.2⟩
theorem dy.top {c : sh_Cx} {M : Nat} (h : 119 ≤ c.1) (hM : M < 119) : dy (cp c M) c.1 M := ⟨⟨h, by show c.1 < c.1 + 1; omega⟩, by show sh_uP c.2 c.1 0 M c.1 0 = some M; simp [sh_uP], hM⟩
theorem sh_W_ext {ad : Nat → Nat} {ac : Nat → ClassId} {n : Nat} {I I' : sh_Mem} {P P' : sh_Ptr} (h1 : ∀ k, 0 < k → k < n → I' k = I k) (h2 : ∀ k, 0 < k → k < n → P' k = P k) : sh_W ad ac (n, I', P') = sh_W ad ac (n, I, P) := by
  apply List.map_congr_left
  intro k hk
  have hk2 : k < n - 1 := List.mem_range.mp hk
  show (ad (k + 1), sh_E ad ac I' P' (k + 1) (sh_KD (k + 1))) = (ad (k + 1), sh_E ad ac I P (k + 1) (sh_KD (k + 1)))
  rw [sh_E_congr (h1 _ (by omega) (by omega)) (h2 _ (by omega) (by omega))]
theorem l_newa {y : sh_M} {pc : Nat} {ls : List (Option sh_V)} {st : List sh_V} {cn : Nat × Nat} {c : sh_Cx} {I : sh_Mem} {Q : Option Int → sh_St → Prop} {N : Nat} {z : Int} (hd : decode y.2.1 pc = .ok (.newarray .int, 2)) (hw : Cond.arrayClass (newarray.typeOf .int) ∈ sh_ws) (hzN : z = (N : Int)) (hN : N < 119) (hn : 119 ≤ c.1)
    (hst : sh_noref c.1 st) (hls : ∀ o : Nat, some (Sum.inr o) ∈ ls → o < c.1) (hmc : cn.1 + 1 ≤ y.2.2.2.2.2.1 ∧ cn.2 + N ≤ y.2.2.2.2.2.2) (h : kl (cp c N) (cn.1 + 1, cn.2 + N) y (pc + 2) ls (.inr c.1 :: st) (sh_cl I c.1) Q) : kl c cn y pc ls (.inl z :: st) I Q := by
  intro p l e R s m args below meth cc Z D A H0 ad ac H locs la hX hA hR hL hc hret
  have hRR : y.2.2.2.2.2.1 = R.cells ∧ y.2.2.2.2.2.2 = R.slots := by rw [hX.2.2.2.2.2.2]; exact ⟨rfl, rfl⟩
  subst hzN
  have hb : sh_Bd (N : Int) := ⟨by omega, by omega⟩
  have hia : sh_ia (sh_cl I c.1) c.1 = fun _ => (0 : Int32) := by
    funext j
    simp only [sh_ia, sh_cl_self]
    rfl
  have eI : ∀ k, k < c.1 → sh_cl I c.1 k = I k := fun k hk => sh_cl_lt (by omega)
  have eP : ∀ k, k < c.1 → sh_uP c.2 c.1 0 N k = c.2 k := fun k hk => sh_uP_ne (by omega)
  have eW := sh_W_ext (ad := ad) (ac := ac) (n := c.1) (I := I) (I' := sh_cl I c.1) (P := c.2) (P' := sh_uP c.2 c.1 0 N) (fun k _ hk => eI k hk) (fun k _ hk => eP k hk)
  have hR' : sh_R D ad ac (c.1, sh_cl I c.1, sh_uP c.2 c.1 0 N) A s H0 H locs := by
    obtain ⟨a1, a2, a3, a4, b1, c1, d1, g1, j1⟩ := hR
    refine ⟨a1, by rw [eW]; exact a2, by rw [eW]; exact a3, a4, ?_, c1, d1, fun o f q hq => ?_, j1⟩
    · show va_X (ad 0) (sh_cl I c.1 0 0).toNat (fun j => Int32.ofInt (sh_cl I c.1 0 ((j : Int) + 1))) s H0
      rw [eI 0 j1]
      exact b1
    · have hq2 : sh_uP c.2 c.1 0 N o f = some q := hq
      simp only [sh_uP] at hq2
      show q < c.1
      split at hq2
      · cases hq2
        omega
      · exact g1 o f q hq2
  refine va_newa (N' := N) (a0 := (N, .inl (sh_ia (sh_cl I c.1) c.1))) hX.1 hX.2.1 (hX.2.2.2.2.1 _ hw) rfl hR'.1.none hR'.2.1 hR'.2.2.1 hR'.2.2.2.1 hA (fun cA => ?_) ?_ ?_ ?_ (by rw [← hRR.1]; exact hmc.1) (by rw [← hRR.2]; exact hmc.2) hd (fun q cA H1 hK1 hP1 hD1 hS1 => ?_)
  · rw [hia, vp_cell_i]
    rfl
  · rw [sh_z, sh_ltI hb sh_Bd0]
    omega
  · show (Int32.ofInt (N : Int)).toInt.toNat = N
    rw [sh_ti hb]
    rfl
  · calc N * componentBytes (newarray.typeOf .int) ≤ 119 * 4 := Nat.mul_le_mul (by omega) (by decide)
      _ ≤ 536870912 := by decide
  · refine sh_made (M := N) (cA := cA) hX hA hR' hL hmc hret hst hls (sh_KD_dyn hn) h ?_ (fun _ _ => ?_) hP1 hD1 hS1
    · rw [sh_E_dyn (M := N) (show sh_uP c.2 c.1 0 N c.1 0 = some N by simp [sh_uP]), sh_ext_self]
    · exact hK1.2 0 (cA, newarray.typeOf .int) rfl
/-! numbers of the law's own -/
theorem sh_and31' {a : Int} : ∃ v : Int, (0 ≤ v ∧ v < 2147483648) ∧ Int32.ofInt a &&& Int32.ofInt 2147483647 = Int32.ofInt v := by
  refine ⟨(Int32.ofInt a &&& Int32.ofInt 2147483647).toInt, ?_, (Int32.ofInt_toInt _).symm⟩
  have h1 := Int32.toInt_lt (Int32.ofInt a &&& Int32.ofInt 2147483647)
  refine ⟨?_, h1⟩
  have e : (Int32.ofInt a &&& Int32.ofInt 2147483647).toInt = ((Int32.ofInt a).toBitVec &&& 2147483647#32).toInt := rfl
  rw [e, BitVec.toInt_eq_toNat_of_lt]
  · omega
  · have h2 : ((Int32.ofInt a).toBitVec &&& 2147483647#32).toNat ≤ 2147483647 := by
      rw [BitVec.toNat_and]
      exact Nat.and_le_right
    omega
theorem l_iand {y : sh_M} {pc : Nat} {ls : List (Option sh_V)} {st : List sh_V} {cn : Nat × Nat} {σ : sh_St} {Q : Option Int → sh_St → Prop} {a : Int} (hd : decode y.2.1 pc = .ok (.iand, 1)) (h : ∀ v : Int, 0 ≤ v ∧ v < 2147483648 → sh_O y (pc + 1) ls (.inl v :: st) cn σ Q) : sh_O y pc ls (.inl 2147483647 :: .inl a :: st) cn σ Q := by
  intro p l e R s m args below meth c Z D A H0 ad ac H locs la hX hA hR hL hc hret
  obtain ⟨v, h1, h2⟩ := sh_and31' (a := a)
  refine lv_iand hX.1 hX.2.1 hd ?_
  rw [h2]
  exact h v h1 p l e R s m args below meth c Z D A H0 ad ac H locs la hX hA hR hL hc hret
theorem l_ishr {y : sh_M} {pc : Nat} {ls : List (Option sh_V)} {st : List sh_V} {cn : Nat × Nat} {σ : sh_St} {Q : Option Int → sh_St → Prop} {a b : Int} (hd : decode y.2.1 pc = .ok (.ishr, 1)) (h : ∀ v : Int, sh_Bd v → sh_O y (pc + 1) ls (.inl v :: st) cn σ Q) : sh_O y pc ls (.inl b :: .inl a :: st) cn σ Q := by
  intro p l e R s m args below meth c Z D A H0 ad ac H locs la hX hA hR hL hc hret
  refine lv_ishr hX.1 hX.2.1 hd ?_
  have hh := h (Int32.ofInt a >>> (Int32.ofInt b &&& 31)).toInt ⟨Int32.le_toInt _, Int32.toInt_lt _⟩ p l e R s m args below meth c Z D A H0 ad ac H locs la hX hA hR hL hc hret
  have e1 : sh_tr ad (.inl (Int32.ofInt a >>> (Int32.ofInt b &&& 31)).toInt) = .int (Int32.ofInt a >>> (Int32.ofInt b &&& 31)) := by
    show Value.int (Int32.ofInt _) = _
    rw [Int32.ofInt_toInt]
  rw [List.map_cons, e1] at hh
  exact hh
theorem l_icmp_eq {y : sh_M} {pc : Nat} {ls : List (Option sh_V)} {st : List sh_V} {cn : Nat × Nat} {σ : sh_St} {Q : Option Int → sh_St → Prop} {a b off : Int} {tgt : Nat} (hd : decode y.2.1 pc = .ok (.if_icmp .eq off, 3)) (ht : (pc : Int) + off = (tgt : Int)) (hb : a = b ∨ (sh_Bd a ∧ sh_Bd b)) (h1 : a = b → sh_O y tgt ls st cn σ Q) (h2 : ¬ a = b → sh_O y (pc + 3) ls st cn σ Q) : sh_O y pc ls (.inl b :: .inl a :: st) cn σ Q := by
  by_cases e : a = b
  · intro p l e' R s m args below meth c Z D A H0 ad ac H locs la hX hA hR hL hc hret
    subst e
    exact lv_icmp_eq hX.1 hX.2.1 hd ht (fun _ => h1 rfl p l e' R s m args below meth c Z D A H0 ad ac H locs la hX hA hR hL hc hret) (fun q => absurd rfl q)
  · have hb2 := hb.resolve_left e
    exact sh_icmp_eq hd ht hb2.1 hb2.2 h1 h2
theorem l_icmp_ne {y : sh_M} {pc : Nat} {ls : List (Option sh_V)} {st : List sh_V} {cn : Nat × Nat} {σ : sh_St} {Q : Option Int → sh_St → Prop} {a b off : Int} {tgt : Nat} (hd : decode y.2.1 pc = .ok (.if_icmp .ne off, 3)) (ht : (pc : Int) + off = (tgt : Int)) (hb : a = b ∨ (sh_Bd a ∧ sh_Bd b)) (h1 : ¬ a = b → sh_O y tgt ls st cn σ Q) (h2 : a = b → sh_O y (pc + 3) ls st cn σ Q) : sh_O y pc ls (.inl b :: .inl a :: st) cn σ Q := by
  by_cases e : a = b
  · intro p l e' R s m args below meth c Z D A H0 ad ac H locs la hX hA hR hL hc hret
    subst e
    exact lv_icmp_ne hX.1 hX.2.1 hd ht (fun q => absurd rfl q) (fun _ => h2 rfl p l e' R s m args below meth c Z D A H0 ad ac H locs la hX hA hR hL hc hret)
  · have hb2 := hb.resolve_left e
    exact sh_icmp_ne hd ht hb2.1 hb2.2 h1 h2
theorem l_astore {y : sh_M} {pc : Nat} {ls : List (Option sh_V)} (ls' : List (Option sh_V)) {st : List sh_V} {cn : Nat × Nat} {σ : sh_St} {Q : Option Int → sh_St → Prop} {i x : Nat} (hd : decode y.2.1 pc = .ok (.astore i, 2)) (hs : ls.set i (some (.inr x)) = ls') (hn : i < y.2.2.1) (h : sh_O y (pc + 2) ls' st cn σ Q) : sh_O y pc ls (.inr x :: st) cn σ Q := by
  intro p l e R s m args below meth c Z D A H0 ad ac H locs la hX hA hR hL hc hret
  subst hs
  exact lv_astore hX.1 hX.2.1 hd hL.has hn rfl (fun la' hl' => h p l e R s m args below meth c Z D A H0 ad ac H locs la' hX hA hR (sh_L.set (v := .inr x) hl') hc hret)
end
section
/-! ===== 07: words, classes, methods, fields, calls, by program ===== -/
theorem sh_inw (n : Nat) {w : Cond} (h : lw_tbl[n]? = some w) (g : goodWord w = true) : w ∈ sh_ws := List.mem_filter.mpr ⟨List.mem_of_getElem? h, g⟩
theorem cl_X0 : sh_cls 0 RX0 TX0 5 := ⟨rfl, by decide +kernel, tyX0_ok, nmX0, by decide⟩
theorem cl_X1 : sh_cls 1 RX1 TX1 7 := ⟨rfl, by decide +kernel, tyX1_ok, nmX1, by decide⟩
theorem cl_X2 : sh_cls 2 RX2 TX2 3 := ⟨rfl, by decide +kernel, tyX2_ok, nmX2, by decide⟩
theorem cl_X3 : sh_cls 3 RX3 TX3 4 := ⟨rfl, by decide +kernel, tyX3_ok, nmX3, by decide⟩
theorem cl_X4 : sh_cls 4 RX4 TX4 5 := ⟨rfl, by decide +kernel, tyX4_ok, nmX4, by decide⟩
theorem cl_X5 : sh_cls 5 RX5 TX5 12 := ⟨rfl, by decide +kernel, tyX5_ok, nmX5, by decide⟩
theorem cl_X6 : sh_cls 6 RX6 TX6 9 := ⟨rfl, by decide +kernel, tyX6_ok, nmX6, by decide⟩
abbrev mX0_init : sh_M := (yX0_init, cX0_init, 1, none, (1, 30), (4, 400))
theorem wc_X0_init : Cond.code yX0_init cX0_init 1 none ∈ sh_ws := sh_inw 195 (by decide +kernel) (by decide +kernel)
theorem wi_X0 : Cond.initialized RX0 ∈ sh_ws := sh_inw 15 (by decide +kernel) (by decide +kernel)
theorem cd_X0_init : sh_cd mX0_init 0 := ⟨wc_X0_init, ⟨by decide +kernel, by decide +kernel, by decide +kernel⟩, wi_X0, by decide +kernel⟩
abbrev mX0_clear : sh_M := (yX0_clear, cX0_clear, 2, none, (0, 0), (0, 0))
theorem wc_X0_clear : Cond.code yX0_clear cX0_clear 2 none ∈ sh_ws := sh_inw 285 (by decide +kernel) (by decide +kernel)
theorem cd_X0_clear : sh_cd mX0_clear 0 := ⟨wc_X0_clear, ⟨by decide +kernel, by decide +kernel, by decide +kernel⟩, wi_X0, by decide +kernel⟩
abbrev mX0_darken : sh_M := (yX0_darken, cX0_darken, 2, none, (1, 20), (0, 0))
theorem wc_X0_darken : Cond.code yX0_darken cX0_darken 2 none ∈ sh_ws := sh_inw 300 (by decide +kernel) (by decide +kernel)
theorem cd_X0_darken : sh_cd mX0_darken 1 := ⟨wc_X0_darken, ⟨by decide +kernel, by decide +kernel, by decide +kernel⟩, wi_X0, by decide +kernel⟩
abbrev mX0_block : sh_M := (yX0_block, cX0_block, 2, none, (1, 20), (0, 0))
theorem wc_X0_block : Cond.code yX0_block cX0_block 2 none ∈ sh_ws := sh_inw 307 (by decide +kernel) (by decide +kernel)
theorem cd_X0_block : sh_cd mX0_block 1 := ⟨wc_X0_block, ⟨by decide +kernel, by decide +kernel, by decide +kernel⟩, wi_X0, by decide +kernel⟩
abbrev mX0_darkCells : sh_M := (yX0_darkCells, cX0_darkCells, 3, (some .int), (0, 0), (0, 0))
theorem wc_X0_darkCells : Cond.code yX0_darkCells cX0_darkCells 3 (some .int) ∈ sh_ws := sh_inw 414 (by decide +kernel) (by decide +kernel)
theorem cd_X0_darkCells : sh_cd mX0_darkCells 0 := ⟨wc_X0_darkCells, ⟨by decide +kernel, by decide +kernel, by decide +kernel⟩, wi_X0, by decide +kernel⟩
abbrev mX0_stepsIntoTheDark : sh_M := (yX0_stepsIntoTheDark, cX0_stepsIntoTheDark, 5, (some .int), (2, 42), (0, 0))
theorem wc_X0_stepsIntoTheDark : Cond.code yX0_stepsIntoTheDark cX0_stepsIntoTheDark 5 (some .int) ∈ sh_ws := sh_inw 311 (by decide +kernel) (by decide +kernel)
theorem cd_X0_stepsIntoTheDark : sh_cd mX0_stepsIntoTheDark 1 := ⟨wc_X0_stepsIntoTheDark, ⟨by decide +kernel, by decide +kernel, by decide +kernel⟩, wi_X0, by decide +kernel⟩
abbrev mX0_enter : sh_M := (yX0_enter, cX0_enter, 3, none, (1, 20), (0, 0))
theorem wc_X0_enter : Cond.code yX0_enter cX0_enter 3 none ∈ sh_ws := sh_inw 315 (by decide +kernel) (by decide +kernel)
theorem cd_X0_enter : sh_cd mX0_enter 2 := ⟨wc_X0_enter, ⟨by decide +kernel, by decide +kernel, by decide +kernel⟩, wi_X0, by decide +kernel⟩
abbrev mX1_init : sh_M := (yX1_init, cX1_init, 1, none, (1, 30), (4, 120))
theorem wc_X1_init : Cond.code yX1_init cX1_init 1 none ∈ sh_ws := sh_inw 165 (by decide +kernel) (by decide +kernel)
theorem wi_X1 : Cond.initialized RX1 ∈ sh_ws := sh_inw 14 (by decide +kernel) (by decide +kernel)
theorem cd_X1_init : sh_cd mX1_init 0 := ⟨wc_X1_init, ⟨by decide +kernel, by decide +kernel, by decide +kernel⟩, wi_X1, by decide +kernel⟩
abbrev mX2_init : sh_M := (yX2_init, cX2_init, 2, none, (3, 70), (61, 312))
theorem wc_X2_init : Cond.code yX2_init cX2_init 2 none ∈ sh_ws := sh_inw 145 (by decide +kernel) (by decide +kernel)
theorem wi_X2 : Cond.initialized RX2 ∈ sh_ws := sh_inw 13 (by decide +kernel) (by decide +kernel)
theorem cd_X2_init : sh_cd mX2_init 0 := ⟨wc_X2_init, ⟨by decide +kernel, by decide +kernel, by decide +kernel⟩, wi_X2, by decide +kernel⟩
abbrev mX2_record : sh_M := (yX2_record, cX2_record, 3, none, (4, 123), (0, 0))
theorem wc_X2_record : Cond.code yX2_record cX2_record 3 none ∈ sh_ws := sh_inw 545 (by decide +kernel) (by decide +kernel)
theorem cd_X2_record : sh_cd mX2_record 1 := ⟨wc_X2_record, ⟨by decide +kernel, by decide +kernel, by decide +kernel⟩, wi_X2, by decide +kernel⟩
abbrev mX2_ringPlace : sh_M := (yX2_ringPlace, cX2_ringPlace, 2, (some (.object "ShadowTag$Platform")), (0, 0), (0, 0))
theorem wc_X2_ringPlace : Cond.code yX2_ringPlace cX2_ringPlace 2 (some (.object "ShadowTag$Platform")) ∈ sh_ws := sh_inw 549 (by decide +kernel) (by decide +kernel)
theorem cd_X2_ringPlace : sh_cd mX2_ringPlace 1 := ⟨wc_X2_ringPlace, ⟨by decide +kernel, by decide +kernel, by decide +kernel⟩, wi_X2, by decide +kernel⟩
abbrev mX3_init : sh_M := (yX3_init, cX3_init, 1, none, (1, 30), (4, 12))
theorem wc_X3_init : Cond.code yX3_init cX3_init 1 none ∈ sh_ws := sh_inw 98 (by decide +kernel) (by decide +kernel)
theorem wi_X3 : Cond.initialized RX3 ∈ sh_ws := sh_inw 12 (by decide +kernel) (by decide +kernel)
theorem cd_X3_init : sh_cd mX3_init 0 := ⟨wc_X3_init, ⟨by decide +kernel, by decide +kernel, by decide +kernel⟩, wi_X3, by decide +kernel⟩
abbrev mX3_copyFrom : sh_M := (yX3_copyFrom, cX3_copyFrom, 2, none, (2, 81), (0, 0))
theorem wc_X3_copyFrom : Cond.code yX3_copyFrom cX3_copyFrom 2 none ∈ sh_ws := sh_inw 340 (by decide +kernel) (by decide +kernel)
theorem cd_X3_copyFrom : sh_cd mX3_copyFrom 1 := ⟨wc_X3_copyFrom, ⟨by decide +kernel, by decide +kernel, by decide +kernel⟩, wi_X3, by decide +kernel⟩
abbrev mX3_burning : sh_M := (yX3_burning, cX3_burning, 3, (some .int), (0, 0), (0, 0))
theorem wc_X3_burning : Cond.code yX3_burning cX3_burning 3 (some .int) ∈ sh_ws := sh_inw 422 (by decide +kernel) (by decide +kernel)
theorem cd_X3_burning : sh_cd mX3_burning 0 := ⟨wc_X3_burning, ⟨by decide +kernel, by decide +kernel, by decide +kernel⟩, wi_X3, by decide +kernel⟩
abbrev mX3_switchTo : sh_M := (yX3_switchTo, cX3_switchTo, 4, (some .int), (1, 25), (0, 0))
theorem wc_X3_switchTo : Cond.code yX3_switchTo cX3_switchTo 4 (some .int) ∈ sh_ws := sh_inw 569 (by decide +kernel) (by decide +kernel)
theorem cd_X3_switchTo : sh_cd mX3_switchTo 2 := ⟨wc_X3_switchTo, ⟨by decide +kernel, by decide +kernel, by decide +kernel⟩, wi_X3, by decide +kernel⟩
abbrev mX3_adjust : sh_M := (yX3_adjust, cX3_adjust, 4, (some .int), (1, 25), (0, 0))
theorem wc_X3_adjust : Cond.code yX3_adjust cX3_adjust 4 (some .int) ∈ sh_ws := sh_inw 579 (by decide +kernel) (by decide +kernel)
theorem cd_X3_adjust : sh_cd mX3_adjust 3 := ⟨wc_X3_adjust, ⟨by decide +kernel, by decide +kernel, by decide +kernel⟩, wi_X3, by decide +kernel⟩
abbrev mX3_swingAtTurn : sh_M := (yX3_swingAtTurn, cX3_swingAtTurn, 3, none, (0, 0), (0, 0))
theorem wc_X3_swingAtTurn : Cond.code yX3_swingAtTurn cX3_swingAtTurn 3 none ∈ sh_ws := sh_inw 387 (by decide +kernel) (by decide +kernel)
theorem cd_X3_swingAtTurn : sh_cd mX3_swingAtTurn 1 := ⟨wc_X3_swingAtTurn, ⟨by decide +kernel, by decide +kernel, by decide +kernel⟩, wi_X3, by decide +kernel⟩
abbrev mX4_init : sh_M := (yX4_init, cX4_init, 1, none, (2, 50), (14, 72))
theorem wc_X4_init : Cond.code yX4_init cX4_init 1 none ∈ sh_ws := sh_inw 30 (by decide +kernel) (by decide +kernel)
theorem wi_X4 : Cond.initialized RX4 ∈ sh_ws := sh_inw 10 (by decide +kernel) (by decide +kernel)
theorem cd_X4_init : sh_cd mX4_init 0 := ⟨wc_X4_init, ⟨by decide +kernel, by decide +kernel, by decide +kernel⟩, wi_X4, by decide +kernel⟩
abbrev mX4_copyFrom : sh_M := (yX4_copyFrom, cX4_copyFrom, 2, none, (3, 102), (0, 0))
theorem wc_X4_copyFrom : Cond.code yX4_copyFrom cX4_copyFrom 2 none ∈ sh_ws := sh_inw 325 (by decide +kernel) (by decide +kernel)
theorem cd_X4_copyFrom : sh_cd mX4_copyFrom 1 := ⟨wc_X4_copyFrom, ⟨by decide +kernel, by decide +kernel, by decide +kernel⟩, wi_X4, by decide +kernel⟩
abbrev mX4_takeTurns : sh_M := (yX4_takeTurns, cX4_takeTurns, 4, (some .int), (4, 93), (0, 0))
theorem wc_X4_takeTurns : Cond.code yX4_takeTurns cX4_takeTurns 4 (some .int) ∈ sh_ws := sh_inw 593 (by decide +kernel) (by decide +kernel)
theorem cd_X4_takeTurns : sh_cd mX4_takeTurns 1 := ⟨wc_X4_takeTurns, ⟨by decide +kernel, by decide +kernel, by decide +kernel⟩, wi_X4, by decide +kernel⟩
abbrev mX4_takeTurn : sh_M := (yX4_takeTurn, cX4_takeTurn, 2, (some .boolean), (3, 72), (0, 0))
theorem wc_X4_takeTurn : Cond.code yX4_takeTurn cX4_takeTurn 2 (some .boolean) ∈ sh_ws := sh_inw 346 (by decide +kernel) (by decide +kernel)
theorem cd_X4_takeTurn : sh_cd mX4_takeTurn 0 := ⟨wc_X4_takeTurn, ⟨by decide +kernel, by decide +kernel, by decide +kernel⟩, wi_X4, by decide +kernel⟩
abbrev mX4_firstCaught : sh_M := (yX4_firstCaught, cX4_firstCaught, 5, (some .int), (2, 48), (0, 0))
theorem wc_X4_firstCaught : Cond.code yX4_firstCaught cX4_firstCaught 5 (some .int) ∈ sh_ws := sh_inw 365 (by decide +kernel) (by decide +kernel)
theorem cd_X4_firstCaught : sh_cd mX4_firstCaught 0 := ⟨wc_X4_firstCaught, ⟨by decide +kernel, by decide +kernel, by decide +kernel⟩, wi_X4, by decide +kernel⟩
abbrev mX4_catcherStandsInShadowOf : sh_M := (yX4_catcherStandsInShadowOf, cX4_catcherStandsInShadowOf, 4, (some .boolean), (3, 81), (0, 0))
theorem wc_X4_catcherStandsInShadowOf : Cond.code yX4_catcherStandsInShadowOf cX4_catcherStandsInShadowOf 4 (some .boolean) ∈ sh_ws := sh_inw 460 (by decide +kernel) (by decide +kernel)
theorem cd_X4_catcherStandsInShadowOf : sh_cd mX4_catcherStandsInShadowOf 1 := ⟨wc_X4_catcherStandsInShadowOf, ⟨by decide +kernel, by decide +kernel, by decide +kernel⟩, wi_X4, by decide +kernel⟩
abbrev mX4_isInShadow : sh_M := (yX4_isInShadow, cX4_isInShadow, 5, (some .boolean), (2, 57), (0, 0))
theorem wc_X4_isInShadow : Cond.code yX4_isInShadow cX4_isInShadow 5 (some .boolean) ∈ sh_ws := sh_inw 464 (by decide +kernel) (by decide +kernel)
theorem cd_X4_isInShadow : sh_cd mX4_isInShadow 3 := ⟨wc_X4_isInShadow, ⟨by decide +kernel, by decide +kernel, by decide +kernel⟩, wi_X4, by decide +kernel⟩
abbrev mX4_shadowLength : sh_M := (yX4_shadowLength, cX4_shadowLength, 8, (some .int), (1, 30), (0, 0))
theorem wc_X4_shadowLength : Cond.code yX4_shadowLength cX4_shadowLength 8 (some .int) ∈ sh_ws := sh_inw 265 (by decide +kernel) (by decide +kernel)
theorem cd_X4_shadowLength : sh_cd mX4_shadowLength 2 := ⟨wc_X4_shadowLength, ⟨by decide +kernel, by decide +kernel, by decide +kernel⟩, wi_X4, by decide +kernel⟩
abbrev mX4_shadowEnd : sh_M := (yX4_shadowEnd, cX4_shadowEnd, 4, (some .int), (2, 57), (0, 0))
theorem wc_X4_shadowEnd : Cond.code yX4_shadowEnd cX4_shadowEnd 4 (some .int) ∈ sh_ws := sh_inw 503 (by decide +kernel) (by decide +kernel)
theorem cd_X4_shadowEnd : sh_cd mX4_shadowEnd 2 := ⟨wc_X4_shadowEnd, ⟨by decide +kernel, by decide +kernel, by decide +kernel⟩, wi_X4, by decide +kernel⟩
abbrev mX4_hasShadow : sh_M := (yX4_hasShadow, cX4_hasShadow, 3, (some .boolean), (2, 57), (0, 0))
theorem wc_X4_hasShadow : Cond.code yX4_hasShadow cX4_hasShadow 3 (some .boolean) ∈ sh_ws := sh_inw 261 (by decide +kernel) (by decide +kernel)
theorem cd_X4_hasShadow : sh_cd mX4_hasShadow 1 := ⟨wc_X4_hasShadow, ⟨by decide +kernel, by decide +kernel, by decide +kernel⟩, wi_X4, by decide +kernel⟩
abbrev mX4_runnersWithoutShadow : sh_M := (yX4_runnersWithoutShadow, cX4_runnersWithoutShadow, 3, (some .int), (3, 79), (0, 0))
theorem wc_X4_runnersWithoutShadow : Cond.code yX4_runnersWithoutShadow cX4_runnersWithoutShadow 3 (some .int) ∈ sh_ws := sh_inw 430 (by decide +kernel) (by decide +kernel)
theorem cd_X4_runnersWithoutShadow : sh_cd mX4_runnersWithoutShadow 0 := ⟨wc_X4_runnersWithoutShadow, ⟨by decide +kernel, by decide +kernel, by decide +kernel⟩, wi_X4, by decide +kernel⟩
abbrev mX4_shadowerOf : sh_M := (yX4_shadowerOf, cX4_shadowerOf, 7, (some .int), (1, 22), (0, 0))
theorem wc_X4_shadowerOf : Cond.code yX4_shadowerOf cX4_shadowerOf 7 (some .int) ∈ sh_ws := sh_inw 369 (by decide +kernel) (by decide +kernel)
theorem cd_X4_shadowerOf : sh_cd mX4_shadowerOf 2 := ⟨wc_X4_shadowerOf, ⟨by decide +kernel, by decide +kernel, by decide +kernel⟩, wi_X4, by decide +kernel⟩
abbrev mX4_darkenShadowsOf : sh_M := (yX4_darkenShadowsOf, cX4_darkenShadowsOf, 4, none, (3, 84), (0, 0))
theorem wc_X4_darkenShadowsOf : Cond.code yX4_darkenShadowsOf cX4_darkenShadowsOf 4 none ∈ sh_ws := sh_inw 289 (by decide +kernel) (by decide +kernel)
theorem cd_X4_darkenShadowsOf : sh_cd mX4_darkenShadowsOf 2 := ⟨wc_X4_darkenShadowsOf, ⟨by decide +kernel, by decide +kernel, by decide +kernel⟩, wi_X4, by decide +kernel⟩
abbrev mX4_darkenShadow : sh_M := (yX4_darkenShadow, cX4_darkenShadow, 8, none, (2, 57), (0, 0))
theorem wc_X4_darkenShadow : Cond.code yX4_darkenShadow cX4_darkenShadow 8 none ∈ sh_ws := sh_inw 293 (by decide +kernel) (by decide +kernel)
theorem cd_X4_darkenShadow : sh_cd mX4_darkenShadow 3 := ⟨wc_X4_darkenShadow, ⟨by decide +kernel, by decide +kernel, by decide +kernel⟩, wi_X4, by decide +kernel⟩
abbrev mX5_init : sh_M := (yX5_init, cX5_init, 1, none, (1, 30), (7, 42))
theorem wc_X5_init : Cond.code yX5_init cX5_init 1 none ∈ sh_ws := sh_inw 36 (by decide +kernel) (by decide +kernel)
theorem wi_X5 : Cond.initialized RX5 ∈ sh_ws := sh_inw 11 (by decide +kernel) (by decide +kernel)
theorem cd_X5_init : sh_cd mX5_init 0 := ⟨wc_X5_init, ⟨by decide +kernel, by decide +kernel, by decide +kernel⟩, wi_X5, by decide +kernel⟩
abbrev mX5_copyFrom : sh_M := (yX5_copyFrom, cX5_copyFrom, 2, none, (2, 81), (0, 0))
theorem wc_X5_copyFrom : Cond.code yX5_copyFrom cX5_copyFrom 2 none ∈ sh_ws := sh_inw 329 (by decide +kernel) (by decide +kernel)
theorem cd_X5_copyFrom : sh_cd mX5_copyFrom 1 := ⟨wc_X5_copyFrom, ⟨by decide +kernel, by decide +kernel, by decide +kernel⟩, wi_X5, by decide +kernel⟩
abbrev mX5_has : sh_M := (yX5_has, cX5_has, 2, (some .boolean), (0, 0), (0, 0))
theorem wc_X5_has : Cond.code yX5_has cX5_has 2 (some .boolean) ∈ sh_ws := sh_inw 257 (by decide +kernel) (by decide +kernel)
theorem cd_X5_has : sh_cd mX5_has 1 := ⟨wc_X5_has, ⟨by decide +kernel, by decide +kernel, by decide +kernel⟩, wi_X5, by decide +kernel⟩
abbrev mX5_standingOn : sh_M := (yX5_standingOn, cX5_standingOn, 3, (some .int), (0, 0), (0, 0))
theorem wc_X5_standingOn : Cond.code yX5_standingOn cX5_standingOn 3 (some .int) ∈ sh_ws := sh_inw 361 (by decide +kernel) (by decide +kernel)
theorem cd_X5_standingOn : sh_cd mX5_standingOn 1 := ⟨wc_X5_standingOn, ⟨by decide +kernel, by decide +kernel, by decide +kernel⟩, wi_X5, by decide +kernel⟩
abbrev mX5_welcome : sh_M := (yX5_welcome, cX5_welcome, 4, (some .int), (1, 22), (0, 0))
theorem wc_X5_welcome : Cond.code yX5_welcome cX5_welcome 4 (some .int) ∈ sh_ws := sh_inw 536 (by decide +kernel) (by decide +kernel)
theorem cd_X5_welcome : sh_cd mX5_welcome 2 := ⟨wc_X5_welcome, ⟨by decide +kernel, by decide +kernel, by decide +kernel⟩, wi_X5, by decide +kernel⟩
abbrev mX5_steer : sh_M := (yX5_steer, cX5_steer, 3, (some .int), (1, 25), (0, 0))
theorem wc_X5_steer : Cond.code yX5_steer cX5_steer 3 (some .int) ∈ sh_ws := sh_inw 558 (by decide +kernel) (by decide +kernel)
theorem cd_X5_steer : sh_cd mX5_steer 2 := ⟨wc_X5_steer, ⟨by decide +kernel, by decide +kernel, by decide +kernel⟩, wi_X5, by decide +kernel⟩
abbrev mX5_stepAll : sh_M := (yX5_stepAll, cX5_stepAll, 2, none, (2, 46), (0, 0))
theorem wc_X5_stepAll : Cond.code yX5_stepAll cX5_stepAll 2 none ∈ sh_ws := sh_inw 350 (by decide +kernel) (by decide +kernel)
theorem cd_X5_stepAll : sh_cd mX5_stepAll 0 := ⟨wc_X5_stepAll, ⟨by decide +kernel, by decide +kernel, by decide +kernel⟩, wi_X5, by decide +kernel⟩
abbrev mX5_step : sh_M := (yX5_step, cX5_step, 5, none, (1, 22), (0, 0))
theorem wc_X5_step : Cond.code yX5_step cX5_step 5 none ∈ sh_ws := sh_inw 354 (by decide +kernel) (by decide +kernel)
theorem cd_X5_step : sh_cd mX5_step 1 := ⟨wc_X5_step, ⟨by decide +kernel, by decide +kernel, by decide +kernel⟩, wi_X5, by decide +kernel⟩
abbrev mX5_handOver : sh_M := (yX5_handOver, cX5_handOver, 3, none, (1, 21), (0, 0))
theorem wc_X5_handOver : Cond.code yX5_handOver cX5_handOver 3 none ∈ sh_ws := sh_inw 375 (by decide +kernel) (by decide +kernel)
theorem cd_X5_handOver : sh_cd mX5_handOver 2 := ⟨wc_X5_handOver, ⟨by decide +kernel, by decide +kernel, by decide +kernel⟩, wi_X5, by decide +kernel⟩
abbrev mX5_shortenRespites : sh_M := (yX5_shortenRespites, cX5_shortenRespites, 2, none, (0, 0), (0, 0))
theorem wc_X5_shortenRespites : Cond.code yX5_shortenRespites cX5_shortenRespites 2 none ∈ sh_ws := sh_inw 379 (by decide +kernel) (by decide +kernel)
theorem cd_X5_shortenRespites : sh_cd mX5_shortenRespites 0 := ⟨wc_X5_shortenRespites, ⟨by decide +kernel, by decide +kernel, by decide +kernel⟩, wi_X5, by decide +kernel⟩
abbrev mX5_addToAccounts : sh_M := (yX5_addToAccounts, cX5_addToAccounts, 2, none, (0, 0), (0, 0))
theorem wc_X5_addToAccounts : Cond.code yX5_addToAccounts cX5_addToAccounts 2 none ∈ sh_ws := sh_inw 383 (by decide +kernel) (by decide +kernel)
theorem cd_X5_addToAccounts : sh_cd mX5_addToAccounts 0 := ⟨wc_X5_addToAccounts, ⟨by decide +kernel, by decide +kernel, by decide +kernel⟩, wi_X5, by decide +kernel⟩
abbrev mX5_spin : sh_M := (yX5_spin, cX5_spin, 4, none, (0, 0), (0, 0))
theorem wc_X5_spin : Cond.code yX5_spin cX5_spin 4 none ∈ sh_ws := sh_inw 391 (by decide +kernel) (by decide +kernel)
theorem cd_X5_spin : sh_cd mX5_spin 0 := ⟨wc_X5_spin, ⟨by decide +kernel, by decide +kernel, by decide +kernel⟩, wi_X5, by decide +kernel⟩
abbrev mX6_init : sh_M := (yX6_init, cX6_init, 1, none, (4, 91), (117, 1078))
theorem wc_X6_init : Cond.code yX6_init cX6_init 1 none ∈ sh_ws := sh_inw 22 (by decide +kernel) (by decide +kernel)
theorem wi_X6 : Cond.initialized RX6 ∈ sh_ws := sh_inw 9 (by decide +kernel) (by decide +kernel)
theorem cd_X6_init : sh_cd mX6_init 0 := ⟨wc_X6_init, ⟨by decide +kernel, by decide +kernel, by decide +kernel⟩, wi_X6, by decide +kernel⟩
abbrev mX6_come : sh_M := (yX6_come, cX6_come, 3, (some .int), (6, 166), (0, 0))
theorem wc_X6_come : Cond.code yX6_come cX6_come 3 (some .int) ∈ sh_ws := sh_inw 532 (by decide +kernel) (by decide +kernel)
theorem cd_X6_come : sh_cd mX6_come 2 := ⟨wc_X6_come, ⟨by decide +kernel, by decide +kernel, by decide +kernel⟩, wi_X6, by decide +kernel⟩
abbrev mX6_head : sh_M := (yX6_head, cX6_head, 3, (some .int), (6, 166), (0, 0))
theorem wc_X6_head : Cond.code yX6_head cX6_head 3 (some .int) ∈ sh_ws := sh_inw 554 (by decide +kernel) (by decide +kernel)
theorem cd_X6_head : sh_cd mX6_head 2 := ⟨wc_X6_head, ⟨by decide +kernel, by decide +kernel, by decide +kernel⟩, wi_X6, by decide +kernel⟩
abbrev mX6_light : sh_M := (yX6_light, cX6_light, 3, (some .int), (6, 166), (0, 0))
theorem wc_X6_light : Cond.code yX6_light cX6_light 3 (some .int) ∈ sh_ws := sh_inw 565 (by decide +kernel) (by decide +kernel)
theorem cd_X6_light : sh_cd mX6_light 2 := ⟨wc_X6_light, ⟨by decide +kernel, by decide +kernel, by decide +kernel⟩, wi_X6, by decide +kernel⟩
abbrev mX6_setLamp : sh_M := (yX6_setLamp, cX6_setLamp, 4, (some .int), (6, 166), (0, 0))
theorem wc_X6_setLamp : Cond.code yX6_setLamp cX6_setLamp 4 (some .int) ∈ sh_ws := sh_inw 575 (by decide +kernel) (by decide +kernel)
theorem cd_X6_setLamp : sh_cd mX6_setLamp 3 := ⟨wc_X6_setLamp, ⟨by decide +kernel, by decide +kernel, by decide +kernel⟩, wi_X6, by decide +kernel⟩
abbrev mX6_set : sh_M := (yX6_set, cX6_set, 3, (some .int), (6, 166), (0, 0))
theorem wc_X6_set : Cond.code yX6_set cX6_set 3 (some .int) ∈ sh_ws := sh_inw 584 (by decide +kernel) (by decide +kernel)
theorem cd_X6_set : sh_cd mX6_set 2 := ⟨wc_X6_set, ⟨by decide +kernel, by decide +kernel, by decide +kernel⟩, wi_X6, by decide +kernel⟩
abbrev mX6_pass : sh_M := (yX6_pass, cX6_pass, 2, (some .int), (6, 166), (0, 0))
theorem wc_X6_pass : Cond.code yX6_pass cX6_pass 2 (some .int) ∈ sh_ws := sh_inw 589 (by decide +kernel) (by decide +kernel)
theorem cd_X6_pass : sh_cd mX6_pass 1 := ⟨wc_X6_pass, ⟨by decide +kernel, by decide +kernel, by decide +kernel⟩, wi_X6, by decide +kernel⟩
abbrev mX6_runner : sh_M := (yX6_runner, cX6_runner, 4, (some .int), (5, 128), (0, 0))
theorem wc_X6_runner : Cond.code yX6_runner cX6_runner 4 (some .int) ∈ sh_ws := sh_inw 406 (by decide +kernel) (by decide +kernel)
theorem cd_X6_runner : sh_cd mX6_runner 2 := ⟨wc_X6_runner, ⟨by decide +kernel, by decide +kernel, by decide +kernel⟩, wi_X6, by decide +kernel⟩
abbrev mX6_lamp : sh_M := (yX6_lamp, cX6_lamp, 4, (some .int), (4, 106), (0, 0))
theorem wc_X6_lamp : Cond.code yX6_lamp cX6_lamp 4 (some .int) ∈ sh_ws := sh_inw 485 (by decide +kernel) (by decide +kernel)
theorem cd_X6_lamp : sh_cd mX6_lamp 2 := ⟨wc_X6_lamp, ⟨by decide +kernel, by decide +kernel, by decide +kernel⟩, wi_X6, by decide +kernel⟩
abbrev mX6_shadow : sh_M := (yX6_shadow, cX6_shadow, 4, (some .int), (3, 80), (0, 0))
theorem wc_X6_shadow : Cond.code yX6_shadow cX6_shadow 4 (some .int) ∈ sh_ws := sh_inw 498 (by decide +kernel) (by decide +kernel)
theorem cd_X6_shadow : sh_cd mX6_shadow 3 := ⟨wc_X6_shadow, ⟨by decide +kernel, by decide +kernel, by decide +kernel⟩, wi_X6, by decide +kernel⟩
abbrev mX6_darkness : sh_M := (yX6_darkness, cX6_darkness, 5, (some .int), (3, 81), (0, 0))
theorem wc_X6_darkness : Cond.code yX6_darkness cX6_darkness 5 (some .int) ∈ sh_ws := sh_inw 472 (by decide +kernel) (by decide +kernel)
theorem cd_X6_darkness : sh_cd mX6_darkness 1 := ⟨wc_X6_darkness, ⟨by decide +kernel, by decide +kernel, by decide +kernel⟩, wi_X6, by decide +kernel⟩
abbrev mX6_looked : sh_M := (yX6_looked, cX6_looked, 4, (some .int), (2, 48), (0, 0))
theorem wc_X6_looked : Cond.code yX6_looked cX6_looked 4 (some .int) ∈ sh_ws := sh_inw 477 (by decide +kernel) (by decide +kernel)
theorem cd_X6_looked : sh_cd mX6_looked 1 := ⟨wc_X6_looked, ⟨by decide +kernel, by decide +kernel, by decide +kernel⟩, wi_X6, by decide +kernel⟩
abbrev mX6_at : sh_M := (yX6_at, cX6_at, 2, (some .int), (1, 22), (0, 0))
theorem wc_X6_at : Cond.code yX6_at cX6_at 2 (some .int) ∈ sh_ws := sh_inw 447 (by decide +kernel) (by decide +kernel)
theorem cd_X6_at : sh_cd mX6_at 1 := ⟨wc_X6_at, ⟨by decide +kernel, by decide +kernel, by decide +kernel⟩, wi_X6, by decide +kernel⟩
abbrev mX6_reason : sh_M := (yX6_reason, cX6_reason, 3, (some .int), (4, 104), (0, 0))
theorem wc_X6_reason : Cond.code yX6_reason cX6_reason 3 (some .int) ∈ sh_ws := sh_inw 456 (by decide +kernel) (by decide +kernel)
theorem cd_X6_reason : sh_cd mX6_reason 1 := ⟨wc_X6_reason, ⟨by decide +kernel, by decide +kernel, by decide +kernel⟩, wi_X6, by decide +kernel⟩
abbrev mX6_stepsTo : sh_M := (yX6_stepsTo, cX6_stepsTo, 5, (some .int), (4, 107), (0, 0))
theorem wc_X6_stepsTo : Cond.code yX6_stepsTo cX6_stepsTo 5 (some .int) ∈ sh_ws := sh_inw 253 (by decide +kernel) (by decide +kernel)
theorem cd_X6_stepsTo : sh_cd mX6_stepsTo 1 := ⟨wc_X6_stepsTo, ⟨by decide +kernel, by decide +kernel, by decide +kernel⟩, wi_X6, by decide +kernel⟩
abbrev mX6_safest : sh_M := (yX6_safest, cX6_safest, 6, (some .int), (6, 153), (0, 0))
theorem wc_X6_safest : Cond.code yX6_safest cX6_safest 6 (some .int) ∈ sh_ws := sh_inw 245 (by decide +kernel) (by decide +kernel)
theorem cd_X6_safest : sh_cd mX6_safest 0 := ⟨wc_X6_safest, ⟨by decide +kernel, by decide +kernel, by decide +kernel⟩, wi_X6, by decide +kernel⟩
abbrev mX6_ifTurns : sh_M := (yX6_ifTurns, cX6_ifTurns, 6, (some .int), (4, 123), (0, 0))
theorem wc_X6_ifTurns : Cond.code yX6_ifTurns cX6_ifTurns 6 (some .int) ∈ sh_ws := sh_inw 321 (by decide +kernel) (by decide +kernel)
theorem cd_X6_ifTurns : sh_cd mX6_ifTurns 2 := ⟨wc_X6_ifTurns, ⟨by decide +kernel, by decide +kernel, by decide +kernel⟩, wi_X6, by decide +kernel⟩
abbrev mX6_count : sh_M := (yX6_count, cX6_count, 2, (some .int), (5, 128), (0, 0))
theorem wc_X6_count : Cond.code yX6_count cX6_count 2 (some .int) ∈ sh_ws := sh_inw 418 (by decide +kernel) (by decide +kernel)
theorem cd_X6_count : sh_cd mX6_count 1 := ⟨wc_X6_count, ⟨by decide +kernel, by decide +kernel, by decide +kernel⟩, wi_X6, by decide +kernel⟩
abbrev mX6_takeOver : sh_M := (yX6_takeOver, cX6_takeOver, 2, (some .int), (5, 145), (0, 0))
theorem wc_X6_takeOver : Cond.code yX6_takeOver cX6_takeOver 2 (some .int) ∈ sh_ws := sh_inw 541 (by decide +kernel) (by decide +kernel)
theorem cd_X6_takeOver : sh_cd mX6_takeOver 1 := ⟨wc_X6_takeOver, ⟨by decide +kernel, by decide +kernel, by decide +kernel⟩, wi_X6, by decide +kernel⟩
abbrev mX6_cellsInShadowsOf : sh_M := (yX6_cellsInShadowsOf, cX6_cellsInShadowsOf, 2, (some .int), (4, 107), (0, 0))
theorem wc_X6_cellsInShadowsOf : Cond.code yX6_cellsInShadowsOf cX6_cellsInShadowsOf 2 (some .int) ∈ sh_ws := sh_inw 410 (by decide +kernel) (by decide +kernel)
theorem cd_X6_cellsInShadowsOf : sh_cd mX6_cellsInShadowsOf 1 := ⟨wc_X6_cellsInShadowsOf, ⟨by decide +kernel, by decide +kernel, by decide +kernel⟩, wi_X6, by decide +kernel⟩
abbrev mX6_cellsInShadowsBy : sh_M := (yX6_cellsInShadowsBy, cX6_cellsInShadowsBy, 3, (some .int), (3, 84), (0, 0))
theorem wc_X6_cellsInShadowsBy : Cond.code yX6_cellsInShadowsBy cX6_cellsInShadowsBy 3 (some .int) ∈ sh_ws := sh_inw 490 (by decide +kernel) (by decide +kernel)
theorem cd_X6_cellsInShadowsBy : sh_cd mX6_cellsInShadowsBy 1 := ⟨wc_X6_cellsInShadowsBy, ⟨by decide +kernel, by decide +kernel, by decide +kernel⟩, wi_X6, by decide +kernel⟩
abbrev mX6_cellsInAnyShadow : sh_M := (yX6_cellsInAnyShadow, cX6_cellsInAnyShadow, 2, (some .int), (4, 107), (0, 0))
theorem wc_X6_cellsInAnyShadow : Cond.code yX6_cellsInAnyShadow cX6_cellsInAnyShadow 2 (some .int) ∈ sh_ws := sh_inw 426 (by decide +kernel) (by decide +kernel)
theorem cd_X6_cellsInAnyShadow : sh_cd mX6_cellsInAnyShadow 0 := ⟨wc_X6_cellsInAnyShadow, ⟨by decide +kernel, by decide +kernel, by decide +kernel⟩, wi_X6, by decide +kernel⟩
abbrev mX6_stepsOrFarthest : sh_M := (yX6_stepsOrFarthest, cX6_stepsOrFarthest, 3, (some .int), (5, 131), (0, 0))
theorem wc_X6_stepsOrFarthest : Cond.code yX6_stepsOrFarthest cX6_stepsOrFarthest 3 (some .int) ∈ sh_ws := sh_inw 249 (by decide +kernel) (by decide +kernel)
theorem cd_X6_stepsOrFarthest : sh_cd mX6_stepsOrFarthest 1 := ⟨wc_X6_stepsOrFarthest, ⟨by decide +kernel, by decide +kernel, by decide +kernel⟩, wi_X6, by decide +kernel⟩
abbrev mX6_isCell : sh_M := (yX6_isCell, cX6_isCell, 1, (some .boolean), (0, 0), (0, 0))
theorem wc_X6_isCell : Cond.code yX6_isCell cX6_isCell 1 (some .boolean) ∈ sh_ws := sh_inw 303 (by decide +kernel) (by decide +kernel)
theorem cd_X6_isCell : sh_cd mX6_isCell 1 := ⟨wc_X6_isCell, ⟨by decide +kernel, by decide +kernel, by decide +kernel⟩, wi_X6, by decide +kernel⟩
abbrev mX6_isLamp : sh_M := (yX6_isLamp, cX6_isLamp, 1, (some .boolean), (0, 0), (0, 0))
theorem wc_X6_isLamp : Cond.code yX6_isLamp cX6_isLamp 1 (some .boolean) ∈ sh_ws := sh_inw 269 (by decide +kernel) (by decide +kernel)
theorem cd_X6_isLamp : sh_cd mX6_isLamp 1 := ⟨wc_X6_isLamp, ⟨by decide +kernel, by decide +kernel, by decide +kernel⟩, wi_X6, by decide +kernel⟩
abbrev mX6_replace : sh_M := (yX6_replace, cX6_replace, 6, (some .int), (0, 0), (0, 0))
theorem wc_X6_replace : Cond.code yX6_replace cX6_replace 6 (some .int) ∈ sh_ws := sh_inw 561 (by decide +kernel) (by decide +kernel)
theorem cd_X6_replace : sh_cd mX6_replace 5 := ⟨wc_X6_replace, ⟨by decide +kernel, by decide +kernel, by decide +kernel⟩, wi_X6, by decide +kernel⟩
abbrev mX6_copyRow : sh_M := (yX6_copyRow, cX6_copyRow, 2, none, (1, 60), (0, 0))
theorem wc_X6_copyRow : Cond.code yX6_copyRow cX6_copyRow 2 none ∈ sh_ws := sh_inw 332 (by decide +kernel) (by decide +kernel)
theorem cd_X6_copyRow : sh_cd mX6_copyRow 2 := ⟨wc_X6_copyRow, ⟨by decide +kernel, by decide +kernel, by decide +kernel⟩, wi_X6, by decide +kernel⟩
abbrev mX6_opposite : sh_M := (yX6_opposite, cX6_opposite, 1, (some .int), (0, 0), (0, 0))
theorem wc_X6_opposite : Cond.code yX6_opposite cX6_opposite 1 (some .int) ∈ sh_ws := sh_inw 272 (by decide +kernel) (by decide +kernel)
theorem cd_X6_opposite : sh_cd mX6_opposite 1 := ⟨wc_X6_opposite, ⟨by decide +kernel, by decide +kernel, by decide +kernel⟩, wi_X6, by decide +kernel⟩
abbrev mX6_cellsToEdge : sh_M := (yX6_cellsToEdge, cX6_cellsToEdge, 2, (some .int), (0, 0), (0, 0))
theorem wc_X6_cellsToEdge : Cond.code yX6_cellsToEdge cX6_cellsToEdge 2 (some .int) ∈ sh_ws := sh_inw 275 (by decide +kernel) (by decide +kernel)
theorem cd_X6_cellsToEdge : sh_cd mX6_cellsToEdge 2 := ⟨wc_X6_cellsToEdge, ⟨by decide +kernel, by decide +kernel, by decide +kernel⟩, wi_X6, by decide +kernel⟩
abbrev mX6_cellAlong : sh_M := (yX6_cellAlong, cX6_cellAlong, 3, (some .int), (0, 0), (0, 0))
theorem wc_X6_cellAlong : Cond.code yX6_cellAlong cX6_cellAlong 3 (some .int) ∈ sh_ws := sh_inw 296 (by decide +kernel) (by decide +kernel)
theorem cd_X6_cellAlong : sh_cd mX6_cellAlong 3 := ⟨wc_X6_cellAlong, ⟨by decide +kernel, by decide +kernel, by decide +kernel⟩, wi_X6, by decide +kernel⟩
abbrev mX6_distanceAlong : sh_M := (yX6_distanceAlong, cX6_distanceAlong, 5, (some .int), (0, 0), (0, 0))
theorem wc_X6_distanceAlong : Cond.code yX6_distanceAlong cX6_distanceAlong 5 (some .int) ∈ sh_ws := sh_inw 281 (by decide +kernel) (by decide +kernel)
theorem cd_X6_distanceAlong : sh_cd mX6_distanceAlong 3 := ⟨wc_X6_distanceAlong, ⟨by decide +kernel, by decide +kernel, by decide +kernel⟩, wi_X6, by decide +kernel⟩
abbrev mL_cell : sh_M := (yL_cell, cL_cell, 2, (some .int), (0, 0), (0, 0))
theorem wc_L_cell : Cond.code yL_cell cL_cell 2 (some .int) ∈ sh_ws := sh_inw 394 (by decide +kernel) (by decide +kernel)
theorem wi_L : Cond.initialized RL ∈ sh_ws := sh_inw 8 (by decide +kernel) (by decide +kernel)
theorem cd_L_cell : sh_cd mL_cell 2 := ⟨wc_L_cell, ⟨by decide +kernel, by decide +kernel, by decide +kernel⟩, wi_L, by decide +kernel⟩
abbrev mL_low : sh_M := (yL_low, cL_low, 2, (some .int), (0, 0), (0, 0))
theorem wc_L_low : Cond.code yL_low cL_low 2 (some .int) ∈ sh_ws := sh_inw 398 (by decide +kernel) (by decide +kernel)
theorem cd_L_low : sh_cd mL_low 2 := ⟨wc_L_low, ⟨by decide +kernel, by decide +kernel, by decide +kernel⟩, wi_L, by decide +kernel⟩
abbrev mL_who : sh_M := (yL_who, cL_who, 4, (some .int), (0, 0), (0, 0))
theorem wc_L_who : Cond.code yL_who cL_who 4 (some .int) ∈ sh_ws := sh_inw 481 (by decide +kernel) (by decide +kernel)
theorem cd_L_who : sh_cd mL_who 3 := ⟨wc_L_who, ⟨by decide +kernel, by decide +kernel, by decide +kernel⟩, wi_L, by decide +kernel⟩
abbrev mL_straight : sh_M := (yL_straight, cL_straight, 6, (some .int), (0, 0), (0, 0))
theorem wc_L_straight : Cond.code yL_straight cL_straight 6 (some .int) ∈ sh_ws := sh_inw 443 (by decide +kernel) (by decide +kernel)
theorem cd_L_straight : sh_cd mL_straight 3 := ⟨wc_L_straight, ⟨by decide +kernel, by decide +kernel, by decide +kernel⟩, wi_L, by decide +kernel⟩
abbrev mL_shades : sh_M := (yL_shades, cL_shades, 11, (some .boolean), (1, 25), (0, 0))
theorem wc_L_shades : Cond.code yL_shades cL_shades 11 (some .boolean) ∈ sh_ws := sh_inw 440 (by decide +kernel) (by decide +kernel)
theorem cd_L_shades : sh_cd mL_shades 6 := ⟨wc_L_shades, ⟨by decide +kernel, by decide +kernel, by decide +kernel⟩, wi_L, by decide +kernel⟩
abbrev mL_shaded : sh_M := (yL_shaded, cL_shaded, 5, (some .boolean), (2, 55), (0, 0))
theorem wc_L_shaded : Cond.code yL_shaded cL_shaded 5 (some .boolean) ∈ sh_ws := sh_inw 437 (by decide +kernel) (by decide +kernel)
theorem cd_L_shaded : sh_cd mL_shaded 5 := ⟨wc_L_shaded, ⟨by decide +kernel, by decide +kernel, by decide +kernel⟩, wi_L, by decide +kernel⟩
abbrev mL_cells : sh_M := (yL_cells, cL_cells, 6, (some .int), (3, 79), (0, 0))
theorem wc_L_cells : Cond.code yL_cells cL_cells 6 (some .int) ∈ sh_ws := sh_inw 434 (by decide +kernel) (by decide +kernel)
theorem cd_L_cells : sh_cd mL_cells 4 := ⟨wc_L_cells, ⟨by decide +kernel, by decide +kernel, by decide +kernel⟩, wi_L, by decide +kernel⟩
abbrev mL_beside : sh_M := (yL_beside, cL_beside, 4, (some .int), (0, 0), (0, 0))
theorem wc_L_beside : Cond.code yL_beside cL_beside 4 (some .int) ∈ sh_ws := sh_inw 513 (by decide +kernel) (by decide +kernel)
theorem cd_L_beside : sh_cd mL_beside 2 := ⟨wc_L_beside, ⟨by decide +kernel, by decide +kernel, by decide +kernel⟩, wi_L, by decide +kernel⟩
abbrev mL_tagged : sh_M := (yL_tagged, cL_tagged, 4, (some .int), (3, 79), (0, 0))
theorem wc_L_tagged : Cond.code yL_tagged cL_tagged 4 (some .int) ∈ sh_ws := sh_inw 452 (by decide +kernel) (by decide +kernel)
theorem cd_L_tagged : sh_cd mL_tagged 3 := ⟨wc_L_tagged, ⟨by decide +kernel, by decide +kernel, by decide +kernel⟩, wi_L, by decide +kernel⟩
abbrev mL_turns : sh_M := (yL_turns, cL_turns, 6, none, (4, 102), (0, 0))
theorem wc_L_turns : Cond.code yL_turns cL_turns 6 none ∈ sh_ws := sh_inw 522 (by decide +kernel) (by decide +kernel)
theorem cd_L_turns : sh_cd mL_turns 3 := ⟨wc_L_turns, ⟨by decide +kernel, by decide +kernel, by decide +kernel⟩, wi_L, by decide +kernel⟩
abbrev mL_areRunners : sh_M := (yL_areRunners, cL_areRunners, 11, (some .boolean), (6, 151), (0, 0))
theorem wc_L_areRunners : Cond.code yL_areRunners cL_areRunners 11 (some .boolean) ∈ sh_ws := sh_inw 402 (by decide +kernel) (by decide +kernel)
theorem cd_L_areRunners : sh_cd mL_areRunners 4 := ⟨wc_L_areRunners, ⟨by decide +kernel, by decide +kernel, by decide +kernel⟩, wi_L, by decide +kernel⟩
abbrev mL_areShadows : sh_M := (yL_areShadows, cL_areShadows, 12, (some .boolean), (6, 149), (1, 3))
theorem wc_L_areShadows : Cond.code yL_areShadows cL_areShadows 12 (some .boolean) ∈ sh_ws := sh_inw 468 (by decide +kernel) (by decide +kernel)
theorem cd_L_areShadows : sh_cd mL_areShadows 4 := ⟨wc_L_areShadows, ⟨by decide +kernel, by decide +kernel, by decide +kernel⟩, wi_L, by decide +kernel⟩
abbrev mL_isShadow : sh_M := (yL_isShadow, cL_isShadow, 10, (some .boolean), (4, 103), (0, 0))
theorem wc_L_isShadow : Cond.code yL_isShadow cL_isShadow 10 (some .boolean) ∈ sh_ws := sh_inw 494 (by decide +kernel) (by decide +kernel)
theorem cd_L_isShadow : sh_cd mL_isShadow 6 := ⟨wc_L_isShadow, ⟨by decide +kernel, by decide +kernel, by decide +kernel⟩, wi_L, by decide +kernel⟩
abbrev mL_steps : sh_M := (yL_steps, cL_steps, 11, (some .int), (3, 79), (2, 100))
theorem wc_L_steps : Cond.code yL_steps cL_steps 11 (some .int) ∈ sh_ws := sh_inw 510 (by decide +kernel) (by decide +kernel)
theorem cd_L_steps : sh_cd mL_steps 4 := ⟨wc_L_steps, ⟨by decide +kernel, by decide +kernel, by decide +kernel⟩, wi_L, by decide +kernel⟩
abbrev mL_areSteps : sh_M := (yL_areSteps, cL_areSteps, 11, (some .boolean), (7, 178), (12, 600))
theorem wc_L_areSteps : Cond.code yL_areSteps cL_areSteps 11 (some .boolean) ∈ sh_ws := sh_inw 506 (by decide +kernel) (by decide +kernel)
theorem cd_L_areSteps : sh_cd mL_areSteps 4 := ⟨wc_L_areSteps, ⟨by decide +kernel, by decide +kernel, by decide +kernel⟩, wi_L, by decide +kernel⟩
abbrev mL_copy : sh_M := (yL_copy, cL_copy, 3, none, (0, 0), (0, 0))
theorem wc_L_copy : Cond.code yL_copy cL_copy 3 none ∈ sh_ws := sh_inw 519 (by decide +kernel) (by decide +kernel)
theorem cd_L_copy : sh_cd mL_copy 2 := ⟨wc_L_copy, ⟨by decide +kernel, by decide +kernel, by decide +kernel⟩, wi_L, by decide +kernel⟩
abbrev mL_would : sh_M := (yL_would, cL_would, 10, (some .boolean), (5, 148), (3, 63))
theorem wc_L_would : Cond.code yL_would cL_would 10 (some .boolean) ∈ sh_ws := sh_inw 516 (by decide +kernel) (by decide +kernel)
theorem cd_L_would : sh_cd mL_would 5 := ⟨wc_L_would, ⟨by decide +kernel, by decide +kernel, by decide +kernel⟩, wi_L, by decide +kernel⟩
abbrev mL_comes : sh_M := (yL_comes, cL_comes, 7, (some .boolean), (7, 188), (0, 0))
theorem wc_L_comes : Cond.code yL_comes cL_comes 7 (some .boolean) ∈ sh_ws := sh_inw 528 (by decide +kernel) (by decide +kernel)
theorem cd_L_comes : sh_cd mL_comes 4 := ⟨wc_L_comes, ⟨by decide +kernel, by decide +kernel, by decide +kernel⟩, wi_L, by decide +kernel⟩
abbrev mL_acts : sh_M := (yL_acts, cL_acts, 18, (some .boolean), (8, 214), (0, 0))
theorem wc_L_acts : Cond.code yL_acts cL_acts 18 (some .boolean) ∈ sh_ws := sh_inw 525 (by decide +kernel) (by decide +kernel)
theorem cd_L_acts : sh_cd mL_acts 6 := ⟨wc_L_acts, ⟨by decide +kernel, by decide +kernel, by decide +kernel⟩, wi_L, by decide +kernel⟩
abbrev mL_law : sh_M := (yL_law, cL_law, 8, (some .boolean), (11, 430), (600000, 7302250))
theorem wa_boolean : Cond.arrayClass (newarray.typeOf .boolean) ∈ sh_ws := sh_inw 213 (by decide +kernel) (by decide +kernel)
theorem wf_X0_9 : Cond.fieldLink RX0 9 "ShadowTag$Board" "dark" "[Z" ∈ sh_ws := sh_inw 197 (by decide +kernel) (by decide +kernel)
theorem fl_X0_9 : sh_FL RX0 9 0 0 5 true := ⟨RX0, TX0, cl_X0, by decide, wf_X0_9, rfl⟩
theorem wf_X0_15 : Cond.fieldLink RX0 15 "ShadowTag$Board" "barred" "[Z" ∈ sh_ws := sh_inw 198 (by decide +kernel) (by decide +kernel)
theorem fl_X0_15 : sh_FL RX0 15 0 1 5 true := ⟨RX0, TX0, cl_X0, by decide, wf_X0_15, rfl⟩
theorem wa_int : Cond.arrayClass (newarray.typeOf .int) ∈ sh_ws := sh_inw 93 (by decide +kernel) (by decide +kernel)
theorem wf_X0_18 : Cond.fieldLink RX0 18 "ShadowTag$Board" "steps" "[I" ∈ sh_ws := sh_inw 199 (by decide +kernel) (by decide +kernel)
theorem fl_X0_18 : sh_FL RX0 18 0 2 5 true := ⟨RX0, TX0, cl_X0, by decide, wf_X0_18, rfl⟩
theorem wf_X0_22 : Cond.fieldLink RX0 22 "ShadowTag$Board" "queue" "[I" ∈ sh_ws := sh_inw 200 (by decide +kernel) (by decide +kernel)
theorem fl_X0_22 : sh_FL RX0 22 0 3 5 true := ⟨RX0, TX0, cl_X0, by decide, wf_X0_22, rfl⟩
theorem wf_X0_25 : Cond.fieldLink RX0 25 "ShadowTag$Board" "queued" "I" ∈ sh_ws := sh_inw 201 (by decide +kernel) (by decide +kernel)
theorem fl_X0_25 : sh_FL RX0 25 0 4 5 false := ⟨RX0, TX0, cl_X0, by decide, wf_X0_25, rfl⟩
theorem wm_X0_3 : Cond.methodLink RX0 3 objectInit ∈ sh_ws := sh_inw 196 (by decide +kernel) (by decide +kernel)
theorem wo_1 : Cond.instanceMethod objectInit ∈ sh_ws := sh_inw 24 (by decide +kernel) (by decide +kernel)
theorem wo_2 : Cond.code objectInit ⟨#[0xb1]⟩ 1 none ∈ sh_ws := sh_inw 25 (by decide +kernel) (by decide +kernel)
theorem wt_X6_isCell : Cond.static yX6_isCell ∈ sh_ws := sh_inw 302 (by decide +kernel) (by decide +kernel)
theorem lk_X0_29 : sh_LSN RX0 29 mX6_isCell 1 := ⟨cd_X6_isCell, ⟨RX6, by decide +kernel⟩, wt_X6_isCell⟩
theorem wm_X0_33 : Cond.methodLink RX0 33 yX0_enter ∈ sh_ws := sh_inw 312 (by decide +kernel) (by decide +kernel)
theorem wv_X0_enter : Cond.instanceMethod yX0_enter ∈ sh_ws := sh_inw 314 (by decide +kernel) (by decide +kernel)
theorem ws_X0_enter : Cond.selects RX0 yX0_enter yX0_enter ∈ sh_ws := sh_inw 1 (by decide +kernel) (by decide +kernel)
theorem lk_X0_33 : sh_LV RX0 33 mX0_enter 2 0 5 := ⟨cd_X0_enter, wm_X0_33, wv_X0_enter, ws_X0_enter, TX0, cl_X0⟩
theorem wt_X6_cellsToEdge : Cond.static yX6_cellsToEdge ∈ sh_ws := sh_inw 274 (by decide +kernel) (by decide +kernel)
theorem lk_X0_37 : sh_LSN RX0 37 mX6_cellsToEdge 2 := ⟨cd_X6_cellsToEdge, ⟨RX6, by decide +kernel⟩, wt_X6_cellsToEdge⟩
theorem wt_X6_cellAlong : Cond.static yX6_cellAlong ∈ sh_ws := sh_inw 295 (by decide +kernel) (by decide +kernel)
theorem lk_X0_41 : sh_LSN RX0 41 mX6_cellAlong 3 := ⟨cd_X6_cellAlong, ⟨RX6, by decide +kernel⟩, wt_X6_cellAlong⟩
theorem wa_char : Cond.arrayClass (newarray.typeOf .char) ∈ sh_ws := sh_inw 190 (by decide +kernel) (by decide +kernel)
theorem wf_X1_9 : Cond.fieldLink RX1 9 "ShadowTag$Game" "signs" "[C" ∈ sh_ws := sh_inw 167 (by decide +kernel) (by decide +kernel)
theorem fl_X1_9 : sh_FL RX1 9 1 0 7 true := ⟨RX1, TX1, cl_X1, by decide, wf_X1_9, rfl⟩
theorem wf_X1_15 : Cond.fieldLink RX1 15 "ShadowTag$Game" "length" "I" ∈ sh_ws := sh_inw 168 (by decide +kernel) (by decide +kernel)
theorem fl_X1_15 : sh_FL RX1 15 1 1 7 false := ⟨RX1, TX1, cl_X1, by decide, wf_X1_15, rfl⟩
theorem wf_X1_19 : Cond.fieldLink RX1 19 "ShadowTag$Game" "position" "I" ∈ sh_ws := sh_inw 170 (by decide +kernel) (by decide +kernel)
theorem fl_X1_19 : sh_FL RX1 19 1 2 7 false := ⟨RX1, TX1, cl_X1, by decide, wf_X1_19, rfl⟩
theorem wf_X1_22 : Cond.fieldLink RX1 22 "ShadowTag$Game" "kind" "[I" ∈ sh_ws := sh_inw 171 (by decide +kernel) (by decide +kernel)
theorem fl_X1_22 : sh_FL RX1 22 1 3 7 true := ⟨RX1, TX1, cl_X1, by decide, wf_X1_22, rfl⟩
theorem wf_X1_26 : Cond.fieldLink RX1 26 "ShadowTag$Game" "first" "[I" ∈ sh_ws := sh_inw 172 (by decide +kernel) (by decide +kernel)
theorem fl_X1_26 : sh_FL RX1 26 1 4 7 true := ⟨RX1, TX1, cl_X1, by decide, wf_X1_26, rfl⟩
theorem wf_X1_29 : Cond.fieldLink RX1 29 "ShadowTag$Game" "second" "[I" ∈ sh_ws := sh_inw 173 (by decide +kernel) (by decide +kernel)
theorem fl_X1_29 : sh_FL RX1 29 1 5 7 true := ⟨RX1, TX1, cl_X1, by decide, wf_X1_29, rfl⟩
theorem wf_X1_32 : Cond.fieldLink RX1 32 "ShadowTag$Game" "things" "I" ∈ sh_ws := sh_inw 174 (by decide +kernel) (by decide +kernel)
theorem fl_X1_32 : sh_FL RX1 32 1 6 7 false := ⟨RX1, TX1, cl_X1, by decide, wf_X1_32, rfl⟩
theorem wm_X1_3 : Cond.methodLink RX1 3 objectInit ∈ sh_ws := sh_inw 166 (by decide +kernel) (by decide +kernel)
theorem wk_X2_9 : Cond.classLink RX2 9 RX4 ∈ sh_ws := sh_inw 147 (by decide +kernel) (by decide +kernel)
theorem wn_X4 : Cond.instantiable RX4 5 ∈ sh_ws := sh_inw 27 (by decide +kernel) (by decide +kernel)
theorem wf_X2_11 : Cond.fieldLink RX2 11 "ShadowTag$History" "ring" "[LShadowTag$Platform;" ∈ sh_ws := sh_inw 150 (by decide +kernel) (by decide +kernel)
theorem fl_X2_11 : sh_FL RX2 11 2 0 3 true := ⟨RX2, TX2, cl_X2, by decide, wf_X2_11, rfl⟩
theorem wf_X2_17 : Cond.fieldLink RX2 17 "ShadowTag$History" "oldest" "I" ∈ sh_ws := sh_inw 151 (by decide +kernel) (by decide +kernel)
theorem fl_X2_17 : sh_FL RX2 17 2 1 3 false := ⟨RX2, TX2, cl_X2, by decide, wf_X2_17, rfl⟩
theorem wf_X2_21 : Cond.fieldLink RX2 21 "ShadowTag$History" "states" "I" ∈ sh_ws := sh_inw 152 (by decide +kernel) (by decide +kernel)
theorem fl_X2_21 : sh_FL RX2 21 2 2 3 false := ⟨RX2, TX2, cl_X2, by decide, wf_X2_21, rfl⟩
theorem wm_X2_3 : Cond.methodLink RX2 3 objectInit ∈ sh_ws := sh_inw 146 (by decide +kernel) (by decide +kernel)
theorem wv_X4_init : Cond.instanceMethod yX4_init ∈ sh_ws := sh_inw 29 (by decide +kernel) (by decide +kernel)
theorem lk_X2_24 : sh_LIN RX2 24 mX4_init 0 := ⟨cd_X4_init, ⟨RX6, by decide +kernel⟩, wv_X4_init, rfl, rfl⟩
theorem wm_X2_25 : Cond.methodLink RX2 25 yX2_ringPlace ∈ sh_ws := sh_inw 546 (by decide +kernel) (by decide +kernel)
theorem wv_X2_ringPlace : Cond.instanceMethod yX2_ringPlace ∈ sh_ws := sh_inw 548 (by decide +kernel) (by decide +kernel)
theorem ws_X2_ringPlace : Cond.selects RX2 yX2_ringPlace yX2_ringPlace ∈ sh_ws := sh_inw 7 (by decide +kernel) (by decide +kernel)
theorem lk_X2_25 : sh_LV RX2 25 mX2_ringPlace 1 2 3 := ⟨cd_X2_ringPlace, wm_X2_25, wv_X2_ringPlace, ws_X2_ringPlace, TX2, cl_X2⟩
theorem wm_X2_29 : Cond.methodLink RX2 29 yX4_copyFrom ∈ sh_ws := sh_inw 550 (by decide +kernel) (by decide +kernel)
theorem wv_X4_copyFrom : Cond.instanceMethod yX4_copyFrom ∈ sh_ws := sh_inw 323 (by decide +kernel) (by decide +kernel)
theorem ws_X4_copyFrom : Cond.selects RX4 yX4_copyFrom yX4_copyFrom ∈ sh_ws := sh_inw 324 (by decide +kernel) (by decide +kernel)
theorem lk_X2_29 : sh_LV RX2 29 mX4_copyFrom 1 4 5 := ⟨cd_X4_copyFrom, wm_X2_29, wv_X4_copyFrom, ws_X4_copyFrom, TX4, cl_X4⟩
theorem wf_X3_9 : Cond.fieldLink RX3 9 "ShadowTag$Lamps" "side" "[I" ∈ sh_ws := sh_inw 100 (by decide +kernel) (by decide +kernel)
theorem fl_X3_9 : sh_FL RX3 9 3 0 4 true := ⟨RX3, TX3, cl_X3, by decide, wf_X3_9, rfl⟩
theorem wf_X3_15 : Cond.fieldLink RX3 15 "ShadowTag$Lamps" "reach" "[I" ∈ sh_ws := sh_inw 103 (by decide +kernel) (by decide +kernel)
theorem fl_X3_15 : sh_FL RX3 15 3 1 4 true := ⟨RX3, TX3, cl_X3, by decide, wf_X3_15, rfl⟩
theorem wf_X3_18 : Cond.fieldLink RX3 18 "ShadowTag$Lamps" "swing" "[I" ∈ sh_ws := sh_inw 106 (by decide +kernel) (by decide +kernel)
theorem fl_X3_18 : sh_FL RX3 18 3 2 4 true := ⟨RX3, TX3, cl_X3, by decide, wf_X3_18, rfl⟩
theorem wf_X3_21 : Cond.fieldLink RX3 21 "ShadowTag$Lamps" "on" "[I" ∈ sh_ws := sh_inw 108 (by decide +kernel) (by decide +kernel)
theorem fl_X3_21 : sh_FL RX3 21 3 3 4 true := ⟨RX3, TX3, cl_X3, by decide, wf_X3_21, rfl⟩
theorem wm_X3_3 : Cond.methodLink RX3 3 objectInit ∈ sh_ws := sh_inw 99 (by decide +kernel) (by decide +kernel)
theorem wt_X6_copyRow : Cond.static yX6_copyRow ∈ sh_ws := sh_inw 331 (by decide +kernel) (by decide +kernel)
theorem lk_X3_24 : sh_LSN RX3 24 mX6_copyRow 2 := ⟨cd_X6_copyRow, ⟨RX6, by decide +kernel⟩, wt_X6_copyRow⟩
theorem wt_X6_replace : Cond.static yX6_replace ∈ sh_ws := sh_inw 560 (by decide +kernel) (by decide +kernel)
theorem lk_X3_28 : sh_LSN RX3 28 mX6_replace 5 := ⟨cd_X6_replace, ⟨RX6, by decide +kernel⟩, wt_X6_replace⟩
theorem wm_X3_32 : Cond.methodLink RX3 32 yX3_burning ∈ sh_ws := sh_inw 571 (by decide +kernel) (by decide +kernel)
theorem wv_X3_burning : Cond.instanceMethod yX3_burning ∈ sh_ws := sh_inw 420 (by decide +kernel) (by decide +kernel)
theorem ws_X3_burning : Cond.selects RX3 yX3_burning yX3_burning ∈ sh_ws := sh_inw 421 (by decide +kernel) (by decide +kernel)
theorem lk_X3_32 : sh_LV RX3 32 mX3_burning 0 3 4 := ⟨cd_X3_burning, wm_X3_32, wv_X3_burning, ws_X3_burning, TX3, cl_X3⟩
theorem wt_X6_isLamp : Cond.static yX6_isLamp ∈ sh_ws := sh_inw 268 (by decide +kernel) (by decide +kernel)
theorem lk_X3_36 : sh_LSN RX3 36 mX6_isLamp 1 := ⟨cd_X6_isLamp, ⟨RX6, by decide +kernel⟩, wt_X6_isLamp⟩
theorem wk_X4_9 : Cond.classLink RX4 9 RX5 ∈ sh_ws := sh_inw 32 (by decide +kernel) (by decide +kernel)
theorem wn_X5 : Cond.instantiable RX5 12 ∈ sh_ws := sh_inw 33 (by decide +kernel) (by decide +kernel)
theorem wf_X4_12 : Cond.fieldLink RX4 12 "ShadowTag$Platform" "runners" "LShadowTag$Runners;" ∈ sh_ws := sh_inw 120 (by decide +kernel) (by decide +kernel)
theorem fl_X4_12 : sh_FL RX4 12 4 0 5 true := ⟨RX4, TX4, cl_X4, by decide, wf_X4_12, rfl⟩
theorem wk_X4_18 : Cond.classLink RX4 18 RX3 ∈ sh_ws := sh_inw 94 (by decide +kernel) (by decide +kernel)
theorem wn_X3 : Cond.instantiable RX3 4 ∈ sh_ws := sh_inw 95 (by decide +kernel) (by decide +kernel)
theorem wf_X4_21 : Cond.fieldLink RX4 21 "ShadowTag$Platform" "lamps" "LShadowTag$Lamps;" ∈ sh_ws := sh_inw 122 (by decide +kernel) (by decide +kernel)
theorem fl_X4_21 : sh_FL RX4 21 4 1 5 true := ⟨RX4, TX4, cl_X4, by decide, wf_X4_21, rfl⟩
theorem wf_X4_25 : Cond.fieldLink RX4 25 "ShadowTag$Platform" "settings" "[I" ∈ sh_ws := sh_inw 124 (by decide +kernel) (by decide +kernel)
theorem fl_X4_25 : sh_FL RX4 25 4 2 5 true := ⟨RX4, TX4, cl_X4, by decide, wf_X4_25, rfl⟩
theorem wf_X4_29 : Cond.fieldLink RX4 29 "ShadowTag$Platform" "turn" "I" ∈ sh_ws := sh_inw 126 (by decide +kernel) (by decide +kernel)
theorem fl_X4_29 : sh_FL RX4 29 4 3 5 false := ⟨RX4, TX4, cl_X4, by decide, wf_X4_29, rfl⟩
theorem wf_X4_33 : Cond.fieldLink RX4 33 "ShadowTag$Platform" "spins" "I" ∈ sh_ws := sh_inw 128 (by decide +kernel) (by decide +kernel)
theorem fl_X4_33 : sh_FL RX4 33 4 4 5 false := ⟨RX4, TX4, cl_X4, by decide, wf_X4_33, rfl⟩
theorem wm_X4_3 : Cond.methodLink RX4 3 objectInit ∈ sh_ws := sh_inw 31 (by decide +kernel) (by decide +kernel)
theorem wv_X5_init : Cond.instanceMethod yX5_init ∈ sh_ws := sh_inw 35 (by decide +kernel) (by decide +kernel)
theorem lk_X4_11 : sh_LIN RX4 11 mX5_init 0 := ⟨cd_X5_init, ⟨RX6, by decide +kernel⟩, wv_X5_init, rfl, rfl⟩
theorem wv_X3_init : Cond.instanceMethod yX3_init ∈ sh_ws := sh_inw 97 (by decide +kernel) (by decide +kernel)
theorem lk_X4_20 : sh_LIN RX4 20 mX3_init 0 := ⟨cd_X3_init, ⟨RX6, by decide +kernel⟩, wv_X3_init, rfl, rfl⟩
theorem wm_X4_36 : Cond.methodLink RX4 36 yX5_copyFrom ∈ sh_ws := sh_inw 326 (by decide +kernel) (by decide +kernel)
theorem wv_X5_copyFrom : Cond.instanceMethod yX5_copyFrom ∈ sh_ws := sh_inw 327 (by decide +kernel) (by decide +kernel)
theorem ws_X5_copyFrom : Cond.selects RX5 yX5_copyFrom yX5_copyFrom ∈ sh_ws := sh_inw 328 (by decide +kernel) (by decide +kernel)
theorem lk_X4_36 : sh_LV RX4 36 mX5_copyFrom 1 5 12 := ⟨cd_X5_copyFrom, wm_X4_36, wv_X5_copyFrom, ws_X5_copyFrom, TX5, cl_X5⟩
theorem wm_X4_40 : Cond.methodLink RX4 40 yX3_copyFrom ∈ sh_ws := sh_inw 337 (by decide +kernel) (by decide +kernel)
theorem wv_X3_copyFrom : Cond.instanceMethod yX3_copyFrom ∈ sh_ws := sh_inw 338 (by decide +kernel) (by decide +kernel)
theorem ws_X3_copyFrom : Cond.selects RX3 yX3_copyFrom yX3_copyFrom ∈ sh_ws := sh_inw 339 (by decide +kernel) (by decide +kernel)
theorem lk_X4_40 : sh_LV RX4 40 mX3_copyFrom 1 3 4 := ⟨cd_X3_copyFrom, wm_X4_40, wv_X3_copyFrom, ws_X3_copyFrom, TX3, cl_X3⟩
theorem lk_X4_43 : sh_LSN RX4 43 mX6_copyRow 2 := ⟨cd_X6_copyRow, ⟨RX6, by decide +kernel⟩, wt_X6_copyRow⟩
theorem wl_X4_47 : Cond.constant RX4 47 (Int32.ofInt 99999) ∈ sh_ws := sh_inw 594 (by decide +kernel) (by decide +kernel)
theorem wf_X4_48 : Cond.fieldLink RX4 48 "ShadowTag$Runners" "tags" "I" ∈ sh_ws := sh_inw 62 (by decide +kernel) (by decide +kernel)
theorem fl_X4_48 : sh_FL RX4 48 5 9 12 false := ⟨RX5, TX5, cl_X5, by decide, wf_X4_48, rfl⟩
theorem wm_X4_51 : Cond.methodLink RX4 51 yX4_takeTurn ∈ sh_ws := sh_inw 595 (by decide +kernel) (by decide +kernel)
theorem wv_X4_takeTurn : Cond.instanceMethod yX4_takeTurn ∈ sh_ws := sh_inw 344 (by decide +kernel) (by decide +kernel)
theorem ws_X4_takeTurn : Cond.selects RX4 yX4_takeTurn yX4_takeTurn ∈ sh_ws := sh_inw 345 (by decide +kernel) (by decide +kernel)
theorem lk_X4_51 : sh_LV RX4 51 mX4_takeTurn 0 4 5 := ⟨cd_X4_takeTurn, wm_X4_51, wv_X4_takeTurn, ws_X4_takeTurn, TX4, cl_X4⟩
theorem wm_X4_55 : Cond.methodLink RX4 55 yX5_stepAll ∈ sh_ws := sh_inw 347 (by decide +kernel) (by decide +kernel)
theorem wv_X5_stepAll : Cond.instanceMethod yX5_stepAll ∈ sh_ws := sh_inw 348 (by decide +kernel) (by decide +kernel)
theorem ws_X5_stepAll : Cond.selects RX5 yX5_stepAll yX5_stepAll ∈ sh_ws := sh_inw 349 (by decide +kernel) (by decide +kernel)
theorem lk_X4_55 : sh_LV RX4 55 mX5_stepAll 0 5 12 := ⟨cd_X5_stepAll, wm_X4_55, wv_X5_stepAll, ws_X5_stepAll, TX5, cl_X5⟩
theorem wm_X4_58 : Cond.methodLink RX4 58 yX4_firstCaught ∈ sh_ws := sh_inw 362 (by decide +kernel) (by decide +kernel)
theorem wv_X4_firstCaught : Cond.instanceMethod yX4_firstCaught ∈ sh_ws := sh_inw 363 (by decide +kernel) (by decide +kernel)
theorem ws_X4_firstCaught : Cond.selects RX4 yX4_firstCaught yX4_firstCaught ∈ sh_ws := sh_inw 364 (by decide +kernel) (by decide +kernel)
theorem lk_X4_58 : sh_LV RX4 58 mX4_firstCaught 0 4 5 := ⟨cd_X4_firstCaught, wm_X4_58, wv_X4_firstCaught, ws_X4_firstCaught, TX4, cl_X4⟩
theorem wm_X4_62 : Cond.methodLink RX4 62 yX5_handOver ∈ sh_ws := sh_inw 372 (by decide +kernel) (by decide +kernel)
theorem wv_X5_handOver : Cond.instanceMethod yX5_handOver ∈ sh_ws := sh_inw 373 (by decide +kernel) (by decide +kernel)
theorem ws_X5_handOver : Cond.selects RX5 yX5_handOver yX5_handOver ∈ sh_ws := sh_inw 374 (by decide +kernel) (by decide +kernel)
theorem lk_X4_62 : sh_LV RX4 62 mX5_handOver 2 5 12 := ⟨cd_X5_handOver, wm_X4_62, wv_X5_handOver, ws_X5_handOver, TX5, cl_X5⟩
theorem wm_X4_66 : Cond.methodLink RX4 66 yX5_shortenRespites ∈ sh_ws := sh_inw 376 (by decide +kernel) (by decide +kernel)
theorem wv_X5_shortenRespites : Cond.instanceMethod yX5_shortenRespites ∈ sh_ws := sh_inw 377 (by decide +kernel) (by decide +kernel)
theorem ws_X5_shortenRespites : Cond.selects RX5 yX5_shortenRespites yX5_shortenRespites ∈ sh_ws := sh_inw 378 (by decide +kernel) (by decide +kernel)
theorem lk_X4_66 : sh_LV RX4 66 mX5_shortenRespites 0 5 12 := ⟨cd_X5_shortenRespites, wm_X4_66, wv_X5_shortenRespites, ws_X5_shortenRespites, TX5, cl_X5⟩
theorem wm_X4_69 : Cond.methodLink RX4 69 yX5_addToAccounts ∈ sh_ws := sh_inw 380 (by decide +kernel) (by decide +kernel)
theorem wv_X5_addToAccounts : Cond.instanceMethod yX5_addToAccounts ∈ sh_ws := sh_inw 381 (by decide +kernel) (by decide +kernel)
theorem ws_X5_addToAccounts : Cond.selects RX5 yX5_addToAccounts yX5_addToAccounts ∈ sh_ws := sh_inw 382 (by decide +kernel) (by decide +kernel)
theorem lk_X4_69 : sh_LV RX4 69 mX5_addToAccounts 0 5 12 := ⟨cd_X5_addToAccounts, wm_X4_69, wv_X5_addToAccounts, ws_X5_addToAccounts, TX5, cl_X5⟩
theorem wm_X4_72 : Cond.methodLink RX4 72 yX3_swingAtTurn ∈ sh_ws := sh_inw 384 (by decide +kernel) (by decide +kernel)
theorem wv_X3_swingAtTurn : Cond.instanceMethod yX3_swingAtTurn ∈ sh_ws := sh_inw 385 (by decide +kernel) (by decide +kernel)
theorem ws_X3_swingAtTurn : Cond.selects RX3 yX3_swingAtTurn yX3_swingAtTurn ∈ sh_ws := sh_inw 386 (by decide +kernel) (by decide +kernel)
theorem lk_X4_72 : sh_LV RX4 72 mX3_swingAtTurn 1 3 4 := ⟨cd_X3_swingAtTurn, wm_X4_72, wv_X3_swingAtTurn, ws_X3_swingAtTurn, TX3, cl_X3⟩
theorem wm_X4_76 : Cond.methodLink RX4 76 yX5_spin ∈ sh_ws := sh_inw 388 (by decide +kernel) (by decide +kernel)
theorem wv_X5_spin : Cond.instanceMethod yX5_spin ∈ sh_ws := sh_inw 389 (by decide +kernel) (by decide +kernel)
theorem ws_X5_spin : Cond.selects RX5 yX5_spin yX5_spin ∈ sh_ws := sh_inw 390 (by decide +kernel) (by decide +kernel)
theorem lk_X4_76 : sh_LV RX4 76 mX5_spin 0 5 12 := ⟨cd_X5_spin, wm_X4_76, wv_X5_spin, ws_X5_spin, TX5, cl_X5⟩
theorem wf_X4_79 : Cond.fieldLink RX4 79 "ShadowTag$Runners" "catcher" "I" ∈ sh_ws := sh_inw 59 (by decide +kernel) (by decide +kernel)
theorem fl_X4_79 : sh_FL RX4 79 5 8 12 false := ⟨RX5, TX5, cl_X5, by decide, wf_X4_79, rfl⟩
theorem wf_X4_86 : Cond.fieldLink RX4 86 "ShadowTag$Runners" "cell" "[I" ∈ sh_ws := sh_inw 39 (by decide +kernel) (by decide +kernel)
theorem fl_X4_86 : sh_FL RX4 86 5 0 12 true := ⟨RX5, TX5, cl_X5, by decide, wf_X4_86, rfl⟩
theorem wf_X4_93 : Cond.fieldLink RX4 93 "ShadowTag$Runners" "respite" "[I" ∈ sh_ws := sh_inw 47 (by decide +kernel) (by decide +kernel)
theorem fl_X4_93 : sh_FL RX4 93 5 3 12 true := ⟨RX5, TX5, cl_X5, by decide, wf_X4_93, rfl⟩
theorem wm_X4_82 : Cond.methodLink RX4 82 yX5_has ∈ sh_ws := sh_inw 266 (by decide +kernel) (by decide +kernel)
theorem wv_X5_has : Cond.instanceMethod yX5_has ∈ sh_ws := sh_inw 255 (by decide +kernel) (by decide +kernel)
theorem ws_X5_has : Cond.selects RX5 yX5_has yX5_has ∈ sh_ws := sh_inw 256 (by decide +kernel) (by decide +kernel)
theorem lk_X4_82 : sh_LV RX4 82 mX5_has 1 5 12 := ⟨cd_X5_has, wm_X4_82, wv_X5_has, ws_X5_has, TX5, cl_X5⟩
theorem wm_X4_89 : Cond.methodLink RX4 89 yX4_shadowerOf ∈ sh_ws := sh_inw 366 (by decide +kernel) (by decide +kernel)
theorem wv_X4_shadowerOf : Cond.instanceMethod yX4_shadowerOf ∈ sh_ws := sh_inw 367 (by decide +kernel) (by decide +kernel)
theorem ws_X4_shadowerOf : Cond.selects RX4 yX4_shadowerOf yX4_shadowerOf ∈ sh_ws := sh_inw 368 (by decide +kernel) (by decide +kernel)
theorem lk_X4_89 : sh_LV RX4 89 mX4_shadowerOf 2 4 5 := ⟨cd_X4_shadowerOf, wm_X4_89, wv_X4_shadowerOf, ws_X4_shadowerOf, TX4, cl_X4⟩
theorem wm_X4_96 : Cond.methodLink RX4 96 yX4_isInShadow ∈ sh_ws := sh_inw 461 (by decide +kernel) (by decide +kernel)
theorem wv_X4_isInShadow : Cond.instanceMethod yX4_isInShadow ∈ sh_ws := sh_inw 462 (by decide +kernel) (by decide +kernel)
theorem ws_X4_isInShadow : Cond.selects RX4 yX4_isInShadow yX4_isInShadow ∈ sh_ws := sh_inw 463 (by decide +kernel) (by decide +kernel)
theorem lk_X4_96 : sh_LV RX4 96 mX4_isInShadow 3 4 5 := ⟨cd_X4_isInShadow, wm_X4_96, wv_X4_isInShadow, ws_X4_isInShadow, TX4, cl_X4⟩
theorem wf_X4_103 : Cond.fieldLink RX4 103 "ShadowTag$Lamps" "side" "[I" ∈ sh_ws := sh_inw 101 (by decide +kernel) (by decide +kernel)
theorem fl_X4_103 : sh_FL RX4 103 3 0 4 true := ⟨RX3, TX3, cl_X3, by decide, wf_X4_103, rfl⟩
theorem lk_X4_100 : sh_LSN RX4 100 mX6_isLamp 1 := ⟨cd_X6_isLamp, ⟨RX6, by decide +kernel⟩, wt_X6_isLamp⟩
theorem wt_X6_opposite : Cond.static yX6_opposite ∈ sh_ws := sh_inw 271 (by decide +kernel) (by decide +kernel)
theorem lk_X4_106 : sh_LSN RX4 106 mX6_opposite 1 := ⟨cd_X6_opposite, ⟨RX6, by decide +kernel⟩, wt_X6_opposite⟩
theorem wt_X6_distanceAlong : Cond.static yX6_distanceAlong ∈ sh_ws := sh_inw 280 (by decide +kernel) (by decide +kernel)
theorem lk_X4_110 : sh_LSN RX4 110 mX6_distanceAlong 3 := ⟨cd_X6_distanceAlong, ⟨RX6, by decide +kernel⟩, wt_X6_distanceAlong⟩
theorem wm_X4_114 : Cond.methodLink RX4 114 yX4_shadowLength ∈ sh_ws := sh_inw 262 (by decide +kernel) (by decide +kernel)
theorem wv_X4_shadowLength : Cond.instanceMethod yX4_shadowLength ∈ sh_ws := sh_inw 263 (by decide +kernel) (by decide +kernel)
theorem ws_X4_shadowLength : Cond.selects RX4 yX4_shadowLength yX4_shadowLength ∈ sh_ws := sh_inw 264 (by decide +kernel) (by decide +kernel)
theorem lk_X4_114 : sh_LV RX4 114 mX4_shadowLength 2 4 5 := ⟨cd_X4_shadowLength, wm_X4_114, wv_X4_shadowLength, ws_X4_shadowLength, TX4, cl_X4⟩
theorem wf_X4_117 : Cond.fieldLink RX4 117 "ShadowTag$Lamps" "on" "[I" ∈ sh_ws := sh_inw 109 (by decide +kernel) (by decide +kernel)
theorem fl_X4_117 : sh_FL RX4 117 3 3 4 true := ⟨RX3, TX3, cl_X3, by decide, wf_X4_117, rfl⟩
theorem wf_X4_120 : Cond.fieldLink RX4 120 "ShadowTag$Runners" "height" "[I" ∈ sh_ws := sh_inw 42 (by decide +kernel) (by decide +kernel)
theorem fl_X4_120 : sh_FL RX4 120 5 1 12 true := ⟨RX5, TX5, cl_X5, by decide, wf_X4_120, rfl⟩
theorem wf_X4_123 : Cond.fieldLink RX4 123 "ShadowTag$Lamps" "reach" "[I" ∈ sh_ws := sh_inw 104 (by decide +kernel) (by decide +kernel)
theorem fl_X4_123 : sh_FL RX4 123 3 1 4 true := ⟨RX3, TX3, cl_X3, by decide, wf_X4_123, rfl⟩
theorem wf_X4_134 : Cond.fieldLink RX4 134 "ShadowTag$Runners" "number" "I" ∈ sh_ws := sh_inw 56 (by decide +kernel) (by decide +kernel)
theorem fl_X4_134 : sh_FL RX4 134 5 7 12 false := ⟨RX5, TX5, cl_X5, by decide, wf_X4_134, rfl⟩
theorem lk_X4_126 : sh_LSN RX4 126 mX6_cellsToEdge 2 := ⟨cd_X6_cellsToEdge, ⟨RX6, by decide +kernel⟩, wt_X6_cellsToEdge⟩
theorem wm_X4_129 : Cond.methodLink RX4 129 Lib.Math.min.name ∈ sh_ws := sh_inw 276 (by decide +kernel) (by decide +kernel)
theorem wmin_1 : Cond.static Lib.Math.min.name ∈ sh_ws := sh_inw 277 (by decide +kernel) (by decide +kernel)
theorem wmin_2 : Cond.initialized "java/lang/Math" ∈ sh_ws := sh_inw 16 (by decide +kernel) (by decide +kernel)
theorem wmin_3 : Cond.code Lib.Math.min.name Lib.Math.min.code 2 (some .int) ∈ sh_ws := sh_inw 278 (by decide +kernel) (by decide +kernel)
theorem lk_X4_137 : sh_LSN RX4 137 mX6_cellAlong 3 := ⟨cd_X6_cellAlong, ⟨RX6, by decide +kernel⟩, wt_X6_cellAlong⟩
theorem wm_X4_140 : Cond.methodLink RX4 140 yX4_hasShadow ∈ sh_ws := sh_inw 431 (by decide +kernel) (by decide +kernel)
theorem wv_X4_hasShadow : Cond.instanceMethod yX4_hasShadow ∈ sh_ws := sh_inw 259 (by decide +kernel) (by decide +kernel)
theorem ws_X4_hasShadow : Cond.selects RX4 yX4_hasShadow yX4_hasShadow ∈ sh_ws := sh_inw 260 (by decide +kernel) (by decide +kernel)
theorem lk_X4_140 : sh_LV RX4 140 mX4_hasShadow 1 4 5 := ⟨cd_X4_hasShadow, wm_X4_140, wv_X4_hasShadow, ws_X4_hasShadow, TX4, cl_X4⟩
theorem lk_X4_143 : sh_LSN RX4 143 mX6_isCell 1 := ⟨cd_X6_isCell, ⟨RX6, by decide +kernel⟩, wt_X6_isCell⟩
theorem wm_X4_146 : Cond.methodLink RX4 146 yX5_standingOn ∈ sh_ws := sh_inw 371 (by decide +kernel) (by decide +kernel)
theorem wv_X5_standingOn : Cond.instanceMethod yX5_standingOn ∈ sh_ws := sh_inw 359 (by decide +kernel) (by decide +kernel)
theorem ws_X5_standingOn : Cond.selects RX5 yX5_standingOn yX5_standingOn ∈ sh_ws := sh_inw 360 (by decide +kernel) (by decide +kernel)
theorem lk_X4_146 : sh_LV RX4 146 mX5_standingOn 1 5 12 := ⟨cd_X5_standingOn, wm_X4_146, wv_X5_standingOn, ws_X5_standingOn, TX5, cl_X5⟩
theorem wm_X4_149 : Cond.methodLink RX4 149 yX4_darkenShadow ∈ sh_ws := sh_inw 290 (by decide +kernel) (by decide +kernel)
theorem wv_X4_darkenShadow : Cond.instanceMethod yX4_darkenShadow ∈ sh_ws := sh_inw 291 (by decide +kernel) (by decide +kernel)
theorem ws_X4_darkenShadow : Cond.selects RX4 yX4_darkenShadow yX4_darkenShadow ∈ sh_ws := sh_inw 292 (by decide +kernel) (by decide +kernel)
theorem lk_X4_149 : sh_LV RX4 149 mX4_darkenShadow 3 4 5 := ⟨cd_X4_darkenShadow, wm_X4_149, wv_X4_darkenShadow, ws_X4_darkenShadow, TX4, cl_X4⟩
theorem wm_X4_153 : Cond.methodLink RX4 153 yX0_darken ∈ sh_ws := sh_inw 297 (by decide +kernel) (by decide +kernel)
theorem wv_X0_darken : Cond.instanceMethod yX0_darken ∈ sh_ws := sh_inw 298 (by decide +kernel) (by decide +kernel)
theorem ws_X0_darken : Cond.selects RX0 yX0_darken yX0_darken ∈ sh_ws := sh_inw 299 (by decide +kernel) (by decide +kernel)
theorem lk_X4_153 : sh_LV RX4 153 mX0_darken 1 0 5 := ⟨cd_X0_darken, wm_X4_153, wv_X0_darken, ws_X0_darken, TX0, cl_X0⟩
theorem wf_X5_9 : Cond.fieldLink RX5 9 "ShadowTag$Runners" "cell" "[I" ∈ sh_ws := sh_inw 38 (by decide +kernel) (by decide +kernel)
theorem fl_X5_9 : sh_FL RX5 9 5 0 12 true := ⟨RX5, TX5, cl_X5, by decide, wf_X5_9, rfl⟩
theorem wf_X5_15 : Cond.fieldLink RX5 15 "ShadowTag$Runners" "height" "[I" ∈ sh_ws := sh_inw 41 (by decide +kernel) (by decide +kernel)
theorem fl_X5_15 : sh_FL RX5 15 5 1 12 true := ⟨RX5, TX5, cl_X5, by decide, wf_X5_15, rfl⟩
theorem wf_X5_18 : Cond.fieldLink RX5 18 "ShadowTag$Runners" "direction" "[I" ∈ sh_ws := sh_inw 44 (by decide +kernel) (by decide +kernel)
theorem fl_X5_18 : sh_FL RX5 18 5 2 12 true := ⟨RX5, TX5, cl_X5, by decide, wf_X5_18, rfl⟩
theorem wf_X5_21 : Cond.fieldLink RX5 21 "ShadowTag$Runners" "respite" "[I" ∈ sh_ws := sh_inw 46 (by decide +kernel) (by decide +kernel)
theorem fl_X5_21 : sh_FL RX5 21 5 3 12 true := ⟨RX5, TX5, cl_X5, by decide, wf_X5_21, rfl⟩
theorem wf_X5_24 : Cond.fieldLink RX5 24 "ShadowTag$Runners" "tagged" "[I" ∈ sh_ws := sh_inw 49 (by decide +kernel) (by decide +kernel)
theorem fl_X5_24 : sh_FL RX5 24 5 4 12 true := ⟨RX5, TX5, cl_X5, by decide, wf_X5_24, rfl⟩
theorem wf_X5_27 : Cond.fieldLink RX5 27 "ShadowTag$Runners" "tagging" "[I" ∈ sh_ws := sh_inw 51 (by decide +kernel) (by decide +kernel)
theorem fl_X5_27 : sh_FL RX5 27 5 5 12 true := ⟨RX5, TX5, cl_X5, by decide, wf_X5_27, rfl⟩
theorem wf_X5_30 : Cond.fieldLink RX5 30 "ShadowTag$Runners" "account" "[I" ∈ sh_ws := sh_inw 53 (by decide +kernel) (by decide +kernel)
theorem fl_X5_30 : sh_FL RX5 30 5 6 12 true := ⟨RX5, TX5, cl_X5, by decide, wf_X5_30, rfl⟩
theorem wf_X5_33 : Cond.fieldLink RX5 33 "ShadowTag$Runners" "number" "I" ∈ sh_ws := sh_inw 55 (by decide +kernel) (by decide +kernel)
theorem fl_X5_33 : sh_FL RX5 33 5 7 12 false := ⟨RX5, TX5, cl_X5, by decide, wf_X5_33, rfl⟩
theorem wf_X5_37 : Cond.fieldLink RX5 37 "ShadowTag$Runners" "catcher" "I" ∈ sh_ws := sh_inw 58 (by decide +kernel) (by decide +kernel)
theorem fl_X5_37 : sh_FL RX5 37 5 8 12 false := ⟨RX5, TX5, cl_X5, by decide, wf_X5_37, rfl⟩
theorem wf_X5_40 : Cond.fieldLink RX5 40 "ShadowTag$Runners" "tags" "I" ∈ sh_ws := sh_inw 61 (by decide +kernel) (by decide +kernel)
theorem fl_X5_40 : sh_FL RX5 40 5 9 12 false := ⟨RX5, TX5, cl_X5, by decide, wf_X5_40, rfl⟩
theorem wf_X5_43 : Cond.fieldLink RX5 43 "ShadowTag$Runners" "steps" "I" ∈ sh_ws := sh_inw 64 (by decide +kernel) (by decide +kernel)
theorem fl_X5_43 : sh_FL RX5 43 5 10 12 false := ⟨RX5, TX5, cl_X5, by decide, wf_X5_43, rfl⟩
theorem wf_X5_46 : Cond.fieldLink RX5 46 "ShadowTag$Runners" "stops" "I" ∈ sh_ws := sh_inw 66 (by decide +kernel) (by decide +kernel)
theorem fl_X5_46 : sh_FL RX5 46 5 11 12 false := ⟨RX5, TX5, cl_X5, by decide, wf_X5_46, rfl⟩
theorem wm_X5_3 : Cond.methodLink RX5 3 objectInit ∈ sh_ws := sh_inw 37 (by decide +kernel) (by decide +kernel)
theorem lk_X5_49 : sh_LSN RX5 49 mX6_copyRow 2 := ⟨cd_X6_copyRow, ⟨RX6, by decide +kernel⟩, wt_X6_copyRow⟩
theorem lk_X5_53 : sh_LSN RX5 53 mX6_isCell 1 := ⟨cd_X6_isCell, ⟨RX6, by decide +kernel⟩, wt_X6_isCell⟩
theorem wm_X5_57 : Cond.methodLink RX5 57 yX5_standingOn ∈ sh_ws := sh_inw 358 (by decide +kernel) (by decide +kernel)
theorem lk_X5_57 : sh_LV RX5 57 mX5_standingOn 1 5 12 := ⟨cd_X5_standingOn, wm_X5_57, wv_X5_standingOn, ws_X5_standingOn, TX5, cl_X5⟩
theorem wm_X5_61 : Cond.methodLink RX5 61 yX5_has ∈ sh_ws := sh_inw 355 (by decide +kernel) (by decide +kernel)
theorem lk_X5_61 : sh_LV RX5 61 mX5_has 1 5 12 := ⟨cd_X5_has, wm_X5_61, wv_X5_has, ws_X5_has, TX5, cl_X5⟩
theorem lk_X5_64 : sh_LSN RX5 64 mX6_replace 5 := ⟨cd_X6_replace, ⟨RX6, by decide +kernel⟩, wt_X6_replace⟩
theorem wm_X5_68 : Cond.methodLink RX5 68 yX5_step ∈ sh_ws := sh_inw 351 (by decide +kernel) (by decide +kernel)
theorem wv_X5_step : Cond.instanceMethod yX5_step ∈ sh_ws := sh_inw 353 (by decide +kernel) (by decide +kernel)
theorem ws_X5_step : Cond.selects RX5 yX5_step yX5_step ∈ sh_ws := sh_inw 2 (by decide +kernel) (by decide +kernel)
theorem lk_X5_68 : sh_LV RX5 68 mX5_step 1 5 12 := ⟨cd_X5_step, wm_X5_68, wv_X5_step, ws_X5_step, TX5, cl_X5⟩
theorem lk_X5_72 : sh_LSN RX5 72 mX6_cellAlong 3 := ⟨cd_X6_cellAlong, ⟨RX6, by decide +kernel⟩, wt_X6_cellAlong⟩
theorem lk_X5_76 : sh_LSN RX5 76 mX6_cellsToEdge 2 := ⟨cd_X6_cellsToEdge, ⟨RX6, by decide +kernel⟩, wt_X6_cellsToEdge⟩
theorem wk_X6_9 : Cond.classLink RX6 9 RX4 ∈ sh_ws := sh_inw 26 (by decide +kernel) (by decide +kernel)
theorem wf_X6_12 : Cond.fieldLink RX6 12 "ShadowTag" "platform" "LShadowTag$Platform;" ∈ sh_ws := sh_inw 214 (by decide +kernel) (by decide +kernel)
theorem fl_X6_12 : sh_FL RX6 12 6 0 9 true := ⟨RX6, TX6, cl_X6, by decide, wf_X6_12, rfl⟩
theorem wf_X6_16 : Cond.fieldLink RX6 16 "ShadowTag" "trial" "LShadowTag$Platform;" ∈ sh_ws := sh_inw 215 (by decide +kernel) (by decide +kernel)
theorem fl_X6_16 : sh_FL RX6 16 6 1 9 true := ⟨RX6, TX6, cl_X6, by decide, wf_X6_16, rfl⟩
theorem wf_X6_19 : Cond.fieldLink RX6 19 "ShadowTag" "snapshot" "LShadowTag$Platform;" ∈ sh_ws := sh_inw 216 (by decide +kernel) (by decide +kernel)
theorem fl_X6_19 : sh_FL RX6 19 6 2 9 true := ⟨RX6, TX6, cl_X6, by decide, wf_X6_19, rfl⟩
theorem wk_X6_22 : Cond.classLink RX6 22 RX2 ∈ sh_ws := sh_inw 141 (by decide +kernel) (by decide +kernel)
theorem wn_X2 : Cond.instantiable RX2 3 ∈ sh_ws := sh_inw 142 (by decide +kernel) (by decide +kernel)
theorem wf_X6_25 : Cond.fieldLink RX6 25 "ShadowTag" "history" "LShadowTag$History;" ∈ sh_ws := sh_inw 217 (by decide +kernel) (by decide +kernel)
theorem fl_X6_25 : sh_FL RX6 25 6 3 9 true := ⟨RX6, TX6, cl_X6, by decide, wf_X6_25, rfl⟩
theorem wk_X6_29 : Cond.classLink RX6 29 RX1 ∈ sh_ws := sh_inw 161 (by decide +kernel) (by decide +kernel)
theorem wn_X1 : Cond.instantiable RX1 7 ∈ sh_ws := sh_inw 162 (by decide +kernel) (by decide +kernel)
theorem wf_X6_32 : Cond.fieldLink RX6 32 "ShadowTag" "game" "LShadowTag$Game;" ∈ sh_ws := sh_inw 218 (by decide +kernel) (by decide +kernel)
theorem fl_X6_32 : sh_FL RX6 32 6 4 9 true := ⟨RX6, TX6, cl_X6, by decide, wf_X6_32, rfl⟩
theorem wk_X6_36 : Cond.classLink RX6 36 RX0 ∈ sh_ws := sh_inw 191 (by decide +kernel) (by decide +kernel)
theorem wn_X0 : Cond.instantiable RX0 5 ∈ sh_ws := sh_inw 192 (by decide +kernel) (by decide +kernel)
theorem wf_X6_39 : Cond.fieldLink RX6 39 "ShadowTag" "board" "LShadowTag$Board;" ∈ sh_ws := sh_inw 219 (by decide +kernel) (by decide +kernel)
theorem fl_X6_39 : sh_FL RX6 39 6 5 9 true := ⟨RX6, TX6, cl_X6, by decide, wf_X6_39, rfl⟩
theorem wf_X6_43 : Cond.fieldLink RX6 43 "ShadowTag" "hasSnapshot" "Z" ∈ sh_ws := sh_inw 220 (by decide +kernel) (by decide +kernel)
theorem fl_X6_43 : sh_FL RX6 43 6 6 9 false := ⟨RX6, TX6, cl_X6, by decide, wf_X6_43, rfl⟩
theorem wf_X6_47 : Cond.fieldLink RX6 47 "ShadowTag" "stopNumber" "I" ∈ sh_ws := sh_inw 221 (by decide +kernel) (by decide +kernel)
theorem fl_X6_47 : sh_FL RX6 47 6 7 9 false := ⟨RX6, TX6, cl_X6, by decide, wf_X6_47, rfl⟩
theorem wf_X6_51 : Cond.fieldLink RX6 51 "ShadowTag" "stopError" "I" ∈ sh_ws := sh_inw 222 (by decide +kernel) (by decide +kernel)
theorem fl_X6_51 : sh_FL RX6 51 6 8 9 false := ⟨RX6, TX6, cl_X6, by decide, wf_X6_51, rfl⟩
theorem wm_X6_3 : Cond.methodLink RX6 3 objectInit ∈ sh_ws := sh_inw 23 (by decide +kernel) (by decide +kernel)
theorem lk_X6_11 : sh_LIN RX6 11 mX4_init 0 := ⟨cd_X4_init, ⟨RX6, by decide +kernel⟩, wv_X4_init, rfl, rfl⟩
theorem wm_X6_24 : Cond.methodLink RX6 24 yX2_init ∈ sh_ws := sh_inw 143 (by decide +kernel) (by decide +kernel)
theorem wv_X2_init : Cond.instanceMethod yX2_init ∈ sh_ws := sh_inw 144 (by decide +kernel) (by decide +kernel)
theorem lk_X6_24 : sh_LI RX6 24 mX2_init 0 := ⟨cd_X2_init, wm_X6_24, wv_X2_init, rfl, rfl⟩
theorem wv_X1_init : Cond.instanceMethod yX1_init ∈ sh_ws := sh_inw 164 (by decide +kernel) (by decide +kernel)
theorem lk_X6_31 : sh_LIN RX6 31 mX1_init 0 := ⟨cd_X1_init, ⟨RX6, by decide +kernel⟩, wv_X1_init, rfl, rfl⟩
theorem wv_X0_init : Cond.instanceMethod yX0_init ∈ sh_ws := sh_inw 194 (by decide +kernel) (by decide +kernel)
theorem lk_X6_38 : sh_LIN RX6 38 mX0_init 0 := ⟨cd_X0_init, ⟨RX6, by decide +kernel⟩, wv_X0_init, rfl, rfl⟩
theorem wf_X6_58 : Cond.fieldLink RX6 58 "ShadowTag$Platform" "runners" "LShadowTag$Runners;" ∈ sh_ws := sh_inw 121 (by decide +kernel) (by decide +kernel)
theorem fl_X6_58 : sh_FL RX6 58 4 0 5 true := ⟨RX4, TX4, cl_X4, by decide, wf_X6_58, rfl⟩
theorem wm_X6_54 : Cond.methodLink RX6 54 yX4_copyFrom ∈ sh_ws := sh_inw 322 (by decide +kernel) (by decide +kernel)
theorem lk_X6_54 : sh_LV RX6 54 mX4_copyFrom 1 4 5 := ⟨cd_X4_copyFrom, wm_X6_54, wv_X4_copyFrom, ws_X4_copyFrom, TX4, cl_X4⟩
theorem wm_X6_62 : Cond.methodLink RX6 62 yX5_welcome ∈ sh_ws := sh_inw 533 (by decide +kernel) (by decide +kernel)
theorem wv_X5_welcome : Cond.instanceMethod yX5_welcome ∈ sh_ws := sh_inw 534 (by decide +kernel) (by decide +kernel)
theorem ws_X5_welcome : Cond.selects RX5 yX5_welcome yX5_welcome ∈ sh_ws := sh_inw 535 (by decide +kernel) (by decide +kernel)
theorem lk_X6_62 : sh_LV RX6 62 mX5_welcome 2 5 12 := ⟨cd_X5_welcome, wm_X6_62, wv_X5_welcome, ws_X5_welcome, TX5, cl_X5⟩
theorem wm_X6_68 : Cond.methodLink RX6 68 yX6_takeOver ∈ sh_ws := sh_inw 538 (by decide +kernel) (by decide +kernel)
theorem wv_X6_takeOver : Cond.instanceMethod yX6_takeOver ∈ sh_ws := sh_inw 540 (by decide +kernel) (by decide +kernel)
theorem ws_X6_takeOver : Cond.selects RX6 yX6_takeOver yX6_takeOver ∈ sh_ws := sh_inw 6 (by decide +kernel) (by decide +kernel)
theorem lk_X6_68 : sh_LV RX6 68 mX6_takeOver 1 6 9 := ⟨cd_X6_takeOver, wm_X6_68, wv_X6_takeOver, ws_X6_takeOver, TX6, cl_X6⟩
theorem wm_X6_72 : Cond.methodLink RX6 72 yX5_steer ∈ sh_ws := sh_inw 555 (by decide +kernel) (by decide +kernel)
theorem wv_X5_steer : Cond.instanceMethod yX5_steer ∈ sh_ws := sh_inw 556 (by decide +kernel) (by decide +kernel)
theorem ws_X5_steer : Cond.selects RX5 yX5_steer yX5_steer ∈ sh_ws := sh_inw 557 (by decide +kernel) (by decide +kernel)
theorem lk_X6_72 : sh_LV RX6 72 mX5_steer 2 5 12 := ⟨cd_X5_steer, wm_X6_72, wv_X5_steer, ws_X5_steer, TX5, cl_X5⟩
theorem wf_X6_75 : Cond.fieldLink RX6 75 "ShadowTag$Platform" "lamps" "LShadowTag$Lamps;" ∈ sh_ws := sh_inw 123 (by decide +kernel) (by decide +kernel)
theorem fl_X6_75 : sh_FL RX6 75 4 1 5 true := ⟨RX4, TX4, cl_X4, by decide, wf_X6_75, rfl⟩
theorem wm_X6_79 : Cond.methodLink RX6 79 yX3_switchTo ∈ sh_ws := sh_inw 566 (by decide +kernel) (by decide +kernel)
theorem wv_X3_switchTo : Cond.instanceMethod yX3_switchTo ∈ sh_ws := sh_inw 567 (by decide +kernel) (by decide +kernel)
theorem ws_X3_switchTo : Cond.selects RX3 yX3_switchTo yX3_switchTo ∈ sh_ws := sh_inw 568 (by decide +kernel) (by decide +kernel)
theorem lk_X6_79 : sh_LV RX6 79 mX3_switchTo 2 3 4 := ⟨cd_X3_switchTo, wm_X6_79, wv_X3_switchTo, ws_X3_switchTo, TX3, cl_X3⟩
theorem wm_X6_84 : Cond.methodLink RX6 84 yX3_adjust ∈ sh_ws := sh_inw 576 (by decide +kernel) (by decide +kernel)
theorem wv_X3_adjust : Cond.instanceMethod yX3_adjust ∈ sh_ws := sh_inw 577 (by decide +kernel) (by decide +kernel)
theorem ws_X3_adjust : Cond.selects RX3 yX3_adjust yX3_adjust ∈ sh_ws := sh_inw 578 (by decide +kernel) (by decide +kernel)
theorem lk_X6_84 : sh_LV RX6 84 mX3_adjust 3 3 4 := ⟨cd_X3_adjust, wm_X6_84, wv_X3_adjust, ws_X3_adjust, TX3, cl_X3⟩
theorem wf_X6_88 : Cond.fieldLink RX6 88 "ShadowTag$Platform" "settings" "[I" ∈ sh_ws := sh_inw 125 (by decide +kernel) (by decide +kernel)
theorem fl_X6_88 : sh_FL RX6 88 4 2 5 true := ⟨RX4, TX4, cl_X4, by decide, wf_X6_88, rfl⟩
theorem wm_X6_92 : Cond.methodLink RX6 92 yX6_replace ∈ sh_ws := sh_inw 585 (by decide +kernel) (by decide +kernel)
theorem lk_X6_92 : sh_LS RX6 92 mX6_replace 5 := ⟨cd_X6_replace, wm_X6_92, wt_X6_replace⟩
theorem wm_X6_96 : Cond.methodLink RX6 96 yX4_takeTurns ∈ sh_ws := sh_inw 590 (by decide +kernel) (by decide +kernel)
theorem wv_X4_takeTurns : Cond.instanceMethod yX4_takeTurns ∈ sh_ws := sh_inw 591 (by decide +kernel) (by decide +kernel)
theorem ws_X4_takeTurns : Cond.selects RX4 yX4_takeTurns yX4_takeTurns ∈ sh_ws := sh_inw 592 (by decide +kernel) (by decide +kernel)
theorem lk_X6_96 : sh_LV RX6 96 mX4_takeTurns 1 4 5 := ⟨cd_X4_takeTurns, wm_X6_96, wv_X4_takeTurns, ws_X4_takeTurns, TX4, cl_X4⟩
theorem wf_X6_130 : Cond.fieldLink RX6 130 "ShadowTag$Runners" "cell" "[I" ∈ sh_ws := sh_inw 40 (by decide +kernel) (by decide +kernel)
theorem fl_X6_130 : sh_FL RX6 130 5 0 12 true := ⟨RX5, TX5, cl_X5, by decide, wf_X6_130, rfl⟩
theorem wf_X6_133 : Cond.fieldLink RX6 133 "ShadowTag$Runners" "height" "[I" ∈ sh_ws := sh_inw 43 (by decide +kernel) (by decide +kernel)
theorem fl_X6_133 : sh_FL RX6 133 5 1 12 true := ⟨RX5, TX5, cl_X5, by decide, wf_X6_133, rfl⟩
theorem wf_X6_136 : Cond.fieldLink RX6 136 "ShadowTag$Runners" "direction" "[I" ∈ sh_ws := sh_inw 45 (by decide +kernel) (by decide +kernel)
theorem fl_X6_136 : sh_FL RX6 136 5 2 12 true := ⟨RX5, TX5, cl_X5, by decide, wf_X6_136, rfl⟩
theorem wf_X6_139 : Cond.fieldLink RX6 139 "ShadowTag$Runners" "respite" "[I" ∈ sh_ws := sh_inw 48 (by decide +kernel) (by decide +kernel)
theorem fl_X6_139 : sh_FL RX6 139 5 3 12 true := ⟨RX5, TX5, cl_X5, by decide, wf_X6_139, rfl⟩
theorem wf_X6_142 : Cond.fieldLink RX6 142 "ShadowTag$Runners" "tagged" "[I" ∈ sh_ws := sh_inw 50 (by decide +kernel) (by decide +kernel)
theorem fl_X6_142 : sh_FL RX6 142 5 4 12 true := ⟨RX5, TX5, cl_X5, by decide, wf_X6_142, rfl⟩
theorem wf_X6_145 : Cond.fieldLink RX6 145 "ShadowTag$Runners" "tagging" "[I" ∈ sh_ws := sh_inw 52 (by decide +kernel) (by decide +kernel)
theorem fl_X6_145 : sh_FL RX6 145 5 5 12 true := ⟨RX5, TX5, cl_X5, by decide, wf_X6_145, rfl⟩
theorem wf_X6_148 : Cond.fieldLink RX6 148 "ShadowTag$Runners" "account" "[I" ∈ sh_ws := sh_inw 54 (by decide +kernel) (by decide +kernel)
theorem fl_X6_148 : sh_FL RX6 148 5 6 12 true := ⟨RX5, TX5, cl_X5, by decide, wf_X6_148, rfl⟩
theorem wm_X6_126 : Cond.methodLink RX6 126 yX5_has ∈ sh_ws := sh_inw 254 (by decide +kernel) (by decide +kernel)
theorem lk_X6_126 : sh_LV RX6 126 mX5_has 1 5 12 := ⟨cd_X5_has, wm_X6_126, wv_X5_has, ws_X5_has, TX5, cl_X5⟩
theorem wm_X6_151 : Cond.methodLink RX6 151 yX6_cellsInShadowsOf ∈ sh_ws := sh_inw 407 (by decide +kernel) (by decide +kernel)
theorem wv_X6_cellsInShadowsOf : Cond.instanceMethod yX6_cellsInShadowsOf ∈ sh_ws := sh_inw 409 (by decide +kernel) (by decide +kernel)
theorem ws_X6_cellsInShadowsOf : Cond.selects RX6 yX6_cellsInShadowsOf yX6_cellsInShadowsOf ∈ sh_ws := sh_inw 3 (by decide +kernel) (by decide +kernel)
theorem lk_X6_151 : sh_LV RX6 151 mX6_cellsInShadowsOf 1 6 9 := ⟨cd_X6_cellsInShadowsOf, wm_X6_151, wv_X6_cellsInShadowsOf, ws_X6_cellsInShadowsOf, TX6, cl_X6⟩
theorem wf_X6_157 : Cond.fieldLink RX6 157 "ShadowTag$Lamps" "side" "[I" ∈ sh_ws := sh_inw 102 (by decide +kernel) (by decide +kernel)
theorem fl_X6_157 : sh_FL RX6 157 3 0 4 true := ⟨RX3, TX3, cl_X3, by decide, wf_X6_157, rfl⟩
theorem wf_X6_160 : Cond.fieldLink RX6 160 "ShadowTag$Lamps" "reach" "[I" ∈ sh_ws := sh_inw 105 (by decide +kernel) (by decide +kernel)
theorem fl_X6_160 : sh_FL RX6 160 3 1 4 true := ⟨RX3, TX3, cl_X3, by decide, wf_X6_160, rfl⟩
theorem wf_X6_163 : Cond.fieldLink RX6 163 "ShadowTag$Lamps" "swing" "[I" ∈ sh_ws := sh_inw 107 (by decide +kernel) (by decide +kernel)
theorem fl_X6_163 : sh_FL RX6 163 3 2 4 true := ⟨RX3, TX3, cl_X3, by decide, wf_X6_163, rfl⟩
theorem wf_X6_166 : Cond.fieldLink RX6 166 "ShadowTag$Lamps" "on" "[I" ∈ sh_ws := sh_inw 110 (by decide +kernel) (by decide +kernel)
theorem fl_X6_166 : sh_FL RX6 166 3 3 4 true := ⟨RX3, TX3, cl_X3, by decide, wf_X6_166, rfl⟩
theorem wm_X6_154 : Cond.methodLink RX6 154 yX6_isLamp ∈ sh_ws := sh_inw 486 (by decide +kernel) (by decide +kernel)
theorem lk_X6_154 : sh_LS RX6 154 mX6_isLamp 1 := ⟨cd_X6_isLamp, wm_X6_154, wt_X6_isLamp⟩
theorem wm_X6_169 : Cond.methodLink RX6 169 yX6_cellsInShadowsBy ∈ sh_ws := sh_inw 487 (by decide +kernel) (by decide +kernel)
theorem wv_X6_cellsInShadowsBy : Cond.instanceMethod yX6_cellsInShadowsBy ∈ sh_ws := sh_inw 489 (by decide +kernel) (by decide +kernel)
theorem ws_X6_cellsInShadowsBy : Cond.selects RX6 yX6_cellsInShadowsBy yX6_cellsInShadowsBy ∈ sh_ws := sh_inw 5 (by decide +kernel) (by decide +kernel)
theorem lk_X6_169 : sh_LV RX6 169 mX6_cellsInShadowsBy 1 6 9 := ⟨cd_X6_cellsInShadowsBy, wm_X6_169, wv_X6_cellsInShadowsBy, ws_X6_cellsInShadowsBy, TX6, cl_X6⟩
theorem wm_X6_172 : Cond.methodLink RX6 172 yX4_shadowLength ∈ sh_ws := sh_inw 499 (by decide +kernel) (by decide +kernel)
theorem lk_X6_172 : sh_LV RX6 172 mX4_shadowLength 2 4 5 := ⟨cd_X4_shadowLength, wm_X6_172, wv_X4_shadowLength, ws_X4_shadowLength, TX4, cl_X4⟩
theorem wm_X6_175 : Cond.methodLink RX6 175 yX4_shadowEnd ∈ sh_ws := sh_inw 500 (by decide +kernel) (by decide +kernel)
theorem wv_X4_shadowEnd : Cond.instanceMethod yX4_shadowEnd ∈ sh_ws := sh_inw 501 (by decide +kernel) (by decide +kernel)
theorem ws_X4_shadowEnd : Cond.selects RX4 yX4_shadowEnd yX4_shadowEnd ∈ sh_ws := sh_inw 502 (by decide +kernel) (by decide +kernel)
theorem lk_X6_175 : sh_LV RX6 175 mX4_shadowEnd 2 4 5 := ⟨cd_X4_shadowEnd, wm_X6_175, wv_X4_shadowEnd, ws_X4_shadowEnd, TX4, cl_X4⟩
theorem wm_X6_178 : Cond.methodLink RX6 178 yX5_standingOn ∈ sh_ws := sh_inw 449 (by decide +kernel) (by decide +kernel)
theorem lk_X6_178 : sh_LV RX6 178 mX5_standingOn 1 5 12 := ⟨cd_X5_standingOn, wm_X6_178, wv_X5_standingOn, ws_X5_standingOn, TX5, cl_X5⟩
theorem wf_X6_123 : Cond.fieldLink RX6 123 "ShadowTag$Runners" "number" "I" ∈ sh_ws := sh_inw 57 (by decide +kernel) (by decide +kernel)
theorem fl_X6_123 : sh_FL RX6 123 5 7 12 false := ⟨RX5, TX5, cl_X5, by decide, wf_X6_123, rfl⟩
theorem wm_X6_181 : Cond.methodLink RX6 181 yX6_isCell ∈ sh_ws := sh_inw 448 (by decide +kernel) (by decide +kernel)
theorem lk_X6_181 : sh_LS RX6 181 mX6_isCell 1 := ⟨cd_X6_isCell, wm_X6_181, wt_X6_isCell⟩
theorem wm_X6_184 : Cond.methodLink RX6 184 yX4_isInShadow ∈ sh_ws := sh_inw 473 (by decide +kernel) (by decide +kernel)
theorem lk_X6_184 : sh_LV RX6 184 mX4_isInShadow 3 4 5 := ⟨cd_X4_isInShadow, wm_X6_184, wv_X4_isInShadow, ws_X4_isInShadow, TX4, cl_X4⟩
theorem wm_X6_188 : Cond.methodLink RX6 188 yX4_shadowerOf ∈ sh_ws := sh_inw 478 (by decide +kernel) (by decide +kernel)
theorem lk_X6_188 : sh_LV RX6 188 mX4_shadowerOf 2 4 5 := ⟨cd_X4_shadowerOf, wm_X6_188, wv_X4_shadowerOf, ws_X4_shadowerOf, TX4, cl_X4⟩
theorem wf_X6_191 : Cond.fieldLink RX6 191 "ShadowTag$Runners" "catcher" "I" ∈ sh_ws := sh_inw 60 (by decide +kernel) (by decide +kernel)
theorem fl_X6_191 : sh_FL RX6 191 5 8 12 false := ⟨RX5, TX5, cl_X5, by decide, wf_X6_191, rfl⟩
theorem wm_X6_194 : Cond.methodLink RX6 194 yX4_hasShadow ∈ sh_ws := sh_inw 258 (by decide +kernel) (by decide +kernel)
theorem lk_X6_194 : sh_LV RX6 194 mX4_hasShadow 1 4 5 := ⟨cd_X4_hasShadow, wm_X6_194, wv_X4_hasShadow, ws_X4_hasShadow, TX4, cl_X4⟩
theorem wm_X6_197 : Cond.methodLink RX6 197 yX4_catcherStandsInShadowOf ∈ sh_ws := sh_inw 457 (by decide +kernel) (by decide +kernel)
theorem wv_X4_catcherStandsInShadowOf : Cond.instanceMethod yX4_catcherStandsInShadowOf ∈ sh_ws := sh_inw 458 (by decide +kernel) (by decide +kernel)
theorem ws_X4_catcherStandsInShadowOf : Cond.selects RX4 yX4_catcherStandsInShadowOf yX4_catcherStandsInShadowOf ∈ sh_ws := sh_inw 459 (by decide +kernel) (by decide +kernel)
theorem lk_X6_197 : sh_LV RX6 197 mX4_catcherStandsInShadowOf 1 4 5 := ⟨cd_X4_catcherStandsInShadowOf, wm_X6_197, wv_X4_catcherStandsInShadowOf, ws_X4_catcherStandsInShadowOf, TX4, cl_X4⟩
theorem wm_X6_200 : Cond.methodLink RX6 200 yX4_firstCaught ∈ sh_ws := sh_inw 465 (by decide +kernel) (by decide +kernel)
theorem lk_X6_200 : sh_LV RX6 200 mX4_firstCaught 0 4 5 := ⟨cd_X4_firstCaught, wm_X6_200, wv_X4_firstCaught, ws_X4_firstCaught, TX4, cl_X4⟩
theorem wm_X6_203 : Cond.methodLink RX6 203 yX0_clear ∈ sh_ws := sh_inw 282 (by decide +kernel) (by decide +kernel)
theorem wv_X0_clear : Cond.instanceMethod yX0_clear ∈ sh_ws := sh_inw 283 (by decide +kernel) (by decide +kernel)
theorem ws_X0_clear : Cond.selects RX0 yX0_clear yX0_clear ∈ sh_ws := sh_inw 284 (by decide +kernel) (by decide +kernel)
theorem lk_X6_203 : sh_LV RX6 203 mX0_clear 0 0 5 := ⟨cd_X0_clear, wm_X6_203, wv_X0_clear, ws_X0_clear, TX0, cl_X0⟩
theorem wm_X6_205 : Cond.methodLink RX6 205 yX4_darkenShadowsOf ∈ sh_ws := sh_inw 286 (by decide +kernel) (by decide +kernel)
theorem wv_X4_darkenShadowsOf : Cond.instanceMethod yX4_darkenShadowsOf ∈ sh_ws := sh_inw 287 (by decide +kernel) (by decide +kernel)
theorem ws_X4_darkenShadowsOf : Cond.selects RX4 yX4_darkenShadowsOf yX4_darkenShadowsOf ∈ sh_ws := sh_inw 288 (by decide +kernel) (by decide +kernel)
theorem lk_X6_205 : sh_LV RX6 205 mX4_darkenShadowsOf 2 4 5 := ⟨cd_X4_darkenShadowsOf, wm_X6_205, wv_X4_darkenShadowsOf, ws_X4_darkenShadowsOf, TX4, cl_X4⟩
theorem wm_X6_209 : Cond.methodLink RX6 209 yX0_block ∈ sh_ws := sh_inw 304 (by decide +kernel) (by decide +kernel)
theorem wv_X0_block : Cond.instanceMethod yX0_block ∈ sh_ws := sh_inw 305 (by decide +kernel) (by decide +kernel)
theorem ws_X0_block : Cond.selects RX0 yX0_block yX0_block ∈ sh_ws := sh_inw 306 (by decide +kernel) (by decide +kernel)
theorem lk_X6_209 : sh_LV RX6 209 mX0_block 1 0 5 := ⟨cd_X0_block, wm_X6_209, wv_X0_block, ws_X0_block, TX0, cl_X0⟩
theorem wm_X6_213 : Cond.methodLink RX6 213 yX0_stepsIntoTheDark ∈ sh_ws := sh_inw 308 (by decide +kernel) (by decide +kernel)
theorem wv_X0_stepsIntoTheDark : Cond.instanceMethod yX0_stepsIntoTheDark ∈ sh_ws := sh_inw 309 (by decide +kernel) (by decide +kernel)
theorem ws_X0_stepsIntoTheDark : Cond.selects RX0 yX0_stepsIntoTheDark yX0_stepsIntoTheDark ∈ sh_ws := sh_inw 310 (by decide +kernel) (by decide +kernel)
theorem lk_X6_213 : sh_LV RX6 213 mX0_stepsIntoTheDark 1 0 5 := ⟨cd_X0_stepsIntoTheDark, wm_X6_213, wv_X0_stepsIntoTheDark, ws_X0_stepsIntoTheDark, TX0, cl_X0⟩
theorem wm_X6_216 : Cond.methodLink RX6 216 yX6_stepsOrFarthest ∈ sh_ws := sh_inw 246 (by decide +kernel) (by decide +kernel)
theorem wv_X6_stepsOrFarthest : Cond.instanceMethod yX6_stepsOrFarthest ∈ sh_ws := sh_inw 248 (by decide +kernel) (by decide +kernel)
theorem ws_X6_stepsOrFarthest : Cond.selects RX6 yX6_stepsOrFarthest yX6_stepsOrFarthest ∈ sh_ws := sh_inw 0 (by decide +kernel) (by decide +kernel)
theorem lk_X6_216 : sh_LV RX6 216 mX6_stepsOrFarthest 1 6 9 := ⟨cd_X6_stepsOrFarthest, wm_X6_216, wv_X6_stepsOrFarthest, ws_X6_stepsOrFarthest, TX6, cl_X6⟩
theorem wm_X6_219 : Cond.methodLink RX6 219 yX4_takeTurn ∈ sh_ws := sh_inw 343 (by decide +kernel) (by decide +kernel)
theorem lk_X6_219 : sh_LV RX6 219 mX4_takeTurn 0 4 5 := ⟨cd_X4_takeTurn, wm_X6_219, wv_X4_takeTurn, ws_X4_takeTurn, TX4, cl_X4⟩
theorem wf_X6_223 : Cond.fieldLink RX6 223 "ShadowTag$Platform" "turn" "I" ∈ sh_ws := sh_inw 127 (by decide +kernel) (by decide +kernel)
theorem fl_X6_223 : sh_FL RX6 223 4 3 5 false := ⟨RX4, TX4, cl_X4, by decide, wf_X6_223, rfl⟩
theorem wf_X6_235 : Cond.fieldLink RX6 235 "ShadowTag$Runners" "tags" "I" ∈ sh_ws := sh_inw 63 (by decide +kernel) (by decide +kernel)
theorem fl_X6_235 : sh_FL RX6 235 5 9 12 false := ⟨RX5, TX5, cl_X5, by decide, wf_X6_235, rfl⟩
theorem wf_X6_238 : Cond.fieldLink RX6 238 "ShadowTag$Runners" "steps" "I" ∈ sh_ws := sh_inw 65 (by decide +kernel) (by decide +kernel)
theorem fl_X6_238 : sh_FL RX6 238 5 10 12 false := ⟨RX5, TX5, cl_X5, by decide, wf_X6_238, rfl⟩
theorem wf_X6_241 : Cond.fieldLink RX6 241 "ShadowTag$Runners" "stops" "I" ∈ sh_ws := sh_inw 67 (by decide +kernel) (by decide +kernel)
theorem fl_X6_241 : sh_FL RX6 241 5 11 12 false := ⟨RX5, TX5, cl_X5, by decide, wf_X6_241, rfl⟩
theorem wf_X6_244 : Cond.fieldLink RX6 244 "ShadowTag$Platform" "spins" "I" ∈ sh_ws := sh_inw 129 (by decide +kernel) (by decide +kernel)
theorem fl_X6_244 : sh_FL RX6 244 4 4 5 false := ⟨RX4, TX4, cl_X4, by decide, wf_X6_244, rfl⟩
theorem wf_X6_120 : Cond.fieldLink RX6 120 "ShadowTag$History" "states" "I" ∈ sh_ws := sh_inw 153 (by decide +kernel) (by decide +kernel)
theorem fl_X6_120 : sh_FL RX6 120 2 2 3 false := ⟨RX2, TX2, cl_X2, by decide, wf_X6_120, rfl⟩
theorem wf_X6_247 : Cond.fieldLink RX6 247 "ShadowTag$Game" "length" "I" ∈ sh_ws := sh_inw 169 (by decide +kernel) (by decide +kernel)
theorem fl_X6_247 : sh_FL RX6 247 1 1 7 false := ⟨RX1, TX1, cl_X1, by decide, wf_X6_247, rfl⟩
theorem wm_X6_226 : Cond.methodLink RX6 226 yX3_burning ∈ sh_ws := sh_inw 419 (by decide +kernel) (by decide +kernel)
theorem lk_X6_226 : sh_LV RX6 226 mX3_burning 0 3 4 := ⟨cd_X3_burning, wm_X6_226, wv_X3_burning, ws_X3_burning, TX3, cl_X3⟩
theorem wm_X6_229 : Cond.methodLink RX6 229 yX6_cellsInAnyShadow ∈ sh_ws := sh_inw 423 (by decide +kernel) (by decide +kernel)
theorem wv_X6_cellsInAnyShadow : Cond.instanceMethod yX6_cellsInAnyShadow ∈ sh_ws := sh_inw 425 (by decide +kernel) (by decide +kernel)
theorem ws_X6_cellsInAnyShadow : Cond.selects RX6 yX6_cellsInAnyShadow yX6_cellsInAnyShadow ∈ sh_ws := sh_inw 4 (by decide +kernel) (by decide +kernel)
theorem lk_X6_229 : sh_LV RX6 229 mX6_cellsInAnyShadow 0 6 9 := ⟨cd_X6_cellsInAnyShadow, wm_X6_229, wv_X6_cellsInAnyShadow, ws_X6_cellsInAnyShadow, TX6, cl_X6⟩
theorem wm_X6_232 : Cond.methodLink RX6 232 yX4_runnersWithoutShadow ∈ sh_ws := sh_inw 427 (by decide +kernel) (by decide +kernel)
theorem wv_X4_runnersWithoutShadow : Cond.instanceMethod yX4_runnersWithoutShadow ∈ sh_ws := sh_inw 428 (by decide +kernel) (by decide +kernel)
theorem ws_X4_runnersWithoutShadow : Cond.selects RX4 yX4_runnersWithoutShadow yX4_runnersWithoutShadow ∈ sh_ws := sh_inw 429 (by decide +kernel) (by decide +kernel)
theorem lk_X6_232 : sh_LV RX6 232 mX4_runnersWithoutShadow 0 4 5 := ⟨cd_X4_runnersWithoutShadow, wm_X6_232, wv_X4_runnersWithoutShadow, ws_X4_runnersWithoutShadow, TX4, cl_X4⟩
theorem wm_X6_250 : Cond.methodLink RX6 250 yX2_record ∈ sh_ws := sh_inw 542 (by decide +kernel) (by decide +kernel)
theorem wv_X2_record : Cond.instanceMethod yX2_record ∈ sh_ws := sh_inw 543 (by decide +kernel) (by decide +kernel)
theorem ws_X2_record : Cond.selects RX2 yX2_record yX2_record ∈ sh_ws := sh_inw 544 (by decide +kernel) (by decide +kernel)
theorem lk_X6_250 : sh_LV RX6 250 mX2_record 1 2 3 := ⟨cd_X2_record, wm_X6_250, wv_X2_record, ws_X2_record, TX2, cl_X2⟩
theorem wm_X6_262 : Cond.methodLink RX6 262 yX0_darkCells ∈ sh_ws := sh_inw 411 (by decide +kernel) (by decide +kernel)
theorem wv_X0_darkCells : Cond.instanceMethod yX0_darkCells ∈ sh_ws := sh_inw 412 (by decide +kernel) (by decide +kernel)
theorem ws_X0_darkCells : Cond.selects RX0 yX0_darkCells yX0_darkCells ∈ sh_ws := sh_inw 413 (by decide +kernel) (by decide +kernel)
theorem lk_X6_262 : sh_LV RX6 262 mX0_darkCells 0 0 5 := ⟨cd_X0_darkCells, wm_X6_262, wv_X0_darkCells, ws_X0_darkCells, TX0, cl_X0⟩
theorem wm_X6_265 : Cond.methodLink RX6 265 yX4_darkenShadow ∈ sh_ws := sh_inw 491 (by decide +kernel) (by decide +kernel)
theorem lk_X6_265 : sh_LV RX6 265 mX4_darkenShadow 3 4 5 := ⟨cd_X4_darkenShadow, wm_X6_265, wv_X4_darkenShadow, ws_X4_darkenShadow, TX4, cl_X4⟩
theorem wm_X6_269 : Cond.methodLink RX6 269 yX6_stepsTo ∈ sh_ws := sh_inw 250 (by decide +kernel) (by decide +kernel)
theorem wv_X6_stepsTo : Cond.instanceMethod yX6_stepsTo ∈ sh_ws := sh_inw 251 (by decide +kernel) (by decide +kernel)
theorem ws_X6_stepsTo : Cond.selects RX6 yX6_stepsTo yX6_stepsTo ∈ sh_ws := sh_inw 252 (by decide +kernel) (by decide +kernel)
theorem lk_X6_269 : sh_LV RX6 269 mX6_stepsTo 1 6 9 := ⟨cd_X6_stepsTo, wm_X6_269, wv_X6_stepsTo, ws_X6_stepsTo, TX6, cl_X6⟩
theorem wm_X6_272 : Cond.methodLink RX6 272 Lib.Math.min.name ∈ sh_ws := sh_inw 333 (by decide +kernel) (by decide +kernel)
theorem wm_X6_277 : Cond.methodLink RX6 277 arraycopyName ∈ sh_ws := sh_inw 334 (by decide +kernel) (by decide +kernel)
theorem wcp_1 : Cond.native arraycopyName ∈ sh_ws := sh_inw 336 (by decide +kernel) (by decide +kernel)
theorem wcp_2 : Cond.static arraycopyName ∈ sh_ws := sh_inw 335 (by decide +kernel) (by decide +kernel)
theorem wcp_3 : Cond.initialized "java/lang/System" ∈ sh_ws := sh_inw 17 (by decide +kernel) (by decide +kernel)
theorem wl_L_7 : Cond.constant RL 7 (Int32.ofInt 1597334677) ∈ sh_ws := sh_inw 395 (by decide +kernel) (by decide +kernel)
theorem wl_L_8 : Cond.constant RL 8 (Int32.ofInt 2147483647) ∈ sh_ws := sh_inw 399 (by decide +kernel) (by decide +kernel)
theorem wm_L_11 : Cond.methodLink RL 11 yL_straight ∈ sh_ws := sh_inw 441 (by decide +kernel) (by decide +kernel)
theorem wt_L_straight : Cond.static yL_straight ∈ sh_ws := sh_inw 442 (by decide +kernel) (by decide +kernel)
theorem lk_L_11 : sh_LS RL 11 mL_straight 3 := ⟨cd_L_straight, wm_L_11, wt_L_straight⟩
theorem wm_L_15 : Cond.methodLink RL 15 yL_shades ∈ sh_ws := sh_inw 438 (by decide +kernel) (by decide +kernel)
theorem wt_L_shades : Cond.static yL_shades ∈ sh_ws := sh_inw 439 (by decide +kernel) (by decide +kernel)
theorem lk_L_15 : sh_LS RL 15 mL_shades 6 := ⟨cd_L_shades, wm_L_15, wt_L_shades⟩
theorem wm_L_19 : Cond.methodLink RL 19 yL_shaded ∈ sh_ws := sh_inw 435 (by decide +kernel) (by decide +kernel)
theorem wt_L_shaded : Cond.static yL_shaded ∈ sh_ws := sh_inw 436 (by decide +kernel) (by decide +kernel)
theorem lk_L_19 : sh_LS RL 19 mL_shaded 5 := ⟨cd_L_shaded, wm_L_19, wt_L_shaded⟩
theorem wm_L_23 : Cond.methodLink RL 23 yL_beside ∈ sh_ws := sh_inw 511 (by decide +kernel) (by decide +kernel)
theorem wt_L_beside : Cond.static yL_beside ∈ sh_ws := sh_inw 512 (by decide +kernel) (by decide +kernel)
theorem lk_L_23 : sh_LS RL 23 mL_beside 2 := ⟨cd_L_beside, wm_L_23, wt_L_beside⟩
theorem wm_L_27 : Cond.methodLink RL 27 yL_who ∈ sh_ws := sh_inw 479 (by decide +kernel) (by decide +kernel)
theorem wt_L_who : Cond.static yL_who ∈ sh_ws := sh_inw 480 (by decide +kernel) (by decide +kernel)
theorem lk_L_27 : sh_LS RL 27 mL_who 3 := ⟨cd_L_who, wm_L_27, wt_L_who⟩
theorem wm_L_31 : Cond.methodLink RL 31 yL_tagged ∈ sh_ws := sh_inw 450 (by decide +kernel) (by decide +kernel)
theorem wt_L_tagged : Cond.static yL_tagged ∈ sh_ws := sh_inw 451 (by decide +kernel) (by decide +kernel)
theorem lk_L_31 : sh_LS RL 31 mL_tagged 3 := ⟨cd_L_tagged, wm_L_31, wt_L_tagged⟩
theorem wm_L_35 : Cond.methodLink RL 35 yX6_runner ∈ sh_ws := sh_inw 403 (by decide +kernel) (by decide +kernel)
theorem wv_X6_runner : Cond.instanceMethod yX6_runner ∈ sh_ws := sh_inw 404 (by decide +kernel) (by decide +kernel)
theorem ws_X6_runner : Cond.selects RX6 yX6_runner yX6_runner ∈ sh_ws := sh_inw 405 (by decide +kernel) (by decide +kernel)
theorem lk_L_35 : sh_LV RL 35 mX6_runner 2 6 9 := ⟨cd_X6_runner, wm_L_35, wv_X6_runner, ws_X6_runner, TX6, cl_X6⟩
theorem wm_L_40 : Cond.methodLink RL 40 yX6_count ∈ sh_ws := sh_inw 415 (by decide +kernel) (by decide +kernel)
theorem wv_X6_count : Cond.instanceMethod yX6_count ∈ sh_ws := sh_inw 416 (by decide +kernel) (by decide +kernel)
theorem ws_X6_count : Cond.selects RX6 yX6_count yX6_count ∈ sh_ws := sh_inw 417 (by decide +kernel) (by decide +kernel)
theorem lk_L_40 : sh_LV RL 40 mX6_count 1 6 9 := ⟨cd_X6_count, wm_L_40, wv_X6_count, ws_X6_count, TX6, cl_X6⟩
theorem wm_L_44 : Cond.methodLink RL 44 yL_cells ∈ sh_ws := sh_inw 432 (by decide +kernel) (by decide +kernel)
theorem wt_L_cells : Cond.static yL_cells ∈ sh_ws := sh_inw 433 (by decide +kernel) (by decide +kernel)
theorem lk_L_44 : sh_LS RL 44 mL_cells 4 := ⟨cd_L_cells, wm_L_44, wt_L_cells⟩
theorem wm_L_48 : Cond.methodLink RL 48 yX6_at ∈ sh_ws := sh_inw 444 (by decide +kernel) (by decide +kernel)
theorem wv_X6_at : Cond.instanceMethod yX6_at ∈ sh_ws := sh_inw 445 (by decide +kernel) (by decide +kernel)
theorem ws_X6_at : Cond.selects RX6 yX6_at yX6_at ∈ sh_ws := sh_inw 446 (by decide +kernel) (by decide +kernel)
theorem lk_L_48 : sh_LV RL 48 mX6_at 1 6 9 := ⟨cd_X6_at, wm_L_48, wv_X6_at, ws_X6_at, TX6, cl_X6⟩
theorem wm_L_51 : Cond.methodLink RL 51 yX6_reason ∈ sh_ws := sh_inw 453 (by decide +kernel) (by decide +kernel)
theorem wv_X6_reason : Cond.instanceMethod yX6_reason ∈ sh_ws := sh_inw 454 (by decide +kernel) (by decide +kernel)
theorem ws_X6_reason : Cond.selects RX6 yX6_reason yX6_reason ∈ sh_ws := sh_inw 455 (by decide +kernel) (by decide +kernel)
theorem lk_L_51 : sh_LV RL 51 mX6_reason 1 6 9 := ⟨cd_X6_reason, wm_L_51, wv_X6_reason, ws_X6_reason, TX6, cl_X6⟩
theorem wm_L_54 : Cond.methodLink RL 54 yX6_darkness ∈ sh_ws := sh_inw 469 (by decide +kernel) (by decide +kernel)
theorem wv_X6_darkness : Cond.instanceMethod yX6_darkness ∈ sh_ws := sh_inw 470 (by decide +kernel) (by decide +kernel)
theorem ws_X6_darkness : Cond.selects RX6 yX6_darkness yX6_darkness ∈ sh_ws := sh_inw 471 (by decide +kernel) (by decide +kernel)
theorem lk_L_54 : sh_LV RL 54 mX6_darkness 1 6 9 := ⟨cd_X6_darkness, wm_L_54, wv_X6_darkness, ws_X6_darkness, TX6, cl_X6⟩
theorem wm_L_57 : Cond.methodLink RL 57 yX6_looked ∈ sh_ws := sh_inw 474 (by decide +kernel) (by decide +kernel)
theorem wv_X6_looked : Cond.instanceMethod yX6_looked ∈ sh_ws := sh_inw 475 (by decide +kernel) (by decide +kernel)
theorem ws_X6_looked : Cond.selects RX6 yX6_looked yX6_looked ∈ sh_ws := sh_inw 476 (by decide +kernel) (by decide +kernel)
theorem lk_L_57 : sh_LV RL 57 mX6_looked 1 6 9 := ⟨cd_X6_looked, wm_L_57, wv_X6_looked, ws_X6_looked, TX6, cl_X6⟩
theorem wm_L_60 : Cond.methodLink RL 60 yX6_lamp ∈ sh_ws := sh_inw 482 (by decide +kernel) (by decide +kernel)
theorem wv_X6_lamp : Cond.instanceMethod yX6_lamp ∈ sh_ws := sh_inw 483 (by decide +kernel) (by decide +kernel)
theorem ws_X6_lamp : Cond.selects RX6 yX6_lamp yX6_lamp ∈ sh_ws := sh_inw 484 (by decide +kernel) (by decide +kernel)
theorem lk_L_60 : sh_LV RL 60 mX6_lamp 2 6 9 := ⟨cd_X6_lamp, wm_L_60, wv_X6_lamp, ws_X6_lamp, TX6, cl_X6⟩
theorem wm_L_63 : Cond.methodLink RL 63 yX6_shadow ∈ sh_ws := sh_inw 495 (by decide +kernel) (by decide +kernel)
theorem wv_X6_shadow : Cond.instanceMethod yX6_shadow ∈ sh_ws := sh_inw 496 (by decide +kernel) (by decide +kernel)
theorem ws_X6_shadow : Cond.selects RX6 yX6_shadow yX6_shadow ∈ sh_ws := sh_inw 497 (by decide +kernel) (by decide +kernel)
theorem lk_L_63 : sh_LV RL 63 mX6_shadow 3 6 9 := ⟨cd_X6_shadow, wm_L_63, wv_X6_shadow, ws_X6_shadow, TX6, cl_X6⟩
theorem wm_L_66 : Cond.methodLink RL 66 yX6_stepsTo ∈ sh_ws := sh_inw 507 (by decide +kernel) (by decide +kernel)
theorem lk_L_66 : sh_LV RL 66 mX6_stepsTo 1 6 9 := ⟨cd_X6_stepsTo, wm_L_66, wv_X6_stepsTo, ws_X6_stepsTo, TX6, cl_X6⟩
theorem wm_L_69 : Cond.methodLink RL 69 yL_steps ∈ sh_ws := sh_inw 508 (by decide +kernel) (by decide +kernel)
theorem wt_L_steps : Cond.static yL_steps ∈ sh_ws := sh_inw 509 (by decide +kernel) (by decide +kernel)
theorem lk_L_69 : sh_LS RL 69 mL_steps 4 := ⟨cd_L_steps, wm_L_69, wt_L_steps⟩
theorem wm_L_72 : Cond.methodLink RL 72 yX6_safest ∈ sh_ws := sh_inw 242 (by decide +kernel) (by decide +kernel)
theorem wv_X6_safest : Cond.instanceMethod yX6_safest ∈ sh_ws := sh_inw 243 (by decide +kernel) (by decide +kernel)
theorem ws_X6_safest : Cond.selects RX6 yX6_safest yX6_safest ∈ sh_ws := sh_inw 244 (by decide +kernel) (by decide +kernel)
theorem lk_L_72 : sh_LV RL 72 mX6_safest 0 6 9 := ⟨cd_X6_safest, wm_L_72, wv_X6_safest, ws_X6_safest, TX6, cl_X6⟩
theorem wm_L_76 : Cond.methodLink RL 76 yL_copy ∈ sh_ws := sh_inw 517 (by decide +kernel) (by decide +kernel)
theorem wt_L_copy : Cond.static yL_copy ∈ sh_ws := sh_inw 518 (by decide +kernel) (by decide +kernel)
theorem lk_L_76 : sh_LS RL 76 mL_copy 2 := ⟨cd_L_copy, wm_L_76, wt_L_copy⟩
theorem wm_L_80 : Cond.methodLink RL 80 yL_turns ∈ sh_ws := sh_inw 520 (by decide +kernel) (by decide +kernel)
theorem wt_L_turns : Cond.static yL_turns ∈ sh_ws := sh_inw 521 (by decide +kernel) (by decide +kernel)
theorem lk_L_80 : sh_LS RL 80 mL_turns 3 := ⟨cd_L_turns, wm_L_80, wt_L_turns⟩
theorem wm_L_84 : Cond.methodLink RL 84 yX6_ifTurns ∈ sh_ws := sh_inw 318 (by decide +kernel) (by decide +kernel)
theorem wv_X6_ifTurns : Cond.instanceMethod yX6_ifTurns ∈ sh_ws := sh_inw 319 (by decide +kernel) (by decide +kernel)
theorem ws_X6_ifTurns : Cond.selects RX6 yX6_ifTurns yX6_ifTurns ∈ sh_ws := sh_inw 320 (by decide +kernel) (by decide +kernel)
theorem lk_L_84 : sh_LV RL 84 mX6_ifTurns 2 6 9 := ⟨cd_X6_ifTurns, wm_L_84, wv_X6_ifTurns, ws_X6_ifTurns, TX6, cl_X6⟩
theorem wm_L_87 : Cond.methodLink RL 87 yL_low ∈ sh_ws := sh_inw 396 (by decide +kernel) (by decide +kernel)
theorem wt_L_low : Cond.static yL_low ∈ sh_ws := sh_inw 397 (by decide +kernel) (by decide +kernel)
theorem lk_L_87 : sh_LS RL 87 mL_low 2 := ⟨cd_L_low, wm_L_87, wt_L_low⟩
theorem wm_L_90 : Cond.methodLink RL 90 yX6_come ∈ sh_ws := sh_inw 529 (by decide +kernel) (by decide +kernel)
theorem wv_X6_come : Cond.instanceMethod yX6_come ∈ sh_ws := sh_inw 530 (by decide +kernel) (by decide +kernel)
theorem ws_X6_come : Cond.selects RX6 yX6_come yX6_come ∈ sh_ws := sh_inw 531 (by decide +kernel) (by decide +kernel)
theorem lk_L_90 : sh_LV RL 90 mX6_come 2 6 9 := ⟨cd_X6_come, wm_L_90, wv_X6_come, ws_X6_come, TX6, cl_X6⟩
theorem wm_L_93 : Cond.methodLink RL 93 yL_comes ∈ sh_ws := sh_inw 526 (by decide +kernel) (by decide +kernel)
theorem wt_L_comes : Cond.static yL_comes ∈ sh_ws := sh_inw 527 (by decide +kernel) (by decide +kernel)
theorem lk_L_93 : sh_LS RL 93 mL_comes 4 := ⟨cd_L_comes, wm_L_93, wt_L_comes⟩
theorem wm_L_97 : Cond.methodLink RL 97 yX6_head ∈ sh_ws := sh_inw 551 (by decide +kernel) (by decide +kernel)
theorem wv_X6_head : Cond.instanceMethod yX6_head ∈ sh_ws := sh_inw 552 (by decide +kernel) (by decide +kernel)
theorem ws_X6_head : Cond.selects RX6 yX6_head yX6_head ∈ sh_ws := sh_inw 553 (by decide +kernel) (by decide +kernel)
theorem lk_L_97 : sh_LV RL 97 mX6_head 2 6 9 := ⟨cd_X6_head, wm_L_97, wv_X6_head, ws_X6_head, TX6, cl_X6⟩
theorem wm_L_100 : Cond.methodLink RL 100 yX6_light ∈ sh_ws := sh_inw 562 (by decide +kernel) (by decide +kernel)
theorem wv_X6_light : Cond.instanceMethod yX6_light ∈ sh_ws := sh_inw 563 (by decide +kernel) (by decide +kernel)
theorem ws_X6_light : Cond.selects RX6 yX6_light yX6_light ∈ sh_ws := sh_inw 564 (by decide +kernel) (by decide +kernel)
theorem lk_L_100 : sh_LV RL 100 mX6_light 2 6 9 := ⟨cd_X6_light, wm_L_100, wv_X6_light, ws_X6_light, TX6, cl_X6⟩
theorem wm_L_104 : Cond.methodLink RL 104 yX6_setLamp ∈ sh_ws := sh_inw 572 (by decide +kernel) (by decide +kernel)
theorem wv_X6_setLamp : Cond.instanceMethod yX6_setLamp ∈ sh_ws := sh_inw 573 (by decide +kernel) (by decide +kernel)
theorem ws_X6_setLamp : Cond.selects RX6 yX6_setLamp yX6_setLamp ∈ sh_ws := sh_inw 574 (by decide +kernel) (by decide +kernel)
theorem lk_L_104 : sh_LV RL 104 mX6_setLamp 3 6 9 := ⟨cd_X6_setLamp, wm_L_104, wv_X6_setLamp, ws_X6_setLamp, TX6, cl_X6⟩
theorem wm_L_107 : Cond.methodLink RL 107 yX6_set ∈ sh_ws := sh_inw 581 (by decide +kernel) (by decide +kernel)
theorem wv_X6_set : Cond.instanceMethod yX6_set ∈ sh_ws := sh_inw 582 (by decide +kernel) (by decide +kernel)
theorem ws_X6_set : Cond.selects RX6 yX6_set yX6_set ∈ sh_ws := sh_inw 583 (by decide +kernel) (by decide +kernel)
theorem lk_L_107 : sh_LV RL 107 mX6_set 2 6 9 := ⟨cd_X6_set, wm_L_107, wv_X6_set, ws_X6_set, TX6, cl_X6⟩
theorem wm_L_110 : Cond.methodLink RL 110 yX6_pass ∈ sh_ws := sh_inw 586 (by decide +kernel) (by decide +kernel)
theorem wv_X6_pass : Cond.instanceMethod yX6_pass ∈ sh_ws := sh_inw 587 (by decide +kernel) (by decide +kernel)
theorem ws_X6_pass : Cond.selects RX6 yX6_pass yX6_pass ∈ sh_ws := sh_inw 588 (by decide +kernel) (by decide +kernel)
theorem lk_L_110 : sh_LV RL 110 mX6_pass 1 6 9 := ⟨cd_X6_pass, wm_L_110, wv_X6_pass, ws_X6_pass, TX6, cl_X6⟩
theorem wk_L_36 : Cond.classLink RL 36 RX6 ∈ sh_ws := sh_inw 18 (by decide +kernel) (by decide +kernel)
theorem wn_X6 : Cond.instantiable RX6 9 ∈ sh_ws := sh_inw 19 (by decide +kernel) (by decide +kernel)
theorem wm_L_113 : Cond.methodLink RL 113 yX6_init ∈ sh_ws := sh_inw 20 (by decide +kernel) (by decide +kernel)
theorem wv_X6_init : Cond.instanceMethod yX6_init ∈ sh_ws := sh_inw 21 (by decide +kernel) (by decide +kernel)
theorem lk_L_113 : sh_LI RL 113 mX6_init 0 := ⟨cd_X6_init, wm_L_113, wv_X6_init, rfl, rfl⟩
theorem wm_L_114 : Cond.methodLink RL 114 yL_areRunners ∈ sh_ws := sh_inw 400 (by decide +kernel) (by decide +kernel)
theorem wt_L_areRunners : Cond.static yL_areRunners ∈ sh_ws := sh_inw 401 (by decide +kernel) (by decide +kernel)
theorem lk_L_114 : sh_LS RL 114 mL_areRunners 4 := ⟨cd_L_areRunners, wm_L_114, wt_L_areRunners⟩
theorem wm_L_118 : Cond.methodLink RL 118 yL_areShadows ∈ sh_ws := sh_inw 466 (by decide +kernel) (by decide +kernel)
theorem wt_L_areShadows : Cond.static yL_areShadows ∈ sh_ws := sh_inw 467 (by decide +kernel) (by decide +kernel)
theorem lk_L_118 : sh_LS RL 118 mL_areShadows 4 := ⟨cd_L_areShadows, wm_L_118, wt_L_areShadows⟩
theorem wm_L_121 : Cond.methodLink RL 121 yL_cell ∈ sh_ws := sh_inw 392 (by decide +kernel) (by decide +kernel)
theorem wt_L_cell : Cond.static yL_cell ∈ sh_ws := sh_inw 393 (by decide +kernel) (by decide +kernel)
theorem lk_L_121 : sh_LS RL 121 mL_cell 2 := ⟨cd_L_cell, wm_L_121, wt_L_cell⟩
theorem wm_L_125 : Cond.methodLink RL 125 yL_acts ∈ sh_ws := sh_inw 523 (by decide +kernel) (by decide +kernel)
theorem wt_L_acts : Cond.static yL_acts ∈ sh_ws := sh_inw 524 (by decide +kernel) (by decide +kernel)
theorem lk_L_125 : sh_LS RL 125 mL_acts 6 := ⟨cd_L_acts, wm_L_125, wt_L_acts⟩
theorem wm_L_129 : Cond.methodLink RL 129 yL_isShadow ∈ sh_ws := sh_inw 492 (by decide +kernel) (by decide +kernel)
theorem wt_L_isShadow : Cond.static yL_isShadow ∈ sh_ws := sh_inw 493 (by decide +kernel) (by decide +kernel)
theorem lk_L_129 : sh_LS RL 129 mL_isShadow 6 := ⟨cd_L_isShadow, wm_L_129, wt_L_isShadow⟩
theorem wm_L_132 : Cond.methodLink RL 132 yL_areSteps ∈ sh_ws := sh_inw 504 (by decide +kernel) (by decide +kernel)
theorem wt_L_areSteps : Cond.static yL_areSteps ∈ sh_ws := sh_inw 505 (by decide +kernel) (by decide +kernel)
theorem lk_L_132 : sh_LS RL 132 mL_areSteps 4 := ⟨cd_L_areSteps, wm_L_132, wt_L_areSteps⟩
theorem wm_L_135 : Cond.methodLink RL 135 yL_would ∈ sh_ws := sh_inw 514 (by decide +kernel) (by decide +kernel)
theorem wt_L_would : Cond.static yL_would ∈ sh_ws := sh_inw 515 (by decide +kernel) (by decide +kernel)
theorem lk_L_135 : sh_LS RL 135 mL_would 5 := ⟨cd_L_would, wm_L_135, wt_L_would⟩
end
section
/-! ===== 08: where the objects are; runs and calls of the made system ===== -/
def sh_PT : sh_Ptr := (sh_uP (sh_uP (sh_uP (sh_uP (sh_uP (sh_uP (sh_uP (sh_uP (sh_uP (sh_uP (sh_uP (sh_uP (sh_uP (sh_uP (sh_uP (sh_uP (sh_uP (sh_uP (sh_uP (sh_uP (sh_uP (sh_uP (sh_uP (sh_uP (sh_uP (sh_uP (sh_uP (sh_uP (sh_uP (sh_uP (sh_uP (sh_uP (sh_uP (sh_uP (sh_uP (sh_uP (sh_uP (sh_uP (sh_uP (sh_uP (sh_uP (sh_uP (sh_uP (sh_uP (sh_uP (sh_uP (sh_uP (sh_uP (sh_uP (sh_uP (sh_uP (sh_uP (sh_uP (sh_uP (sh_uP (sh_uP (sh_uP (sh_uP (sh_uP (sh_uP (sh_uP (sh_uP (sh_uP (sh_uP (sh_uP (sh_uP (sh_uP (sh_uP (sh_uP (sh_uP (sh_uP (sh_uP (sh_uP (sh_uP (sh_uP (sh_uP (sh_uP (sh_uP (sh_uP (sh_uP (sh_uP (sh_uP (sh_uP (sh_uP (sh_uP (sh_uP (sh_uP (sh_uP (sh_uP (sh_uP (sh_uP (sh_uP (sh_uP (sh_uP (sh_uP (sh_uP (sh_uP (sh_uP (sh_uP (sh_uP (sh_uP (sh_uP (sh_uP (sh_uP (sh_uP (sh_uP (sh_uP (sh_uP (sh_uP (sh_uP (sh_uP (sh_uP (sh_uP (sh_uP (sh_uP (sh_uP (sh_uP (fun _ _ => none) 3 0 4) 3 1 5) 3 2 6) 3 3 7) 3 4 8) 3 5 9) 3 6 10) 2 0 3) 11 0 12) 11 1 13) 11 2 14) 11 3 15) 2 1 11) 2 2 16) 1 0 2) 18 0 19) 18 1 20) 18 2 21) 18 3 22) 18 4 23) 18 5 24) 18 6 25) 17 0 18) 26 0 27) 26 1 28) 26 2 29) 26 3 30) 17 1 26) 17 2 31) 1 1 17) 33 0 34) 33 1 35) 33 2 36) 33 3 37) 33 4 38) 33 5 39) 33 6 40) 32 0 33) 41 0 42) 41 1 43) 41 2 44) 41 3 45) 32 1 41) 32 2 46) 1 2 32) 47 0 48) 50 0 51) 50 1 52) 50 2 53) 50 3 54) 50 4 55) 50 5 56) 50 6 57) 49 0 50) 58 0 59) 58 1 60) 58 2 61) 58 3 62) 49 1 58) 49 2 63) 48 0 49) 65 0 66) 65 1 67) 65 2 68) 65 3 69) 65 4 70) 65 5 71) 65 6 72) 64 0 65) 73 0 74) 73 1 75) 73 2 76) 73 3 77) 64 1 73) 64 2 78) 48 1 64) 80 0 81) 80 1 82) 80 2 83) 80 3 84) 80 4 85) 80 5 86) 80 6 87) 79 0 80) 88 0 89) 88 1 90) 88 2 91) 88 3 92) 79 1 88) 79 2 93) 48 2 79) 95 0 96) 95 1 97) 95 2 98) 95 3 99) 95 4 100) 95 5 101) 95 6 102) 94 0 95) 103 0 104) 103 1 105) 103 2 106) 103 3 107) 94 1 103) 94 2 108) 48 3 94) 1 3 47) 109 0 110) 109 3 111) 109 4 112) 109 5 113) 1 4 109) 114 0 115) 114 1 116) 114 2 117) 114 3 118) 1 5 114)
theorem uP_lt {P : sh_Ptr} {a b q n : Nat} (hq : q < n) (h : ∀ o f x, P o f = some x → x < n) : ∀ o f x, sh_uP P a b q o f = some x → x < n := fun o f x e => by
  simp only [sh_uP] at e
  split at e
  · cases e
    exact hq
  · exact h o f x e
theorem sh_PT_lt : ∀ o f x, sh_PT o f = some x → x < 119 := (uP_lt (by decide) (uP_lt (by decide) (uP_lt (by decide) (uP_lt (by decide) (uP_lt (by decide) (uP_lt (by decide) (uP_lt (by decide) (uP_lt (by decide) (uP_lt (by decide) (uP_lt (by decide) (uP_lt (by decide) (uP_lt (by decide) (uP_lt (by decide) (uP_lt (by decide) (uP_lt (by decide) (uP_lt (by decide) (uP_lt (by decide) (uP_lt (by decide) (uP_lt (by decide) (uP_lt (by decide) (uP_lt (by decide) (uP_lt (by decide) (uP_lt (by decide) (uP_lt (by decide) (uP_lt (by decide) (uP_lt (by decide) (uP_lt (by decide) (uP_lt (by decide) (uP_lt (by decide) (uP_lt (by decide) (uP_lt (by decide) (uP_lt (by decide) (uP_lt (by decide) (uP_lt (by decide) (uP_lt (by decide) (uP_lt (by decide) (uP_lt (by decide) (uP_lt (by decide) (uP_lt (by decide) (uP_lt (by decide) (uP_lt (by decide) (uP_lt (by decide) (uP_lt (by decide) (uP_lt (by decide) (uP_lt (by decide) (uP_lt (by decide) (uP_lt (by decide) (uP_lt (by decide) (uP_lt (by decide) (uP_lt (by decide) (uP_lt (by decide) (uP_lt (by decide) (uP_lt (by decide) (uP_lt (by decide) (uP_lt (by decide) (uP_lt (by decide) (uP_lt (by decide) (uP_lt (by decide) (uP_lt (by decide) (uP_lt (by decide) (uP_lt (by decide) (uP_lt (by decide) (uP_lt (by decide) (uP_lt (by decide) (uP_lt (by decide) (uP_lt (by decide) (uP_lt (by decide) (uP_lt (by decide) (uP_lt (by decide) (uP_lt (by decide) (uP_lt (by decide) (uP_lt (by decide) (uP_lt (by decide) (uP_lt (by decide) (uP_lt (by decide) (uP_lt (by decide) (uP_lt (by decide) (uP_lt (by decide) (uP_lt (by decide) (uP_lt (by decide) (uP_lt (by decide) (uP_lt (by decide) (uP_lt (by decide) (uP_lt (by decide) (uP_lt (by decide) (uP_lt (by decide) (uP_lt (by decide) (uP_lt (by decide) (uP_lt (by decide) (uP_lt (by decide) (uP_lt (by decide) (uP_lt (by decide) (uP_lt (by decide) (uP_lt (by decide) (uP_lt (by decide) (uP_lt (by decide) (uP_lt (by decide) (uP_lt (by decide) (uP_lt (by decide) (uP_lt (by decide) (uP_lt (by decide) (uP_lt (by decide) (uP_lt (by decide) (uP_lt (by decide) (uP_lt (by decide) (uP_lt (by decide) (uP_lt (by decide) (uP_lt (by decide) (uP_lt (by decide) (uP_lt (by decide) (uP_lt (by decide) (uP_lt (by decide) (uP_lt (by decide) (uP_lt (by decide) (uP_lt (by decide) (uP_lt (by decide) (uP_lt (by decide) (fun _ _ _ e => by cases e))))))))))))))))))))))))))))))))))))))))))))))))))))))))))))))))))))))))))))))))))))))))))))))))))))))))))))))))))))))
def sh_isP (b : Nat) : Prop := b = 2 ∨ b = 17 ∨ b = 32 ∨ b = 49 ∨ b = 64 ∨ b = 79 ∨ b = 94
def oP : Nat := 2
theorem isP_oP : sh_isP oP := by simp [sh_isP, oP]
def oT : Nat := 17
theorem isP_oT : sh_isP oT := by simp [sh_isP, oT]
def oS : Nat := 32
theorem isP_oS : sh_isP oS := by simp [sh_isP, oS]
theorem sh_isI {o ci k : Nat} (h : decide (o < 119) && decide (sh_KD o = (ci, k)) && decide (0 < o) = true) : sh_is 119 o ci k := by
  simp only [Bool.and_eq_true, decide_eq_true_eq] at h
  exact ⟨h.1.1, h.1.2, h.2⟩
theorem is_P {b : Nat} (h : sh_isP b) : sh_is 119 b 4 5 := by
  rcases h with rfl | rfl | rfl | rfl | rfl | rfl | rfl <;> exact sh_isI (by decide +kernel)
theorem is_R {b : Nat} (h : sh_isP b) : sh_is 119 (b + 1) 5 12 := by
  rcases h with rfl | rfl | rfl | rfl | rfl | rfl | rfl <;> exact sh_isI (by decide +kernel)
theorem is_P2 {b : Nat} (h : sh_isP b) : sh_is 119 (b + 2) 8 6 := by
  rcases h with rfl | rfl | rfl | rfl | rfl | rfl | rfl <;> exact sh_isI (by decide +kernel)
theorem is_P3 {b : Nat} (h : sh_isP b) : sh_is 119 (b + 3) 8 6 := by
  rcases h with rfl | rfl | rfl | rfl | rfl | rfl | rfl <;> exact sh_isI (by decide +kernel)
theorem is_P4 {b : Nat} (h : sh_isP b) : sh_is 119 (b + 4) 8 6 := by
  rcases h with rfl | rfl | rfl | rfl | rfl | rfl | rfl <;> exact sh_isI (by decide +kernel)
theorem is_P5 {b : Nat} (h : sh_isP b) : sh_is 119 (b + 5) 8 6 := by
  rcases h with rfl | rfl | rfl | rfl | rfl | rfl | rfl <;> exact sh_isI (by decide +kernel)
theorem is_P6 {b : Nat} (h : sh_isP b) : sh_is 119 (b + 6) 8 6 := by
  rcases h with rfl | rfl | rfl | rfl | rfl | rfl | rfl <;> exact sh_isI (by decide +kernel)
theorem is_P7 {b : Nat} (h : sh_isP b) : sh_is 119 (b + 7) 8 6 := by
  rcases h with rfl | rfl | rfl | rfl | rfl | rfl | rfl <;> exact sh_isI (by decide +kernel)
theorem is_P8 {b : Nat} (h : sh_isP b) : sh_is 119 (b + 8) 8 6 := by
  rcases h with rfl | rfl | rfl | rfl | rfl | rfl | rfl <;> exact sh_isI (by decide +kernel)
theorem is_L {b : Nat} (h : sh_isP b) : sh_is 119 (b + 9) 3 4 := by
  rcases h with rfl | rfl | rfl | rfl | rfl | rfl | rfl <;> exact sh_isI (by decide +kernel)
theorem is_P10 {b : Nat} (h : sh_isP b) : sh_is 119 (b + 10) 8 3 := by
  rcases h with rfl | rfl | rfl | rfl | rfl | rfl | rfl <;> exact sh_isI (by decide +kernel)
theorem is_P11 {b : Nat} (h : sh_isP b) : sh_is 119 (b + 11) 8 3 := by
  rcases h with rfl | rfl | rfl | rfl | rfl | rfl | rfl <;> exact sh_isI (by decide +kernel)
theorem is_P12 {b : Nat} (h : sh_isP b) : sh_is 119 (b + 12) 8 3 := by
  rcases h with rfl | rfl | rfl | rfl | rfl | rfl | rfl <;> exact sh_isI (by decide +kernel)
theorem is_P13 {b : Nat} (h : sh_isP b) : sh_is 119 (b + 13) 8 3 := by
  rcases h with rfl | rfl | rfl | rfl | rfl | rfl | rfl <;> exact sh_isI (by decide +kernel)
theorem is_P14 {b : Nat} (h : sh_isP b) : sh_is 119 (b + 14) 8 2 := by
  rcases h with rfl | rfl | rfl | rfl | rfl | rfl | rfl <;> exact sh_isI (by decide +kernel)
theorem pt_P0 {b : Nat} (h : sh_isP b) : sh_PT b 0 = some (b + 1) := by
  rcases h with rfl | rfl | rfl | rfl | rfl | rfl | rfl <;> decide +kernel
theorem pt_P1 {b : Nat} (h : sh_isP b) : sh_PT b 1 = some (b + 9) := by
  rcases h with rfl | rfl | rfl | rfl | rfl | rfl | rfl <;> decide +kernel
theorem pt_P2 {b : Nat} (h : sh_isP b) : sh_PT b 2 = some (b + 14) := by
  rcases h with rfl | rfl | rfl | rfl | rfl | rfl | rfl <;> decide +kernel
theorem pt_R0 {b : Nat} (h : sh_isP b) : sh_PT (b + 1) 0 = some (b + 2) := by
  rcases h with rfl | rfl | rfl | rfl | rfl | rfl | rfl <;> decide +kernel
theorem pt_R1 {b : Nat} (h : sh_isP b) : sh_PT (b + 1) 1 = some (b + 3) := by
  rcases h with rfl | rfl | rfl | rfl | rfl | rfl | rfl <;> decide +kernel
theorem pt_R2 {b : Nat} (h : sh_isP b) : sh_PT (b + 1) 2 = some (b + 4) := by
  rcases h with rfl | rfl | rfl | rfl | rfl | rfl | rfl <;> decide +kernel
theorem pt_R3 {b : Nat} (h : sh_isP b) : sh_PT (b + 1) 3 = some (b + 5) := by
  rcases h with rfl | rfl | rfl | rfl | rfl | rfl | rfl <;> decide +kernel
theorem pt_R4 {b : Nat} (h : sh_isP b) : sh_PT (b + 1) 4 = some (b + 6) := by
  rcases h with rfl | rfl | rfl | rfl | rfl | rfl | rfl <;> decide +kernel
theorem pt_R5 {b : Nat} (h : sh_isP b) : sh_PT (b + 1) 5 = some (b + 7) := by
  rcases h with rfl | rfl | rfl | rfl | rfl | rfl | rfl <;> decide +kernel
theorem pt_R6 {b : Nat} (h : sh_isP b) : sh_PT (b + 1) 6 = some (b + 8) := by
  rcases h with rfl | rfl | rfl | rfl | rfl | rfl | rfl <;> decide +kernel
theorem pt_L0 {b : Nat} (h : sh_isP b) : sh_PT (b + 9) 0 = some (b + 10) := by
  rcases h with rfl | rfl | rfl | rfl | rfl | rfl | rfl <;> decide +kernel
theorem pt_L1 {b : Nat} (h : sh_isP b) : sh_PT (b + 9) 1 = some (b + 11) := by
  rcases h with rfl | rfl | rfl | rfl | rfl | rfl | rfl <;> decide +kernel
theorem pt_L2 {b : Nat} (h : sh_isP b) : sh_PT (b + 9) 2 = some (b + 12) := by
  rcases h with rfl | rfl | rfl | rfl | rfl | rfl | rfl <;> decide +kernel
theorem pt_L3 {b : Nat} (h : sh_isP b) : sh_PT (b + 9) 3 = some (b + 13) := by
  rcases h with rfl | rfl | rfl | rfl | rfl | rfl | rfl <;> decide +kernel
theorem is_1 : sh_is 119 1 6 9 := sh_isI (by decide +kernel)
theorem is_47 : sh_is 119 47 2 3 := sh_isI (by decide +kernel)
theorem is_48 : sh_is 119 48 11 4 := sh_isI (by decide +kernel)
theorem is_109 : sh_is 119 109 1 7 := sh_isI (by decide +kernel)
theorem is_110 : sh_is 119 110 10 60 := sh_isI (by decide +kernel)
theorem is_111 : sh_is 119 111 8 20 := sh_isI (by decide +kernel)
theorem is_112 : sh_is 119 112 8 20 := sh_isI (by decide +kernel)
theorem is_113 : sh_is 119 113 8 20 := sh_isI (by decide +kernel)
theorem is_114 : sh_is 119 114 0 5 := sh_isI (by decide +kernel)
theorem is_115 : sh_is 119 115 9 100 := sh_isI (by decide +kernel)
theorem is_116 : sh_is 119 116 9 100 := sh_isI (by decide +kernel)
theorem is_117 : sh_is 119 117 8 100 := sh_isI (by decide +kernel)
theorem is_118 : sh_is 119 118 8 100 := sh_isI (by decide +kernel)
theorem pt_1_0 : sh_PT 1 0 = some oP := by decide +kernel
theorem pt_1_1 : sh_PT 1 1 = some oT := by decide +kernel
theorem pt_1_2 : sh_PT 1 2 = some oS := by decide +kernel
theorem pt_47_0 : sh_PT 47 0 = some 48 := by decide +kernel
theorem pt_48_0 : sh_PT 48 0 = some 49 := by decide +kernel
theorem pt_48_1 : sh_PT 48 1 = some 64 := by decide +kernel
theorem pt_48_2 : sh_PT 48 2 = some 79 := by decide +kernel
theorem pt_48_3 : sh_PT 48 3 = some 94 := by decide +kernel
theorem pt_1_3 : sh_PT 1 3 = some 47 := by decide +kernel
theorem pt_109_0 : sh_PT 109 0 = some 110 := by decide +kernel
theorem pt_109_3 : sh_PT 109 3 = some 111 := by decide +kernel
theorem pt_109_4 : sh_PT 109 4 = some 112 := by decide +kernel
theorem pt_109_5 : sh_PT 109 5 = some 113 := by decide +kernel
theorem pt_1_4 : sh_PT 1 4 = some 109 := by decide +kernel
theorem pt_114_0 : sh_PT 114 0 = some 115 := by decide +kernel
theorem pt_114_1 : sh_PT 114 1 = some 116 := by decide +kernel
theorem pt_114_2 : sh_PT 114 2 = some 117 := by decide +kernel
theorem pt_114_3 : sh_PT 114 3 = some 118 := by decide +kernel
theorem pt_1_5 : sh_PT 1 5 = some 114 := by decide +kernel
theorem isP_2 : sh_isP 2 := by simp [sh_isP]
theorem isP_17 : sh_isP 17 := by simp [sh_isP]
theorem isP_32 : sh_isP 32 := by simp [sh_isP]
theorem isP_49 : sh_isP 49 := by simp [sh_isP]
theorem isP_64 : sh_isP 64 := by simp [sh_isP]
theorem isP_79 : sh_isP 79 := by simp [sh_isP]
theorem isP_94 : sh_isP 94 := by simp [sh_isP]
abbrev sh_S (I : sh_Mem) : sh_St := (119, I, sh_PT)
def qi (Q : Int → sh_Mem → Prop) (r : Option Int) (σ : sh_St) : Prop := ∃ I v, σ = sh_S I ∧ r = some v ∧ Q v I
def qv (Q : sh_Mem → Prop) (r : Option Int) (σ : sh_St) : Prop := ∃ I, σ = sh_S I ∧ r = none ∧ Q I
/-- from this place of y on, over the memory I -/
abbrev kk (y : sh_M) (pc : Nat) (ls : List (Option sh_V)) (st : List sh_V) (I : sh_Mem) (Q : Option Int → sh_St → Prop) : Prop := sh_O y pc ls st (0, 0) (sh_S I) Q
/-- a call of y over the memory I -/
abbrev cc (y : sh_M) (as : List sh_V) (I : sh_Mem) (Q : Option Int → sh_St → Prop) : Prop := sh_C y as (sh_S I) Q
theorem qi_mono {Q Q' : Int → sh_Mem → Prop} (h : ∀ v I, Q v I → Q' v I) (r : Option Int) (σ : sh_St) (q : qi Q r σ) : qi Q' r σ := by
  obtain ⟨I, v, h1, h2, h3⟩ := q
  exact ⟨I, v, h1, h2, h v I h3⟩
theorem qv_mono {Q Q' : sh_Mem → Prop} (h : ∀ I, Q I → Q' I) (r : Option Int) (σ : sh_St) (q : qv Q r σ) : qv Q' r σ := by
  obtain ⟨I, h1, h2, h3⟩ := q
  exact ⟨I, h1, h2, h I h3⟩
theorem ci_mono {y : sh_M} {as : List sh_V} {I : sh_Mem} {Q Q' : Int → sh_Mem → Prop} (c : cc y as I (qi Q)) (h : ∀ v I1, Q v I1 → Q' v I1) : cc y as I (qi Q') := c.mono (qi_mono h)
theorem cv_mono {y : sh_M} {as : List sh_V} {I : sh_Mem} {Q Q' : sh_Mem → Prop} (c : cc y as I (qv Q)) (h : ∀ I1, Q I1 → Q' I1) : cc y as I (qv Q') := c.mono (qv_mono h)
theorem sub_nil {b : List (Option sh_V)} : ∀ (i : Nat) (v : sh_V), ([] : List (Option sh_V))[i]? = some (some v) → b[i]? = some (some v) := fun i v h => by simp at h
theorem sub_none {w : Option sh_V} {a b : List (Option sh_V)} (h : ∀ (i : Nat) (v : sh_V), a[i]? = some (some v) → b[i]? = some (some v)) : ∀ (i : Nat) (v : sh_V), (none :: a)[i]? = some (some v) → (w :: b)[i]? = some (some v) := fun i v q => by
  cases i with
  | zero => simp at q
  | succ i => exact h i v q
theorem sub_some {w : sh_V} {a b : List (Option sh_V)} (h : ∀ (i : Nat) (v : sh_V), a[i]? = some (some v) → b[i]? = some (some v)) : ∀ (i : Nat) (v : sh_V), (some w :: a)[i]? = some (some v) → (some w :: b)[i]? = some (some v) := fun i v q => by
  cases i with
  | zero => exact q
  | succ i => exact h i v q
def sh_01 (v : Int) : Prop := v = 0 ∨ v = 1
theorem nar01 {v : Int} (h : sh_01 v) : narrow .boolean (.int (Int32.ofInt v)) = .int (Int32.ofInt v) := by rcases h with rfl | rfl <;> rfl
theorem bd_lit {a : Int} (h : decide (-2147483648 ≤ a) && decide (a < 2147483648) = true) : sh_Bd a := by
  simp only [Bool.and_eq_true, decide_eq_true_eq] at h
  exact h
end
section
/-! ===== 09: rules over the made system ===== -/
theorem k_istore_n {y : sh_M} {pc : Nat} {ls : List (Option sh_V)} (ls' : List (Option sh_V)) {st : List sh_V} {cn : Nat × Nat} {σ : sh_St} {Q : Option Int → sh_St → Prop} {k : Fin 4} {i : Nat} {x : Int} (hd : decode y.2.1 pc = .ok (.istore_n k, 1)) (hi : (k : Nat) = i) (hs : ls.set i (some (.inl x)) = ls') (hn : i < y.2.2.1) (h : sh_O y (pc + 1) ls' st cn σ Q) : sh_O y pc ls (.inl x :: st) cn σ Q := sh_istore_n hd hi hn (hs ▸ h)
theorem k_astore_n {y : sh_M} {pc : Nat} {ls : List (Option sh_V)} (ls' : List (Option sh_V)) {st : List sh_V} {cn : Nat × Nat} {σ : sh_St} {Q : Option Int → sh_St → Prop} {k : Fin 4} {i : Nat} {x : Nat} (hd : decode y.2.1 pc = .ok (.astore_n k, 1)) (hi : (k : Nat) = i) (hs : ls.set i (some (.inr x)) = ls') (hn : i < y.2.2.1) (h : sh_O y (pc + 1) ls' st cn σ Q) : sh_O y pc ls (.inr x :: st) cn σ Q := sh_astore_n hd hi hn (hs ▸ h)
theorem k_istore {y : sh_M} {pc : Nat} {ls : List (Option sh_V)} (ls' : List (Option sh_V)) {st : List sh_V} {cn : Nat × Nat} {σ : sh_St} {Q : Option Int → sh_St → Prop} {i : Nat} {x : Int} (hd : decode y.2.1 pc = .ok (.istore i, 2)) (hs : ls.set i (some (.inl x)) = ls') (hn : i < y.2.2.1) (h : sh_O y (pc + 2) ls' st cn σ Q) : sh_O y pc ls (.inl x :: st) cn σ Q := sh_istore hd hn (hs ▸ h)
theorem k_iinc {y : sh_M} {pc : Nat} {ls : List (Option sh_V)} (ls' : List (Option sh_V)) {st : List sh_V} {cn : Nat × Nat} {σ : sh_St} {Q : Option Int → sh_St → Prop} {i : Nat} {n x : Int} (hd : decode y.2.1 pc = .ok (.iinc i n, 3)) (hl : ls[i]? = some (some (.inl x))) (hs : ls.set i (some (.inl (x + n))) = ls') (hn : i < y.2.2.1) (h : sh_O y (pc + 3) ls' st cn σ Q) : sh_O y pc ls st cn σ Q := sh_iinc hd hl hn (hs ▸ h)
theorem k_iret {y : sh_M} {pc : Nat} {ls : List (Option sh_V)} {I : sh_Mem} {Q : Int → sh_Mem → Prop} {v : Int} (hd : decode y.2.1 pc = .ok (.ireturn, 1)) (ht : y.2.2.2.1 = some .int) (h : Q v I) : kk y pc ls [.inl v] I (qi Q) := sh_iret (st := []) hd ht rfl ⟨I, v, rfl, rfl, h⟩
theorem k_zret {y : sh_M} {pc : Nat} {ls : List (Option sh_V)} {I : sh_Mem} {Q : Int → sh_Mem → Prop} {v : Int} (hd : decode y.2.1 pc = .ok (.ireturn, 1)) (ht : y.2.2.2.1 = some .boolean) (hv : sh_01 v) (h : Q v I) : kk y pc ls [.inl v] I (qi Q) := sh_iret (st := []) hd ht (nar01 hv) ⟨I, v, rfl, rfl, h⟩
theorem k_vret {y : sh_M} {pc : Nat} {ls : List (Option sh_V)} {I : sh_Mem} {Q : sh_Mem → Prop} (hd : decode y.2.1 pc = .ok (.return_, 1)) (ht : y.2.2.2.1 = none) (h : Q I) : kk y pc ls [] I (qv Q) := sh_vret (st := []) hd ht ⟨I, rfl, rfl, h⟩
def sh_fit0 (y y2 : sh_M) (k : Nat) : Bool := decide (y2.2.2.2.2.1.1 + 1 ≤ y.2.2.2.2.1.1) && decide (8 + (y2.2.2.1 + 11) + y2.2.2.2.2.1.2 ≤ y.2.2.2.2.1.2) && decide (y2.2.2.2.2.2.1 = 0) && decide (y2.2.2.2.2.2.2 = 0) && decide (k ≤ 8)
theorem sh_fit0_ok {y y2 : sh_M} {k : Nat} (h : sh_fit0 y y2 k = true) : sh_fit y y2 (0, 0) k ∧ y2.2.2.2.2.2.1 = 0 ∧ y2.2.2.2.2.2.2 = 0 := by
  simp only [sh_fit0, Bool.and_eq_true, decide_eq_true_eq] at h
  obtain ⟨⟨⟨⟨h1, h2⟩, h3⟩, h4⟩, h5⟩ := h
  exact ⟨⟨h1, h2, by rw [h3]; omega, by rw [h4]; omega, h5⟩, h3, h4⟩
theorem sh_cn0 {y2 : sh_M} (h : y2.2.2.2.2.2.1 = 0 ∧ y2.2.2.2.2.2.2 = 0) : (((0, 0) : Nat × Nat).1 + y2.2.2.2.2.2.1, ((0, 0) : Nat × Nat).2 + y2.2.2.2.2.2.2) = ((0, 0) : Nat × Nat) := by rw [h.1, h.2]
theorem k_putI {y : sh_M} {pc : Nat} {ls : List (Option sh_V)} {st : List sh_V} {I : sh_Mem} {Q : Option Int → sh_St → Prop} {idx ci f N o : Nat} {g v : Int} (hd : decode y.2.1 pc = .ok (.putfield idx, 3)) (hl : sh_FL y.1.cls idx ci f N false) (hi : sh_ty ci f = .int) (hk : sh_is (sh_S I).1 o ci N) (hg : (f : Int) = g) (h : kk y (pc + 3) ls st (sh_u I o g v) Q) : kk y pc ls (.inl v :: .inr o :: st) I Q :=
  sh_putI hd hl (by rw [hi]; rfl) hk hg (by rw [hi]; rfl) (by rw [hi]; rfl) h
theorem k_putZ {y : sh_M} {pc : Nat} {ls : List (Option sh_V)} {st : List sh_V} {I : sh_Mem} {Q : Option Int → sh_St → Prop} {idx ci f N o : Nat} {g v : Int} (hd : decode y.2.1 pc = .ok (.putfield idx, 3)) (hl : sh_FL y.1.cls idx ci f N false) (hi : sh_ty ci f = .boolean) (hk : sh_is (sh_S I).1 o ci N) (hg : (f : Int) = g) (hv : sh_01 v) (h : kk y (pc + 3) ls st (sh_u I o g v) Q) : kk y pc ls (.inl v :: .inr o :: st) I Q :=
  sh_putI hd hl (by rw [hi]; rfl) hk hg (by rw [hi]; exact nar01 hv) (by rw [hi]; rcases hv with rfl | rfl <;> rfl) h
theorem k_getI {y : sh_M} {pc : Nat} {ls : List (Option sh_V)} {st : List sh_V} {I : sh_Mem} {Q : Option Int → sh_St → Prop} {idx ci f N o : Nat} {fin : Bool} {g : Int} (v : Int) (hd : decode y.2.1 pc = .ok (.getfield idx, 3)) (hl : sh_FL y.1.cls idx ci f N fin) (hi : sh_isr (sh_ty ci f) = false) (hk : sh_is (sh_S I).1 o ci N) (hg : (f : Int) = g) (hv : I o g = v) (h : kk y (pc + 3) ls (.inl v :: st) I Q) : kk y pc ls (.inr o :: st) I Q := sh_getI hd hl hi hk hg (by show sh_O y (pc + 3) ls (.inl (I o g) :: st) (0, 0) (sh_S I) Q; rw [hv]; exact h)
theorem k_iald {y : sh_M} {pc : Nat} {ls : List (Option sh_V)} {st : List sh_V} {I : sh_Mem} {Q : Option Int → sh_St → Prop} {o N : Nat} {i : Int} (v : Int) (hd : decode y.2.1 pc = .ok (.iaload, 1)) (hk : sh_is (sh_S I).1 o 8 N) (hN : N < 2147483648) (hi : 0 ≤ i ∧ i < (N : Int)) (hv : I o i = v) (h : kk y (pc + 1) ls (.inl v :: st) I Q) : kk y pc ls (.inl i :: .inr o :: st) I Q := sh_iald hd hk hN hi (by rw [hv]; exact h)
theorem k_bald {y : sh_M} {pc : Nat} {ls : List (Option sh_V)} {st : List sh_V} {I : sh_Mem} {Q : Option Int → sh_St → Prop} {o N : Nat} {i : Int} (v : Int) (hd : decode y.2.1 pc = .ok (.baload, 1)) (hk : sh_is (sh_S I).1 o 9 N) (hN : N < 2147483648) (hi : 0 ≤ i ∧ i < (N : Int)) (hv : I o i = v) (h : kk y (pc + 1) ls (.inl v :: st) I Q) : kk y pc ls (.inl i :: .inr o :: st) I Q := sh_bald hd hk hN hi (by rw [hv]; exact h)
theorem k_cald {y : sh_M} {pc : Nat} {ls : List (Option sh_V)} {st : List sh_V} {I : sh_Mem} {Q : Option Int → sh_St → Prop} {o N : Nat} {i : Int} (v : Int) (hd : decode y.2.1 pc = .ok (.caload, 1)) (hk : sh_is (sh_S I).1 o 10 N) (hN : N < 2147483648) (hi : 0 ≤ i ∧ i < (N : Int)) (hv : I o i = v) (h : kk y (pc + 1) ls (.inl v :: st) I Q) : kk y pc ls (.inl i :: .inr o :: st) I Q := sh_cald hd hk hN hi (by rw [hv]; exact h)
theorem k_V0i {y y2 : sh_M} {pc : Nat} {ls : List (Option sh_V)} {st : List sh_V} {I : sh_Mem} {Q : Option Int → sh_St → Prop} {idx : Nat} {Q1 : Int → sh_Mem → Prop} {o ci N : Nat} (hk : sh_is (sh_S I).1 o ci N) (hd : decode y.2.1 pc = .ok (.invokevirtual idx, 3)) (hl : sh_LV y.1.cls idx y2 0 ci N) (hz : sh_fit0 y y2 st.length = true) (hC : cc y2 [.inr o] I (qi Q1)) (h : ∀ v I', Q1 v I' → kk y (pc + 3) ls (.inl v :: st) I' Q) : kk y pc ls (.inr o :: st) I Q :=
  sh_callV (as := []) hk hd hl hC rfl (sh_fit0_ok hz).1 (Or.inl (sh_fit0_ok hz).2.1) (fun r σ hq => by
    obtain ⟨I', v, rfl, rfl, hq⟩ := hq
    rw [sh_cn0 (sh_fit0_ok hz).2]
    exact h v I' hq)
theorem k_V0v {y y2 : sh_M} {pc : Nat} {ls : List (Option sh_V)} {st : List sh_V} {I : sh_Mem} {Q : Option Int → sh_St → Prop} {idx : Nat} {Q1 : sh_Mem → Prop} {o ci N : Nat} (hk : sh_is (sh_S I).1 o ci N) (hd : decode y.2.1 pc = .ok (.invokevirtual idx, 3)) (hl : sh_LV y.1.cls idx y2 0 ci N) (hz : sh_fit0 y y2 st.length = true) (hC : cc y2 [.inr o] I (qv Q1)) (h : ∀ I', Q1 I' → kk y (pc + 3) ls st I' Q) : kk y pc ls (.inr o :: st) I Q :=
  sh_callV (as := []) hk hd hl hC rfl (sh_fit0_ok hz).1 (Or.inl (sh_fit0_ok hz).2.1) (fun r σ hq => by
    obtain ⟨I', rfl, rfl, hq⟩ := hq
    rw [sh_cn0 (sh_fit0_ok hz).2]
    exact h I' hq)
theorem k_V1i {y y2 : sh_M} {pc : Nat} {ls : List (Option sh_V)} {st : List sh_V} {I : sh_Mem} {Q : Option Int → sh_St → Prop} {idx : Nat} {a0 : sh_V} {Q1 : Int → sh_Mem → Prop} {o ci N : Nat} (hk : sh_is (sh_S I).1 o ci N) (hd : decode y.2.1 pc = .ok (.invokevirtual idx, 3)) (hl : sh_LV y.1.cls idx y2 1 ci N) (hz : sh_fit0 y y2 st.length = true) (hC : cc y2 [.inr o, a0] I (qi Q1)) (h : ∀ v I', Q1 v I' → kk y (pc + 3) ls (.inl v :: st) I' Q) : kk y pc ls (a0 :: .inr o :: st) I Q :=
  sh_callV (as := [a0]) hk hd hl hC rfl (sh_fit0_ok hz).1 (Or.inl (sh_fit0_ok hz).2.1) (fun r σ hq => by
    obtain ⟨I', v, rfl, rfl, hq⟩ := hq
    rw [sh_cn0 (sh_fit0_ok hz).2]
    exact h v I' hq)
theorem k_V1v {y y2 : sh_M} {pc : Nat} {ls : List (Option sh_V)} {st : List sh_V} {I : sh_Mem} {Q : Option Int → sh_St → Prop} {idx : Nat} {a0 : sh_V} {Q1 : sh_Mem → Prop} {o ci N : Nat} (hk : sh_is (sh_S I).1 o ci N) (hd : decode y.2.1 pc = .ok (.invokevirtual idx, 3)) (hl : sh_LV y.1.cls idx y2 1 ci N) (hz : sh_fit0 y y2 st.length = true) (hC : cc y2 [.inr o, a0] I (qv Q1)) (h : ∀ I', Q1 I' → kk y (pc + 3) ls st I' Q) : kk y pc ls (a0 :: .inr o :: st) I Q :=
  sh_callV (as := [a0]) hk hd hl hC rfl (sh_fit0_ok hz).1 (Or.inl (sh_fit0_ok hz).2.1) (fun r σ hq => by
    obtain ⟨I', rfl, rfl, hq⟩ := hq
    rw [sh_cn0 (sh_fit0_ok hz).2]
    exact h I' hq)
theorem k_V2i {y y2 : sh_M} {pc : Nat} {ls : List (Option sh_V)} {st : List sh_V} {I : sh_Mem} {Q : Option Int → sh_St → Prop} {idx : Nat} {a0 a1 : sh_V} {Q1 : Int → sh_Mem → Prop} {o ci N : Nat} (hk : sh_is (sh_S I).1 o ci N) (hd : decode y.2.1 pc = .ok (.invokevirtual idx, 3)) (hl : sh_LV y.1.cls idx y2 2 ci N) (hz : sh_fit0 y y2 st.length = true) (hC : cc y2 [.inr o, a0, a1] I (qi Q1)) (h : ∀ v I', Q1 v I' → kk y (pc + 3) ls (.inl v :: st) I' Q) : kk y pc ls (a1 :: a0 :: .inr o :: st) I Q :=
  sh_callV (as := [a0, a1]) hk hd hl hC rfl (sh_fit0_ok hz).1 (Or.inl (sh_fit0_ok hz).2.1) (fun r σ hq => by
    obtain ⟨I', v, rfl, rfl, hq⟩ := hq
    rw [sh_cn0 (sh_fit0_ok hz).2]
    exact h v I' hq)
theorem k_V2v {y y2 : sh_M} {pc : Nat} {ls : List (Option sh_V)} {st : List sh_V} {I : sh_Mem} {Q : Option Int → sh_St → Prop} {idx : Nat} {a0 a1 : sh_V} {Q1 : sh_Mem → Prop} {o ci N : Nat} (hk : sh_is (sh_S I).1 o ci N) (hd : decode y.2.1 pc = .ok (.invokevirtual idx, 3)) (hl : sh_LV y.1.cls idx y2 2 ci N) (hz : sh_fit0 y y2 st.length = true) (hC : cc y2 [.inr o, a0, a1] I (qv Q1)) (h : ∀ I', Q1 I' → kk y (pc + 3) ls st I' Q) : kk y pc ls (a1 :: a0 :: .inr o :: st) I Q :=
  sh_callV (as := [a0, a1]) hk hd hl hC rfl (sh_fit0_ok hz).1 (Or.inl (sh_fit0_ok hz).2.1) (fun r σ hq => by
    obtain ⟨I', rfl, rfl, hq⟩ := hq
    rw [sh_cn0 (sh_fit0_ok hz).2]
    exact h I' hq)
theorem k_V3i {y y2 : sh_M} {pc : Nat} {ls : List (Option sh_V)} {st : List sh_V} {I : sh_Mem} {Q : Option Int → sh_St → Prop} {idx : Nat} {a0 a1 a2 : sh_V} {Q1 : Int → sh_Mem → Prop} {o ci N : Nat} (hk : sh_is (sh_S I).1 o ci N) (hd : decode y.2.1 pc = .ok (.invokevirtual idx, 3)) (hl : sh_LV y.1.cls idx y2 3 ci N) (hz : sh_fit0 y y2 st.length = true) (hC : cc y2 [.inr o, a0, a1, a2] I (qi Q1)) (h : ∀ v I', Q1 v I' → kk y (pc + 3) ls (.inl v :: st) I' Q) : kk y pc ls (a2 :: a1 :: a0 :: .inr o :: st) I Q :=
  sh_callV (as := [a0, a1, a2]) hk hd hl hC rfl (sh_fit0_ok hz).1 (Or.inl (sh_fit0_ok hz).2.1) (fun r σ hq => by
    obtain ⟨I', v, rfl, rfl, hq⟩ := hq
    rw [sh_cn0 (sh_fit0_ok hz).2]
    exact h v I' hq)
theorem k_V3v {y y2 : sh_M} {pc : Nat} {ls : List (Option sh_V)} {st : List sh_V} {I : sh_Mem} {Q : Option Int → sh_St → Prop} {idx : Nat} {a0 a1 a2 : sh_V} {Q1 : sh_Mem → Prop} {o ci N : Nat} (hk : sh_is (sh_S I).1 o ci N) (hd : decode y.2.1 pc = .ok (.invokevirtual idx, 3)) (hl : sh_LV y.1.cls idx y2 3 ci N) (hz : sh_fit0 y y2 st.length = true) (hC : cc y2 [.inr o, a0, a1, a2] I (qv Q1)) (h : ∀ I', Q1 I' → kk y (pc + 3) ls st I' Q) : kk y pc ls (a2 :: a1 :: a0 :: .inr o :: st) I Q :=
  sh_callV (as := [a0, a1, a2]) hk hd hl hC rfl (sh_fit0_ok hz).1 (Or.inl (sh_fit0_ok hz).2.1) (fun r σ hq => by
    obtain ⟨I', rfl, rfl, hq⟩ := hq
    rw [sh_cn0 (sh_fit0_ok hz).2]
    exact h I' hq)
theorem k_V4i {y y2 : sh_M} {pc : Nat} {ls : List (Option sh_V)} {st : List sh_V} {I : sh_Mem} {Q : Option Int → sh_St → Prop} {idx : Nat} {a0 a1 a2 a3 : sh_V} {Q1 : Int → sh_Mem → Prop} {o ci N : Nat} (hk : sh_is (sh_S I).1 o ci N) (hd : decode y.2.1 pc = .ok (.invokevirtual idx, 3)) (hl : sh_LV y.1.cls idx y2 4 ci N) (hz : sh_fit0 y y2 st.length = true) (hC : cc y2 [.inr o, a0, a1, a2, a3] I (qi Q1)) (h : ∀ v I', Q1 v I' → kk y (pc + 3) ls (.inl v :: st) I' Q) : kk y pc ls (a3 :: a2 :: a1 :: a0 :: .inr o :: st) I Q :=
  sh_callV (as := [a0, a1, a2, a3]) hk hd hl hC rfl (sh_fit0_ok hz).1 (Or.inl (sh_fit0_ok hz).2.1) (fun r σ hq => by
    obtain ⟨I', v, rfl, rfl, hq⟩ := hq
    rw [sh_cn0 (sh_fit0_ok hz).2]
    exact h v I' hq)
theorem k_V4v {y y2 : sh_M} {pc : Nat} {ls : List (Option sh_V)} {st : List sh_V} {I : sh_Mem} {Q : Option Int → sh_St → Prop} {idx : Nat} {a0 a1 a2 a3 : sh_V} {Q1 : sh_Mem → Prop} {o ci N : Nat} (hk : sh_is (sh_S I).1 o ci N) (hd : decode y.2.1 pc = .ok (.invokevirtual idx, 3)) (hl : sh_LV y.1.cls idx y2 4 ci N) (hz : sh_fit0 y y2 st.length = true) (hC : cc y2 [.inr o, a0, a1, a2, a3] I (qv Q1)) (h : ∀ I', Q1 I' → kk y (pc + 3) ls st I' Q) : kk y pc ls (a3 :: a2 :: a1 :: a0 :: .inr o :: st) I Q :=
  sh_callV (as := [a0, a1, a2, a3]) hk hd hl hC rfl (sh_fit0_ok hz).1 (Or.inl (sh_fit0_ok hz).2.1) (fun r σ hq => by
    obtain ⟨I', rfl, rfl, hq⟩ := hq
    rw [sh_cn0 (sh_fit0_ok hz).2]
    exact h I' hq)
theorem k_V5i {y y2 : sh_M} {pc : Nat} {ls : List (Option sh_V)} {st : List sh_V} {I : sh_Mem} {Q : Option Int → sh_St → Prop} {idx : Nat} {a0 a1 a2 a3 a4 : sh_V} {Q1 : Int → sh_Mem → Prop} {o ci N : Nat} (hk : sh_is (sh_S I).1 o ci N) (hd : decode y.2.1 pc = .ok (.invokevirtual idx, 3)) (hl : sh_LV y.1.cls idx y2 5 ci N) (hz : sh_fit0 y y2 st.length = true) (hC : cc y2 [.inr o, a0, a1, a2, a3, a4] I (qi Q1)) (h : ∀ v I', Q1 v I' → kk y (pc + 3) ls (.inl v :: st) I' Q) : kk y pc ls (a4 :: a3 :: a2 :: a1 :: a0 :: .inr o :: st) I Q :=
  sh_callV (as := [a0, a1, a2, a3, a4]) hk hd hl hC rfl (sh_fit0_ok hz).1 (Or.inl (sh_fit0_ok hz).2.1) (fun r σ hq => by
    obtain ⟨I', v, rfl, rfl, hq⟩ := hq
    rw [sh_cn0 (sh_fit0_ok hz).2]
    exact h v I' hq)
theorem k_V5v {y y2 : sh_M} {pc : Nat} {ls : List (Option sh_V)} {st : List sh_V} {I : sh_Mem} {Q : Option Int → sh_St → Prop} {idx : Nat} {a0 a1 a2 a3 a4 : sh_V} {Q1 : sh_Mem → Prop} {o ci N : Nat} (hk : sh_is (sh_S I).1 o ci N) (hd : decode y.2.1 pc = .ok (.invokevirtual idx, 3)) (hl : sh_LV y.1.cls idx y2 5 ci N) (hz : sh_fit0 y y2 st.length = true) (hC : cc y2 [.inr o, a0, a1, a2, a3, a4] I (qv Q1)) (h : ∀ I', Q1 I' → kk y (pc + 3) ls st I' Q) : kk y pc ls (a4 :: a3 :: a2 :: a1 :: a0 :: .inr o :: st) I Q :=
  sh_callV (as := [a0, a1, a2, a3, a4]) hk hd hl hC rfl (sh_fit0_ok hz).1 (Or.inl (sh_fit0_ok hz).2.1) (fun r σ hq => by
    obtain ⟨I', rfl, rfl, hq⟩ := hq
    rw [sh_cn0 (sh_fit0_ok hz).2]
    exact h I' hq)
theorem k_S0i {y y2 : sh_M} {pc : Nat} {ls : List (Option sh_V)} {st : List sh_V} {I : sh_Mem} {Q : Option Int → sh_St → Prop} {idx : Nat} {Q1 : Int → sh_Mem → Prop} (hd : decode y.2.1 pc = .ok (.invokestatic idx, 3)) (hl : sh_LS y.1.cls idx y2 0) (hz : sh_fit0 y y2 st.length = true) (hC : cc y2 [] I (qi Q1)) (h : ∀ v I', Q1 v I' → kk y (pc + 3) ls (.inl v :: st) I' Q) : kk y pc ls (st) I Q :=
  sh_callS (as := []) hd hl hC rfl (sh_fit0_ok hz).1 (Or.inl (sh_fit0_ok hz).2.1) (fun r σ hq => by
    obtain ⟨I', v, rfl, rfl, hq⟩ := hq
    rw [sh_cn0 (sh_fit0_ok hz).2]
    exact h v I' hq)
theorem k_S0v {y y2 : sh_M} {pc : Nat} {ls : List (Option sh_V)} {st : List sh_V} {I : sh_Mem} {Q : Option Int → sh_St → Prop} {idx : Nat} {Q1 : sh_Mem → Prop} (hd : decode y.2.1 pc = .ok (.invokestatic idx, 3)) (hl : sh_LS y.1.cls idx y2 0) (hz : sh_fit0 y y2 st.length = true) (hC : cc y2 [] I (qv Q1)) (h : ∀ I', Q1 I' → kk y (pc + 3) ls st I' Q) : kk y pc ls (st) I Q :=
  sh_callS (as := []) hd hl hC rfl (sh_fit0_ok hz).1 (Or.inl (sh_fit0_ok hz).2.1) (fun r σ hq => by
    obtain ⟨I', rfl, rfl, hq⟩ := hq
    rw [sh_cn0 (sh_fit0_ok hz).2]
    exact h I' hq)
theorem k_S1i {y y2 : sh_M} {pc : Nat} {ls : List (Option sh_V)} {st : List sh_V} {I : sh_Mem} {Q : Option Int → sh_St → Prop} {idx : Nat} {a0 : sh_V} {Q1 : Int → sh_Mem → Prop} (hd : decode y.2.1 pc = .ok (.invokestatic idx, 3)) (hl : sh_LS y.1.cls idx y2 1) (hz : sh_fit0 y y2 st.length = true) (hC : cc y2 [a0] I (qi Q1)) (h : ∀ v I', Q1 v I' → kk y (pc + 3) ls (.inl v :: st) I' Q) : kk y pc ls (a0 :: st) I Q :=
  sh_callS (as := [a0]) hd hl hC rfl (sh_fit0_ok hz).1 (Or.inl (sh_fit0_ok hz).2.1) (fun r σ hq => by
    obtain ⟨I', v, rfl, rfl, hq⟩ := hq
    rw [sh_cn0 (sh_fit0_ok hz).2]
    exact h v I' hq)
theorem k_S1v {y y2 : sh_M} {pc : Nat} {ls : List (Option sh_V)} {st : List sh_V} {I : sh_Mem} {Q : Option Int → sh_St → Prop} {idx : Nat} {a0 : sh_V} {Q1 : sh_Mem → Prop} (hd : decode y.2.1 pc = .ok (.invokestatic idx, 3)) (hl : sh_LS y.1.cls idx y2 1) (hz : sh_fit0 y y2 st.length = true) (hC : cc y2 [a0] I (qv Q1)) (h : ∀ I', Q1 I' → kk y (pc + 3) ls st I' Q) : kk y pc ls (a0 :: st) I Q :=
  sh_callS (as := [a0]) hd hl hC rfl (sh_fit0_ok hz).1 (Or.inl (sh_fit0_ok hz).2.1) (fun r σ hq => by
    obtain ⟨I', rfl, rfl, hq⟩ := hq
    rw [sh_cn0 (sh_fit0_ok hz).2]
    exact h I' hq)
theorem k_S2i {y y2 : sh_M} {pc : Nat} {ls : List (Option sh_V)} {st : List sh_V} {I : sh_Mem} {Q : Option Int → sh_St → Prop} {idx : Nat} {a0 a1 : sh_V} {Q1 : Int → sh_Mem → Prop} (hd : decode y.2.1 pc = .ok (.invokestatic idx, 3)) (hl : sh_LS y.1.cls idx y2 2) (hz : sh_fit0 y y2 st.length = true) (hC : cc y2 [a0, a1] I (qi Q1)) (h : ∀ v I', Q1 v I' → kk y (pc + 3) ls (.inl v :: st) I' Q) : kk y pc ls (a1 :: a0 :: st) I Q :=
  sh_callS (as := [a0, a1]) hd hl hC rfl (sh_fit0_ok hz).1 (Or.inl (sh_fit0_ok hz).2.1) (fun r σ hq => by
    obtain ⟨I', v, rfl, rfl, hq⟩ := hq
    rw [sh_cn0 (sh_fit0_ok hz).2]
    exact h v I' hq)
theorem k_S2v {y y2 : sh_M} {pc : Nat} {ls : List (Option sh_V)} {st : List sh_V} {I : sh_Mem} {Q : Option Int → sh_St → Prop} {idx : Nat} {a0 a1 : sh_V} {Q1 : sh_Mem → Prop} (hd : decode y.2.1 pc = .ok (.invokestatic idx, 3)) (hl : sh_LS y.1.cls idx y2 2) (hz : sh_fit0 y y2 st.length = true) (hC : cc y2 [a0, a1] I (qv Q1)) (h : ∀ I', Q1 I' → kk y (pc + 3) ls st I' Q) : kk y pc ls (a1 :: a0 :: st) I Q :=
  sh_callS (as := [a0, a1]) hd hl hC rfl (sh_fit0_ok hz).1 (Or.inl (sh_fit0_ok hz).2.1) (fun r σ hq => by
    obtain ⟨I', rfl, rfl, hq⟩ := hq
    rw [sh_cn0 (sh_fit0_ok hz).2]
    exact h I' hq)
theorem k_S3i {y y2 : sh_M} {pc : Nat} {ls : List (Option sh_V)} {st : List sh_V} {I : sh_Mem} {Q : Option Int → sh_St → Prop} {idx : Nat} {a0 a1 a2 : sh_V} {Q1 : Int → sh_Mem → Prop} (hd : decode y.2.1 pc = .ok (.invokestatic idx, 3)) (hl : sh_LS y.1.cls idx y2 3) (hz : sh_fit0 y y2 st.length = true) (hC : cc y2 [a0, a1, a2] I (qi Q1)) (h : ∀ v I', Q1 v I' → kk y (pc + 3) ls (.inl v :: st) I' Q) : kk y pc ls (a2 :: a1 :: a0 :: st) I Q :=
  sh_callS (as := [a0, a1, a2]) hd hl hC rfl (sh_fit0_ok hz).1 (Or.inl (sh_fit0_ok hz).2.1) (fun r σ hq => by
    obtain ⟨I', v, rfl, rfl, hq⟩ := hq
    rw [sh_cn0 (sh_fit0_ok hz).2]
    exact h v I' hq)
theorem k_S3v {y y2 : sh_M} {pc : Nat} {ls : List (Option sh_V)} {st : List sh_V} {I : sh_Mem} {Q : Option Int → sh_St → Prop} {idx : Nat} {a0 a1 a2 : sh_V} {Q1 : sh_Mem → Prop} (hd : decode y.2.1 pc = .ok (.invokestatic idx, 3)) (hl : sh_LS y.1.cls idx y2 3) (hz : sh_fit0 y y2 st.length = true) (hC : cc y2 [a0, a1, a2] I (qv Q1)) (h : ∀ I', Q1 I' → kk y (pc + 3) ls st I' Q) : kk y pc ls (a2 :: a1 :: a0 :: st) I Q :=
  sh_callS (as := [a0, a1, a2]) hd hl hC rfl (sh_fit0_ok hz).1 (Or.inl (sh_fit0_ok hz).2.1) (fun r σ hq => by
    obtain ⟨I', rfl, rfl, hq⟩ := hq
    rw [sh_cn0 (sh_fit0_ok hz).2]
    exact h I' hq)
theorem k_S4i {y y2 : sh_M} {pc : Nat} {ls : List (Option sh_V)} {st : List sh_V} {I : sh_Mem} {Q : Option Int → sh_St → Prop} {idx : Nat} {a0 a1 a2 a3 : sh_V} {Q1 : Int → sh_Mem → Prop} (hd : decode y.2.1 pc = .ok (.invokestatic idx, 3)) (hl : sh_LS y.1.cls idx y2 4) (hz : sh_fit0 y y2 st.length = true) (hC : cc y2 [a0, a1, a2, a3] I (qi Q1)) (h : ∀ v I', Q1 v I' → kk y (pc + 3) ls (.inl v :: st) I' Q) : kk y pc ls (a3 :: a2 :: a1 :: a0 :: st) I Q :=
  sh_callS (as := [a0, a1, a2, a3]) hd hl hC rfl (sh_fit0_ok hz).1 (Or.inl (sh_fit0_ok hz).2.1) (fun r σ hq => by
    obtain ⟨I', v, rfl, rfl, hq⟩ := hq
    rw [sh_cn0 (sh_fit0_ok hz).2]
    exact h v I' hq)
theorem k_S4v {y y2 : sh_M} {pc : Nat} {ls : List (Option sh_V)} {st : List sh_V} {I : sh_Mem} {Q : Option Int → sh_St → Prop} {idx : Nat} {a0 a1 a2 a3 : sh_V} {Q1 : sh_Mem → Prop} (hd : decode y.2.1 pc = .ok (.invokestatic idx, 3)) (hl : sh_LS y.1.cls idx y2 4) (hz : sh_fit0 y y2 st.length = true) (hC : cc y2 [a0, a1, a2, a3] I (qv Q1)) (h : ∀ I', Q1 I' → kk y (pc + 3) ls st I' Q) : kk y pc ls (a3 :: a2 :: a1 :: a0 :: st) I Q :=
  sh_callS (as := [a0, a1, a2, a3]) hd hl hC rfl (sh_fit0_ok hz).1 (Or.inl (sh_fit0_ok hz).2.1) (fun r σ hq => by
    obtain ⟨I', rfl, rfl, hq⟩ := hq
    rw [sh_cn0 (sh_fit0_ok hz).2]
    exact h I' hq)
theorem k_S5i {y y2 : sh_M} {pc : Nat} {ls : List (Option sh_V)} {st : List sh_V} {I : sh_Mem} {Q : Option Int → sh_St → Prop} {idx : Nat} {a0 a1 a2 a3 a4 : sh_V} {Q1 : Int → sh_Mem → Prop} (hd : decode y.2.1 pc = .ok (.invokestatic idx, 3)) (hl : sh_LS y.1.cls idx y2 5) (hz : sh_fit0 y y2 st.length = true) (hC : cc y2 [a0, a1, a2, a3, a4] I (qi Q1)) (h : ∀ v I', Q1 v I' → kk y (pc + 3) ls (.inl v :: st) I' Q) : kk y pc ls (a4 :: a3 :: a2 :: a1 :: a0 :: st) I Q :=
  sh_callS (as := [a0, a1, a2, a3, a4]) hd hl hC rfl (sh_fit0_ok hz).1 (Or.inl (sh_fit0_ok hz).2.1) (fun r σ hq => by
    obtain ⟨I', v, rfl, rfl, hq⟩ := hq
    rw [sh_cn0 (sh_fit0_ok hz).2]
    exact h v I' hq)
theorem k_S5v {y y2 : sh_M} {pc : Nat} {ls : List (Option sh_V)} {st : List sh_V} {I : sh_Mem} {Q : Option Int → sh_St → Prop} {idx : Nat} {a0 a1 a2 a3 a4 : sh_V} {Q1 : sh_Mem → Prop} (hd : decode y.2.1 pc = .ok (.invokestatic idx, 3)) (hl : sh_LS y.1.cls idx y2 5) (hz : sh_fit0 y y2 st.length = true) (hC : cc y2 [a0, a1, a2, a3, a4] I (qv Q1)) (h : ∀ I', Q1 I' → kk y (pc + 3) ls st I' Q) : kk y pc ls (a4 :: a3 :: a2 :: a1 :: a0 :: st) I Q :=
  sh_callS (as := [a0, a1, a2, a3, a4]) hd hl hC rfl (sh_fit0_ok hz).1 (Or.inl (sh_fit0_ok hz).2.1) (fun r σ hq => by
    obtain ⟨I', rfl, rfl, hq⟩ := hq
    rw [sh_cn0 (sh_fit0_ok hz).2]
    exact h I' hq)
theorem k_N0i {y y2 : sh_M} {pc : Nat} {ls : List (Option sh_V)} {st : List sh_V} {I : sh_Mem} {Q : Option Int → sh_St → Prop} {idx : Nat} {Q1 : Int → sh_Mem → Prop} (hd : decode y.2.1 pc = .ok (.invokestatic idx, 3)) (hl : sh_LSN y.1.cls idx y2 0) (hz : sh_fit0 y y2 st.length = true) (hC : cc y2 [] I (qi Q1)) (h : ∀ v I', Q1 v I' → kk y (pc + 3) ls (.inl v :: st) I' Q) : kk y pc ls (st) I Q :=
  sh_callSN (as := []) hd hl hC rfl (sh_fit0_ok hz).1 (Or.inl (sh_fit0_ok hz).2.1) (fun r σ hq => by
    obtain ⟨I', v, rfl, rfl, hq⟩ := hq
    rw [sh_cn0 (sh_fit0_ok hz).2]
    exact h v I' hq)
theorem k_N0v {y y2 : sh_M} {pc : Nat} {ls : List (Option sh_V)} {st : List sh_V} {I : sh_Mem} {Q : Option Int → sh_St → Prop} {idx : Nat} {Q1 : sh_Mem → Prop} (hd : decode y.2.1 pc = .ok (.invokestatic idx, 3)) (hl : sh_LSN y.1.cls idx y2 0) (hz : sh_fit0 y y2 st.length = true) (hC : cc y2 [] I (qv Q1)) (h : ∀ I', Q1 I' → kk y (pc + 3) ls st I' Q) : kk y pc ls (st) I Q :=
  sh_callSN (as := []) hd hl hC rfl (sh_fit0_ok hz).1 (Or.inl (sh_fit0_ok hz).2.1) (fun r σ hq => by
    obtain ⟨I', rfl, rfl, hq⟩ := hq
    rw [sh_cn0 (sh_fit0_ok hz).2]
    exact h I' hq)
theorem k_N1i {y y2 : sh_M} {pc : Nat} {ls : List (Option sh_V)} {st : List sh_V} {I : sh_Mem} {Q : Option Int → sh_St → Prop} {idx : Nat} {a0 : sh_V} {Q1 : Int → sh_Mem → Prop} (hd : decode y.2.1 pc = .ok (.invokestatic idx, 3)) (hl : sh_LSN y.1.cls idx y2 1) (hz : sh_fit0 y y2 st.length = true) (hC : cc y2 [a0] I (qi Q1)) (h : ∀ v I', Q1 v I' → kk y (pc + 3) ls (.inl v :: st) I' Q) : kk y pc ls (a0 :: st) I Q :=
  sh_callSN (as := [a0]) hd hl hC rfl (sh_fit0_ok hz).1 (Or.inl (sh_fit0_ok hz).2.1) (fun r σ hq => by
    obtain ⟨I', v, rfl, rfl, hq⟩ := hq
    rw [sh_cn0 (sh_fit0_ok hz).2]
    exact h v I' hq)
theorem k_N1v {y y2 : sh_M} {pc : Nat} {ls : List (Option sh_V)} {st : List sh_V} {I : sh_Mem} {Q : Option Int → sh_St → Prop} {idx : Nat} {a0 : sh_V} {Q1 : sh_Mem → Prop} (hd : decode y.2.1 pc = .ok (.invokestatic idx, 3)) (hl : sh_LSN y.1.cls idx y2 1) (hz : sh_fit0 y y2 st.length = true) (hC : cc y2 [a0] I (qv Q1)) (h : ∀ I', Q1 I' → kk y (pc + 3) ls st I' Q) : kk y pc ls (a0 :: st) I Q :=
  sh_callSN (as := [a0]) hd hl hC rfl (sh_fit0_ok hz).1 (Or.inl (sh_fit0_ok hz).2.1) (fun r σ hq => by
    obtain ⟨I', rfl, rfl, hq⟩ := hq
    rw [sh_cn0 (sh_fit0_ok hz).2]
    exact h I' hq)
theorem k_N2i {y y2 : sh_M} {pc : Nat} {ls : List (Option sh_V)} {st : List sh_V} {I : sh_Mem} {Q : Option Int → sh_St → Prop} {idx : Nat} {a0 a1 : sh_V} {Q1 : Int → sh_Mem → Prop} (hd : decode y.2.1 pc = .ok (.invokestatic idx, 3)) (hl : sh_LSN y.1.cls idx y2 2) (hz : sh_fit0 y y2 st.length = true) (hC : cc y2 [a0, a1] I (qi Q1)) (h : ∀ v I', Q1 v I' → kk y (pc + 3) ls (.inl v :: st) I' Q) : kk y pc ls (a1 :: a0 :: st) I Q :=
  sh_callSN (as := [a0, a1]) hd hl hC rfl (sh_fit0_ok hz).1 (Or.inl (sh_fit0_ok hz).2.1) (fun r σ hq => by
    obtain ⟨I', v, rfl, rfl, hq⟩ := hq
    rw [sh_cn0 (sh_fit0_ok hz).2]
    exact h v I' hq)
theorem k_N2v {y y2 : sh_M} {pc : Nat} {ls : List (Option sh_V)} {st : List sh_V} {I : sh_Mem} {Q : Option Int → sh_St → Prop} {idx : Nat} {a0 a1 : sh_V} {Q1 : sh_Mem → Prop} (hd : decode y.2.1 pc = .ok (.invokestatic idx, 3)) (hl : sh_LSN y.1.cls idx y2 2) (hz : sh_fit0 y y2 st.length = true) (hC : cc y2 [a0, a1] I (qv Q1)) (h : ∀ I', Q1 I' → kk y (pc + 3) ls st I' Q) : kk y pc ls (a1 :: a0 :: st) I Q :=
  sh_callSN (as := [a0, a1]) hd hl hC rfl (sh_fit0_ok hz).1 (Or.inl (sh_fit0_ok hz).2.1) (fun r σ hq => by
    obtain ⟨I', rfl, rfl, hq⟩ := hq
    rw [sh_cn0 (sh_fit0_ok hz).2]
    exact h I' hq)
theorem k_N3i {y y2 : sh_M} {pc : Nat} {ls : List (Option sh_V)} {st : List sh_V} {I : sh_Mem} {Q : Option Int → sh_St → Prop} {idx : Nat} {a0 a1 a2 : sh_V} {Q1 : Int → sh_Mem → Prop} (hd : decode y.2.1 pc = .ok (.invokestatic idx, 3)) (hl : sh_LSN y.1.cls idx y2 3) (hz : sh_fit0 y y2 st.length = true) (hC : cc y2 [a0, a1, a2] I (qi Q1)) (h : ∀ v I', Q1 v I' → kk y (pc + 3) ls (.inl v :: st) I' Q) : kk y pc ls (a2 :: a1 :: a0 :: st) I Q :=
  sh_callSN (as := [a0, a1, a2]) hd hl hC rfl (sh_fit0_ok hz).1 (Or.inl (sh_fit0_ok hz).2.1) (fun r σ hq => by
    obtain ⟨I', v, rfl, rfl, hq⟩ := hq
    rw [sh_cn0 (sh_fit0_ok hz).2]
    exact h v I' hq)
theorem k_N3v {y y2 : sh_M} {pc : Nat} {ls : List (Option sh_V)} {st : List sh_V} {I : sh_Mem} {Q : Option Int → sh_St → Prop} {idx : Nat} {a0 a1 a2 : sh_V} {Q1 : sh_Mem → Prop} (hd : decode y.2.1 pc = .ok (.invokestatic idx, 3)) (hl : sh_LSN y.1.cls idx y2 3) (hz : sh_fit0 y y2 st.length = true) (hC : cc y2 [a0, a1, a2] I (qv Q1)) (h : ∀ I', Q1 I' → kk y (pc + 3) ls st I' Q) : kk y pc ls (a2 :: a1 :: a0 :: st) I Q :=
  sh_callSN (as := [a0, a1, a2]) hd hl hC rfl (sh_fit0_ok hz).1 (Or.inl (sh_fit0_ok hz).2.1) (fun r σ hq => by
    obtain ⟨I', rfl, rfl, hq⟩ := hq
    rw [sh_cn0 (sh_fit0_ok hz).2]
    exact h I' hq)
theorem k_N4i {y y2 : sh_M} {pc : Nat} {ls : List (Option sh_V)} {st : List sh_V} {I : sh_Mem} {Q : Option Int → sh_St → Prop} {idx : Nat} {a0 a1 a2 a3 : sh_V} {Q1 : Int → sh_Mem → Prop} (hd : decode y.2.1 pc = .ok (.invokestatic idx, 3)) (hl : sh_LSN y.1.cls idx y2 4) (hz : sh_fit0 y y2 st.length = true) (hC : cc y2 [a0, a1, a2, a3] I (qi Q1)) (h : ∀ v I', Q1 v I' → kk y (pc + 3) ls (.inl v :: st) I' Q) : kk y pc ls (a3 :: a2 :: a1 :: a0 :: st) I Q :=
  sh_callSN (as := [a0, a1, a2, a3]) hd hl hC rfl (sh_fit0_ok hz).1 (Or.inl (sh_fit0_ok hz).2.1) (fun r σ hq => by
    obtain ⟨I', v, rfl, rfl, hq⟩ := hq
    rw [sh_cn0 (sh_fit0_ok hz).2]
    exact h v I' hq)
theorem k_N4v {y y2 : sh_M} {pc : Nat} {ls : List (Option sh_V)} {st : List sh_V} {I : sh_Mem} {Q : Option Int → sh_St → Prop} {idx : Nat} {a0 a1 a2 a3 : sh_V} {Q1 : sh_Mem → Prop} (hd : decode y.2.1 pc = .ok (.invokestatic idx, 3)) (hl : sh_LSN y.1.cls idx y2 4) (hz : sh_fit0 y y2 st.length = true) (hC : cc y2 [a0, a1, a2, a3] I (qv Q1)) (h : ∀ I', Q1 I' → kk y (pc + 3) ls st I' Q) : kk y pc ls (a3 :: a2 :: a1 :: a0 :: st) I Q :=
  sh_callSN (as := [a0, a1, a2, a3]) hd hl hC rfl (sh_fit0_ok hz).1 (Or.inl (sh_fit0_ok hz).2.1) (fun r σ hq => by
    obtain ⟨I', rfl, rfl, hq⟩ := hq
    rw [sh_cn0 (sh_fit0_ok hz).2]
    exact h I' hq)
theorem k_N5i {y y2 : sh_M} {pc : Nat} {ls : List (Option sh_V)} {st : List sh_V} {I : sh_Mem} {Q : Option Int → sh_St → Prop} {idx : Nat} {a0 a1 a2 a3 a4 : sh_V} {Q1 : Int → sh_Mem → Prop} (hd : decode y.2.1 pc = .ok (.invokestatic idx, 3)) (hl : sh_LSN y.1.cls idx y2 5) (hz : sh_fit0 y y2 st.length = true) (hC : cc y2 [a0, a1, a2, a3, a4] I (qi Q1)) (h : ∀ v I', Q1 v I' → kk y (pc + 3) ls (.inl v :: st) I' Q) : kk y pc ls (a4 :: a3 :: a2 :: a1 :: a0 :: st) I Q :=
  sh_callSN (as := [a0, a1, a2, a3, a4]) hd hl hC rfl (sh_fit0_ok hz).1 (Or.inl (sh_fit0_ok hz).2.1) (fun r σ hq => by
    obtain ⟨I', v, rfl, rfl, hq⟩ := hq
    rw [sh_cn0 (sh_fit0_ok hz).2]
    exact h v I' hq)
theorem k_N5v {y y2 : sh_M} {pc : Nat} {ls : List (Option sh_V)} {st : List sh_V} {I : sh_Mem} {Q : Option Int → sh_St → Prop} {idx : Nat} {a0 a1 a2 a3 a4 : sh_V} {Q1 : sh_Mem → Prop} (hd : decode y.2.1 pc = .ok (.invokestatic idx, 3)) (hl : sh_LSN y.1.cls idx y2 5) (hz : sh_fit0 y y2 st.length = true) (hC : cc y2 [a0, a1, a2, a3, a4] I (qv Q1)) (h : ∀ I', Q1 I' → kk y (pc + 3) ls st I' Q) : kk y pc ls (a4 :: a3 :: a2 :: a1 :: a0 :: st) I Q :=
  sh_callSN (as := [a0, a1, a2, a3, a4]) hd hl hC rfl (sh_fit0_ok hz).1 (Or.inl (sh_fit0_ok hz).2.1) (fun r σ hq => by
    obtain ⟨I', rfl, rfl, hq⟩ := hq
    rw [sh_cn0 (sh_fit0_ok hz).2]
    exact h I' hq)
end
section
/-! ===== 09c: worlds side by side: the class's calls inside a larger world; a call whose arrays are forgotten ===== -/
def cx (c : sh_Cx) : Prop := 119 ≤ c.1 ∧ ∀ o, o < 119 → c.2 o = sh_PT o
def ext (c c' : sh_Cx) : Prop := c.1 ≤ c'.1 ∧ ∀ o, o < c.1 → c'.2 o = c.2 o
theorem ext.rf {c : sh_Cx} : ext c c := ⟨Nat.le_refl _, fun _ _ => rfl⟩
theorem ext.push {c d : sh_Cx} {N : Nat} (h : ext c d) : ext c (cp d N) := ⟨Nat.le_succ_of_le h.1, fun o ho => by
  show sh_uP d.2 d.1 0 N o = c.2 o
  rw [sh_uP_ne (by have := h.1; omega)]
  exact h.2 o ho⟩
theorem cx.push {c : sh_Cx} {N : Nat} (h : cx c) : cx (cp c N) := ⟨Nat.le_succ_of_le h.1, fun o ho => by
  show sh_uP c.2 c.1 0 N o = sh_PT o
  rw [sh_uP_ne (by have := h.1; omega)]
  exact h.2 o ho⟩
theorem dy.lt {c : sh_Cx} {o N : Nat} (h : dy c o N) : o < c.1 := h.1.2
theorem dy.ne {c : sh_Cx} {o N : Nat} (h : dy c o N) : ¬ o = c.1 := by have := h.1.2; omega
theorem dy.ge {c : sh_Cx} {o N : Nat} (h : dy c o N) : 119 ≤ o := h.1.1
def li (c : sh_Cx) (Q : Int → sh_Mem → Prop) (r : Option Int) (σ : sh_St) : Prop := ∃ I v, σ = (c.1, I, c.2) ∧ r = some v ∧ Q v I
def lv (c : sh_Cx) (Q : sh_Mem → Prop) (r : Option Int) (σ : sh_St) : Prop := ∃ I, σ = (c.1, I, c.2) ∧ r = none ∧ Q I
def qli (c : sh_Cx) (Q : Int → sh_Mem → Prop) (r : Option Int) (σ : sh_St) : Prop := ∃ c' I v, ext c c' ∧ σ = (c'.1, I, c'.2) ∧ r = some v ∧ Q v I
def qlv (c : sh_Cx) (Q : sh_Mem → Prop) (r : Option Int) (σ : sh_St) : Prop := ∃ c' I, ext c c' ∧ σ = (c'.1, I, c'.2) ∧ r = none ∧ Q I
abbrev cl (c : sh_Cx) (y : sh_M) (as : List sh_V) (I : sh_Mem) (Q : Option Int → sh_St → Prop) : Prop := sh_C y as (c.1, I, c.2) Q
/-- what lies in a smaller world lies in the larger one -/
theorem sh_W_pre {ad : Nat → Nat} {ac : Nat → ClassId} {n m : Nat} {I J : sh_Mem} {P R : sh_Ptr} (hn : n ≤ m) (h1 : ∀ k, 0 < k → k < n → J k = I k) (h2 : ∀ k, 0 < k → k < n → R k = P k) {k : Nat} {q : Nat × va_E} (h : (sh_W ad ac (n, I, P))[k]? = some q) : (sh_W ad ac (m, J, R))[k]? = some q := by
  obtain ⟨hk, rfl⟩ := sh_W_idx h
  have hk1 : k + 1 < n := hk
  have hlt : k < m - 1 := by omega
  rw [sh_W, List.getElem?_map, List.getElem?_range hlt]
  simp only [Option.map_some]
  rw [sh_E_congr (h1 _ (by omega) hk1) (h2 _ (by omega) hk1)]
theorem sh_C.drop {y : sh_M} {as : List sh_V} {c : sh_Cx} {I : sh_Mem} {Q0 Q : Option Int → sh_St → Prop} (h : sh_C y as (c.1, I, c.2) Q0) (hq : ∀ r σ, Q0 r σ → ∃ c' J, ext c c' ∧ σ = (c'.1, J, c'.2) ∧ Q r (c.1, J, c.2)) : sh_C y as (c.1, I, c.2) Q := by
  intro l D ad ac sz
  intro p e b1 b2 b3 s m args below b4 b5 b6 b7
  obtain ⟨k, o, c1, c2, c3, ⟨⟨r, σ', ad', ac', h1, ho, hU, k0, ks, kle⟩, h3⟩, c5⟩ := h l D ad ac sz p e b1 b2 b3 s m args below b4 b5 b6 b7
  obtain ⟨c', J, he, rfl, hQ⟩ := hq r σ' h1
  obtain ⟨-, -, -, -, -, -, -, -, a7, a8⟩ := b6
  obtain ⟨u1, u2, u3, u4, u5, u6, u7, u8⟩ := hU
  have pre : ∀ {k : Nat} {q : Nat × va_E}, (sh_W ad' ac' (c.1, J, c.2))[k]? = some q → (sh_W ad' ac' (c'.1, J, c'.2))[k]? = some q := fun hk => sh_W_pre he.1 (fun _ _ _ => rfl) (fun k _ hk => he.2 k hk) hk
  refine ⟨k, o, c1, c2, c3, ⟨⟨r, _, ad', ac', hQ, ho, ?_, k0, ks, Nat.le_refl _⟩, h3⟩, c5⟩
  exact ⟨⟨u1.1, fun o ci N ho => u1.2.1 o ci N ⟨Nat.lt_of_lt_of_le ho.1 he.1, ho.2⟩, u1.2.2⟩, fun k q hk => u2 k q (pre hk), ⟨fun i j p q hi hj => u3.1 i j p q (pre hi) (pre hj), fun k q hk => u3.2 k q (pre hk)⟩, u4, u5, fun k q hk => u6 k q (pre hk), a7, a8⟩
theorem l_callI {y : sh_M} {as : List sh_V} {c : sh_Cx} {I : sh_Mem} {Q : Int → sh_Mem → Prop} (hy : plainName y.1.cls = true) (hlen : as.length ≤ y.2.2.1) (h : kl c (0, 0) y 0 (as.map some ++ List.replicate (y.2.2.1 - as.length) none) [] I (qli c Q)) : cl c y as I (li c Q) :=
  (sh_call hy hlen h).drop (fun r σ q => by
    obtain ⟨c', J, v, he, rfl, rfl, q⟩ := q
    exact ⟨c', J, he, rfl, J, v, rfl, rfl, q⟩)
theorem l_callV {y : sh_M} {as : List sh_V} {c : sh_Cx} {I : sh_Mem} {Q : sh_Mem → Prop} (hy : plainName y.1.cls = true) (hlen : as.length ≤ y.2.2.1) (h : kl c (0, 0) y 0 (as.map some ++ List.replicate (y.2.2.1 - as.length) none) [] I (qlv c Q)) : cl c y as I (lv c Q) :=
  (sh_call hy hlen h).drop (fun r σ q => by
    obtain ⟨c', J, he, rfl, rfl, q⟩ := q
    exact ⟨c', J, he, rfl, J, rfl, rfl, q⟩)
/-- the memory behind a call of the class: its own objects as it left them, all others as they were -/
def mxM (J I : sh_Mem) : sh_Mem := fun o => if o < 119 then J o else I o
theorem mx_lt {J I : sh_Mem} {o : Nat} (h : o < 119) : mxM J I o = J o := by simp [mxM, h]
theorem mx_ge {J I : sh_Mem} {o : Nat} (h : 119 ≤ o) : mxM J I o = I o := by
  have : ¬ o < 119 := by omega
  simp [mxM, this]
/-- a call of the class inside a larger world -/
theorem sh_C.frame {y : sh_M} {as : List sh_V} {c : sh_Cx} {I : sh_Mem} {Q : Int → sh_Mem → Prop} (hc : cx c) (hy : y.2.2.2.2.2.1 = 0) (h : cc y as I (qi Q)) : cl c y as I (li c fun v K => ∃ J, K = mxM J I ∧ Q v J) := by
  intro l D ad ac sz
  intro p e b1 b2 b3 s m args below b4 b5 b6 b7
  obtain ⟨d0, dsz, a1, a2, a3, a4, a5, a6, a7, a8⟩ := b6
  have pre0 : ∀ {k : Nat} {q : Nat × va_E}, (sh_W ad ac (119, I, sh_PT))[k]? = some q → (sh_W ad ac (c.1, I, c.2))[k]? = some q := fun hk => sh_W_pre hc.1 (fun _ _ _ => rfl) (fun k _ hk => hc.2 k hk) hk
  have hU0 : sh_U D ad ac (sh_S I) (fun _ => True) s := ⟨⟨a1.1, fun o ci N ho => a1.2.1 o ci N ⟨Nat.lt_of_lt_of_le ho.1 hc.1, ho.2⟩, a1.2.2⟩, fun k q hk => a2 k q (pre0 hk), ⟨fun i j p q hi hj => a3.1 i j p q (pre0 hi) (pre0 hj), fun _ _ _ => trivial⟩, a4, a5, fun k q hk => a6 k q (pre0 hk), sh_PT_lt, Nat.succ_pos 118⟩
  obtain ⟨k, o, c1, c2, c3, ⟨⟨r, σ', ad', ac', h1, ho, hU, k0, ks, kle⟩, h3⟩, L, fe, hLf⟩ := h l D ad ac sz p e b1 b2 b3 s m args below b4 b5 ⟨d0, dsz, hU0⟩ b7
  obtain ⟨J, v, rfl, rfl, hQ⟩ := h1
  obtain ⟨rfl, rfl⟩ := k0 hy
  obtain ⟨u1, u2, u3, u4, u5, u6, u7, u8⟩ := hU
  have hwA : ∀ q, va_A (sh_W ad' ac' (sh_S I)) sz q → va_A (sh_W ad' ac' (c.1, I, c.2)) sz q := by
    rintro q (⟨k, x, hk⟩ | hle)
    · exact Or.inl ⟨k, x, pre0 hk⟩
    · exact Or.inr hle
  have hal := fe.2.1.alike
  have hJ : ∀ k, k < 119 → mxM J I k = J k := fun k hk => mx_lt hk
  -- an entry of the larger world, behind the call
  have ent : ∀ (k : Nat) (q : Nat × va_E), (sh_W ad' ac' (c.1, mxM J I, c.2))[k]? = some q → ((sh_W ad' ac' (119, J, sh_PT))[k]? = some q) ∨ (118 ≤ k ∧ (sh_W ad' ac' (c.1, I, c.2))[k]? = some q) := by
    intro k q hk
    by_cases hlt : k + 1 < 119
    · left
      have h9 := sh_W_idx hk
      obtain ⟨h91, h92⟩ := h9
      rw [h92]
      have hlt2 : k < 119 - 1 := by omega
      rw [sh_W, List.getElem?_map, List.getElem?_range hlt2]
      simp only [Option.map_some]
      rw [sh_E_congr (hJ _ hlt) (hc.2 _ hlt)]
    · right
      refine ⟨by omega, ?_⟩
      obtain ⟨h91, h92⟩ := sh_W_idx hk
      rw [h92]
      have h93 : k + 1 < c.1 := h91
      have hlt2 : k < c.1 - 1 := by omega
      rw [sh_W, List.getElem?_map, List.getElem?_range hlt2]
      simp only [Option.map_some]
      rw [sh_E_congr (I := I) (I' := mxM J I) (mx_ge (by omega)) rfl]
  have adr : ∀ (k : Nat) (q : Nat × va_E), (sh_W ad' ac' (c.1, mxM J I, c.2))[k]? = some q → ∃ x, (sh_W ad' ac' (c.1, I, c.2))[k]? = some (q.1, x) := by
    intro k q hk
    obtain ⟨h91, rfl⟩ := sh_W_idx hk
    have h93 : k + 1 < c.1 := h91
    have hlt2 : k < c.1 - 1 := by omega
    refine ⟨sh_E ad' ac' I c.2 (k + 1) (sh_KD (k + 1)), ?_⟩
    rw [sh_W, List.getElem?_map, List.getElem?_range hlt2]
    rfl
  have far : ∀ (k : Nat) (q : Nat × va_E), 118 ≤ k → (sh_W ad' ac' (c.1, I, c.2))[k]? = some q → q.1 < s.heap.size ∧ ¬ va_A (sh_W ad' ac' (sh_S I)) sz q.1 := by
    intro k q hk hq
    have hlt : q.1 < s.heap.size := (a2 k q hq).lt
    refine ⟨hlt, ?_⟩
    rintro (⟨j, x, hj⟩ | hle)
    · have h9 := a3.1 k j q (q.1, x) hq (pre0 hj) rfl
      have h8 := (sh_W_idx hj).1
      have h7 : j + 1 < 119 := h8
      omega
    · omega
  refine ⟨k, o, c1, c2, c3, ⟨⟨some v, (c.1, mxM J I, c.2), ad', ac', ⟨mxM J I, v, rfl, rfl, J, rfl, hQ⟩, ho, ?_, fun _ => ⟨rfl, rfl⟩, fun _ _ => ⟨rfl, rfl⟩, Nat.le_refl _⟩, h3.1, fun q q1 q2 => h3.2 q q1 (fun z => q2 (hwA q z))⟩, L, fe, fun q hq => hwA _ (hLf q hq)⟩
  refine ⟨⟨u1.1, fun o ci N ho h8 h13 => ⟨(arrOfT_moved hal (a1.2.1 o ci N ho h8 h13).1), ((a1.2.1 o ci N ho h8 h13).2.moved hal)⟩, u1.2.2⟩, fun k q hk => ?_, ⟨fun i j p q hi hj he => ?_, fun k q hk => ?_⟩, ?_, u5, fun k q hk => ?_, a7, a8⟩
  · rcases ent k q hk with h9 | ⟨h9, h8⟩
    · exact u2 k q h9
    · exact (a2 k q h8).kept (h3.2 _ (far k q h9 h8).1 (far k q h9 h8).2)
  · obtain ⟨x, hx⟩ := adr i p hi
    obtain ⟨z, hz⟩ := adr j q hj
    exact a3.1 i j _ _ hx hz he
  · obtain ⟨x, hx⟩ := adr k q hk
    exact Or.inl ⟨k, x, hx⟩
  · show va_X (ad' 0) (mxM J I 0 0).toNat (fun j => Int32.ofInt (mxM J I 0 ((j : Int) + 1))) _ _
    rw [hJ 0 (by decide)]
    exact u4
  · obtain ⟨x, hx⟩ := adr k q hk
    exact a6 k (q.1, x) hx
/-! calls in the law -/
theorem l_fit {y y2 : sh_M} {cn : Nat × Nat} {k : Nat} (h : sh_fit0 y y2 k = true) (hc : cn.1 ≤ y.2.2.2.2.2.1 ∧ cn.2 ≤ y.2.2.2.2.2.2) : sh_fit y y2 cn k := by
  obtain ⟨⟨h1, h2, h3, h4, h5⟩, e1, e2⟩ := sh_fit0_ok h
  exact ⟨h1, h2, by rw [e1]; exact hc.1, by rw [e2]; exact hc.2, h5⟩
theorem l_hc {y : sh_M} {pc : Nat} {ls : List (Option sh_V)} {st : List sh_V} {cn : Nat × Nat} {σ : sh_St} {Q : Option Int → sh_St → Prop} (h : (cn.1 ≤ y.2.2.2.2.2.1 ∧ cn.2 ≤ y.2.2.2.2.2.2) → sh_O y pc ls st cn σ Q) : sh_O y pc ls st cn σ Q := by
  intro p l e R s m args below meth c Z D A H0 ad ac H locs la hX hA hR hL hc hret
  exact h hc p l e R s m args below meth c Z D A H0 ad ac H locs la hX hA hR hL hc hret
theorem l_cn {y2 : sh_M} {cn : Nat × Nat} (h : y2.2.2.2.2.2.1 = 0 ∧ y2.2.2.2.2.2.2 = 0) : (cn.1 + y2.2.2.2.2.2.1, cn.2 + y2.2.2.2.2.2.2) = cn := by rw [h.1, h.2]; rfl
theorem l_iret {y : sh_M} {pc : Nat} {ls : List (Option sh_V)} {cn : Nat × Nat} {c0 c : sh_Cx} {I : sh_Mem} {Q : Int → sh_Mem → Prop} {v : Int} (he : ext c0 c) (hd : decode y.2.1 pc = .ok (.ireturn, 1)) (ht : y.2.2.2.1 = some .int) (h : Q v I) : kl c cn y pc ls [.inl v] I (qli c0 Q) := sh_iret (st := []) hd ht rfl ⟨c, I, v, he, rfl, rfl, h⟩
theorem l_zret {y : sh_M} {pc : Nat} {ls : List (Option sh_V)} {cn : Nat × Nat} {c0 c : sh_Cx} {I : sh_Mem} {Q : Int → sh_Mem → Prop} {v : Int} (he : ext c0 c) (hd : decode y.2.1 pc = .ok (.ireturn, 1)) (ht : y.2.2.2.1 = some .boolean) (hv : sh_01 v) (h : Q v I) : kl c cn y pc ls [.inl v] I (qli c0 Q) := sh_iret (st := []) hd ht (nar01 hv) ⟨c, I, v, he, rfl, rfl, h⟩
theorem l_vret {y : sh_M} {pc : Nat} {ls : List (Option sh_V)} {cn : Nat × Nat} {c0 c : sh_Cx} {I : sh_Mem} {Q : sh_Mem → Prop} (he : ext c0 c) (hd : decode y.2.1 pc = .ok (.return_, 1)) (ht : y.2.2.2.1 = none) (h : Q I) : kl c cn y pc ls [] I (qlv c0 Q) := sh_vret (st := []) hd ht ⟨c, I, he, rfl, rfl, h⟩
theorem l_S2i {y y2 : sh_M} {pc : Nat} {ls : List (Option sh_V)} {st : List sh_V} {cn : Nat × Nat} {c : sh_Cx} {I : sh_Mem} {Q : Option Int → sh_St → Prop} {idx : Nat} {a0 a1 : sh_V} {Q1 : Int → sh_Mem → Prop} (hd : decode y.2.1 pc = .ok (.invokestatic idx, 3)) (hl : sh_LS y.1.cls idx y2 2) (hz : sh_fit0 y y2 st.length = true) (hC : cl c y2 [a0, a1] I (li c Q1)) (h : ∀ v J, Q1 v J → kl c cn y (pc + 3) ls (.inl v :: st) J Q) : kl c cn y pc ls (a1 :: a0 :: st) I Q :=
  l_hc (fun hc => sh_callS (as := [a0, a1]) hd hl hC rfl (l_fit hz hc) (Or.inl (sh_fit0_ok hz).2.1) (fun r σ hq => by
    obtain ⟨J, v, rfl, rfl, hq⟩ := hq
    rw [l_cn (sh_fit0_ok hz).2]
    exact h v J hq))
theorem l_S2v {y y2 : sh_M} {pc : Nat} {ls : List (Option sh_V)} {st : List sh_V} {cn : Nat × Nat} {c : sh_Cx} {I : sh_Mem} {Q : Option Int → sh_St → Prop} {idx : Nat} {a0 a1 : sh_V} {Q1 : sh_Mem → Prop} (hd : decode y.2.1 pc = .ok (.invokestatic idx, 3)) (hl : sh_LS y.1.cls idx y2 2) (hz : sh_fit0 y y2 st.length = true) (hC : cl c y2 [a0, a1] I (lv c Q1)) (h : ∀ J, Q1 J → kl c cn y (pc + 3) ls st J Q) : kl c cn y pc ls (a1 :: a0 :: st) I Q :=
  l_hc (fun hc => sh_callS (as := [a0, a1]) hd hl hC rfl (l_fit hz hc) (Or.inl (sh_fit0_ok hz).2.1) (fun r σ hq => by
    obtain ⟨J, rfl, rfl, hq⟩ := hq
    rw [l_cn (sh_fit0_ok hz).2]
    exact h J hq))
theorem l_S3i {y y2 : sh_M} {pc : Nat} {ls : List (Option sh_V)} {st : List sh_V} {cn : Nat × Nat} {c : sh_Cx} {I : sh_Mem} {Q : Option Int → sh_St → Prop} {idx : Nat} {a0 a1 a2 : sh_V} {Q1 : Int → sh_Mem → Prop} (hd : decode y.2.1 pc = .ok (.invokestatic idx, 3)) (hl : sh_LS y.1.cls idx y2 3) (hz : sh_fit0 y y2 st.length = true) (hC : cl c y2 [a0, a1, a2] I (li c Q1)) (h : ∀ v J, Q1 v J → kl c cn y (pc + 3) ls (.inl v :: st) J Q) : kl c cn y pc ls (a2 :: a1 :: a0 :: st) I Q :=
  l_hc (fun hc => sh_callS (as := [a0, a1, a2]) hd hl hC rfl (l_fit hz hc) (Or.inl (sh_fit0_ok hz).2.1) (fun r σ hq => by
    obtain ⟨J, v, rfl, rfl, hq⟩ := hq
    rw [l_cn (sh_fit0_ok hz).2]
    exact h v J hq))
theorem l_S3v {y y2 : sh_M} {pc : Nat} {ls : List (Option sh_V)} {st : List sh_V} {cn : Nat × Nat} {c : sh_Cx} {I : sh_Mem} {Q : Option Int → sh_St → Prop} {idx : Nat} {a0 a1 a2 : sh_V} {Q1 : sh_Mem → Prop} (hd : decode y.2.1 pc = .ok (.invokestatic idx, 3)) (hl : sh_LS y.1.cls idx y2 3) (hz : sh_fit0 y y2 st.length = true) (hC : cl c y2 [a0, a1, a2] I (lv c Q1)) (h : ∀ J, Q1 J → kl c cn y (pc + 3) ls st J Q) : kl c cn y pc ls (a2 :: a1 :: a0 :: st) I Q :=
  l_hc (fun hc => sh_callS (as := [a0, a1, a2]) hd hl hC rfl (l_fit hz hc) (Or.inl (sh_fit0_ok hz).2.1) (fun r σ hq => by
    obtain ⟨J, rfl, rfl, hq⟩ := hq
    rw [l_cn (sh_fit0_ok hz).2]
    exact h J hq))
theorem l_S4i {y y2 : sh_M} {pc : Nat} {ls : List (Option sh_V)} {st : List sh_V} {cn : Nat × Nat} {c : sh_Cx} {I : sh_Mem} {Q : Option Int → sh_St → Prop} {idx : Nat} {a0 a1 a2 a3 : sh_V} {Q1 : Int → sh_Mem → Prop} (hd : decode y.2.1 pc = .ok (.invokestatic idx, 3)) (hl : sh_LS y.1.cls idx y2 4) (hz : sh_fit0 y y2 st.length = true) (hC : cl c y2 [a0, a1, a2, a3] I (li c Q1)) (h : ∀ v J, Q1 v J → kl c cn y (pc + 3) ls (.inl v :: st) J Q) : kl c cn y pc ls (a3 :: a2 :: a1 :: a0 :: st) I Q :=
  l_hc (fun hc => sh_callS (as := [a0, a1, a2, a3]) hd hl hC rfl (l_fit hz hc) (Or.inl (sh_fit0_ok hz).2.1) (fun r σ hq => by
    obtain ⟨J, v, rfl, rfl, hq⟩ := hq
    rw [l_cn (sh_fit0_ok hz).2]
    exact h v J hq))
theorem l_S4v {y y2 : sh_M} {pc : Nat} {ls : List (Option sh_V)} {st : List sh_V} {cn : Nat × Nat} {c : sh_Cx} {I : sh_Mem} {Q : Option Int → sh_St → Prop} {idx : Nat} {a0 a1 a2 a3 : sh_V} {Q1 : sh_Mem → Prop} (hd : decode y.2.1 pc = .ok (.invokestatic idx, 3)) (hl : sh_LS y.1.cls idx y2 4) (hz : sh_fit0 y y2 st.length = true) (hC : cl c y2 [a0, a1, a2, a3] I (lv c Q1)) (h : ∀ J, Q1 J → kl c cn y (pc + 3) ls st J Q) : kl c cn y pc ls (a3 :: a2 :: a1 :: a0 :: st) I Q :=
  l_hc (fun hc => sh_callS (as := [a0, a1, a2, a3]) hd hl hC rfl (l_fit hz hc) (Or.inl (sh_fit0_ok hz).2.1) (fun r σ hq => by
    obtain ⟨J, rfl, rfl, hq⟩ := hq
    rw [l_cn (sh_fit0_ok hz).2]
    exact h J hq))
theorem l_S5i {y y2 : sh_M} {pc : Nat} {ls : List (Option sh_V)} {st : List sh_V} {cn : Nat × Nat} {c : sh_Cx} {I : sh_Mem} {Q : Option Int → sh_St → Prop} {idx : Nat} {a0 a1 a2 a3 a4 : sh_V} {Q1 : Int → sh_Mem → Prop} (hd : decode y.2.1 pc = .ok (.invokestatic idx, 3)) (hl : sh_LS y.1.cls idx y2 5) (hz : sh_fit0 y y2 st.length = true) (hC : cl c y2 [a0, a1, a2, a3, a4] I (li c Q1)) (h : ∀ v J, Q1 v J → kl c cn y (pc + 3) ls (.inl v :: st) J Q) : kl c cn y pc ls (a4 :: a3 :: a2 :: a1 :: a0 :: st) I Q :=
  l_hc (fun hc => sh_callS (as := [a0, a1, a2, a3, a4]) hd hl hC rfl (l_fit hz hc) (Or.inl (sh_fit0_ok hz).2.1) (fun r σ hq => by
    obtain ⟨J, v, rfl, rfl, hq⟩ := hq
    rw [l_cn (sh_fit0_ok hz).2]
    exact h v J hq))
theorem l_S5v {y y2 : sh_M} {pc : Nat} {ls : List (Option sh_V)} {st : List sh_V} {cn : Nat × Nat} {c : sh_Cx} {I : sh_Mem} {Q : Option Int → sh_St → Prop} {idx : Nat} {a0 a1 a2 a3 a4 : sh_V} {Q1 : sh_Mem → Prop} (hd : decode y.2.1 pc = .ok (.invokestatic idx, 3)) (hl : sh_LS y.1.cls idx y2 5) (hz : sh_fit0 y y2 st.length = true) (hC : cl c y2 [a0, a1, a2, a3, a4] I (lv c Q1)) (h : ∀ J, Q1 J → kl c cn y (pc + 3) ls st J Q) : kl c cn y pc ls (a4 :: a3 :: a2 :: a1 :: a0 :: st) I Q :=
  l_hc (fun hc => sh_callS (as := [a0, a1, a2, a3, a4]) hd hl hC rfl (l_fit hz hc) (Or.inl (sh_fit0_ok hz).2.1) (fun r σ hq => by
    obtain ⟨J, rfl, rfl, hq⟩ := hq
    rw [l_cn (sh_fit0_ok hz).2]
    exact h J hq))
theorem l_S6i {y y2 : sh_M} {pc : Nat} {ls : List (Option sh_V)} {st : List sh_V} {cn : Nat × Nat} {c : sh_Cx} {I : sh_Mem} {Q : Option Int → sh_St → Prop} {idx : Nat} {a0 a1 a2 a3 a4 a5 : sh_V} {Q1 : Int → sh_Mem → Prop} (hd : decode y.2.1 pc = .ok (.invokestatic idx, 3)) (hl : sh_LS y.1.cls idx y2 6) (hz : sh_fit0 y y2 st.length = true) (hC : cl c y2 [a0, a1, a2, a3, a4, a5] I (li c Q1)) (h : ∀ v J, Q1 v J → kl c cn y (pc + 3) ls (.inl v :: st) J Q) : kl c cn y pc ls (a5 :: a4 :: a3 :: a2 :: a1 :: a0 :: st) I Q :=
  l_hc (fun hc => sh_callS (as := [a0, a1, a2, a3, a4, a5]) hd hl hC rfl (l_fit hz hc) (Or.inl (sh_fit0_ok hz).2.1) (fun r σ hq => by
    obtain ⟨J, v, rfl, rfl, hq⟩ := hq
    rw [l_cn (sh_fit0_ok hz).2]
    exact h v J hq))
theorem l_S6v {y y2 : sh_M} {pc : Nat} {ls : List (Option sh_V)} {st : List sh_V} {cn : Nat × Nat} {c : sh_Cx} {I : sh_Mem} {Q : Option Int → sh_St → Prop} {idx : Nat} {a0 a1 a2 a3 a4 a5 : sh_V} {Q1 : sh_Mem → Prop} (hd : decode y.2.1 pc = .ok (.invokestatic idx, 3)) (hl : sh_LS y.1.cls idx y2 6) (hz : sh_fit0 y y2 st.length = true) (hC : cl c y2 [a0, a1, a2, a3, a4, a5] I (lv c Q1)) (h : ∀ J, Q1 J → kl c cn y (pc + 3) ls st J Q) : kl c cn y pc ls (a5 :: a4 :: a3 :: a2 :: a1 :: a0 :: st) I Q :=
  l_hc (fun hc => sh_callS (as := [a0, a1, a2, a3, a4, a5]) hd hl hC rfl (l_fit hz hc) (Or.inl (sh_fit0_ok hz).2.1) (fun r σ hq => by
    obtain ⟨J, rfl, rfl, hq⟩ := hq
    rw [l_cn (sh_fit0_ok hz).2]
    exact h J hq))
theorem l_F0 {y y2 : sh_M} {pc : Nat} {ls : List (Option sh_V)} {st : List sh_V} {cn : Nat × Nat} {c : sh_Cx} {I : sh_Mem} {Q : Option Int → sh_St → Prop} {idx : Nat} {Q1 : Int → sh_Mem → Prop} (hx : cx c) (hd : decode y.2.1 pc = .ok (.invokevirtual idx, 3)) (hl : sh_LV y.1.cls idx y2 0 6 9) (hz : sh_fit0 y y2 st.length = true) (hC : cc y2 [.inr 1] I (qi Q1)) (h : ∀ v J, Q1 v J → kl c cn y (pc + 3) ls (.inl v :: st) (mxM J I) Q) : kl c cn y pc ls (.inr 1 :: st) I Q :=
  l_hc (fun hc => sh_callV (as := []) (ci := 6) (N := 9) ⟨Nat.lt_of_lt_of_le (by decide) hx.1, by decide +kernel, by decide⟩ hd hl (hC.frame hx (sh_fit0_ok hz).2.1) rfl (l_fit hz hc) (Or.inl (sh_fit0_ok hz).2.1) (fun r σ hq => by
    obtain ⟨J, v, rfl, rfl, K, rfl, hq⟩ := hq
    rw [l_cn (sh_fit0_ok hz).2]
    exact h v K hq))
theorem l_F1 {y y2 : sh_M} {pc : Nat} {ls : List (Option sh_V)} {st : List sh_V} {cn : Nat × Nat} {c : sh_Cx} {I : sh_Mem} {Q : Option Int → sh_St → Prop} {idx : Nat} {a0 : sh_V} {Q1 : Int → sh_Mem → Prop} (hx : cx c) (hd : decode y.2.1 pc = .ok (.invokevirtual idx, 3)) (hl : sh_LV y.1.cls idx y2 1 6 9) (hz : sh_fit0 y y2 st.length = true) (hC : cc y2 [.inr 1, a0] I (qi Q1)) (h : ∀ v J, Q1 v J → kl c cn y (pc + 3) ls (.inl v :: st) (mxM J I) Q) : kl c cn y pc ls (a0 :: .inr 1 :: st) I Q :=
  l_hc (fun hc => sh_callV (as := [a0]) (ci := 6) (N := 9) ⟨Nat.lt_of_lt_of_le (by decide) hx.1, by decide +kernel, by decide⟩ hd hl (hC.frame hx (sh_fit0_ok hz).2.1) rfl (l_fit hz hc) (Or.inl (sh_fit0_ok hz).2.1) (fun r σ hq => by
    obtain ⟨J, v, rfl, rfl, K, rfl, hq⟩ := hq
    rw [l_cn (sh_fit0_ok hz).2]
    exact h v K hq))
theorem l_F2 {y y2 : sh_M} {pc : Nat} {ls : List (Option sh_V)} {st : List sh_V} {cn : Nat × Nat} {c : sh_Cx} {I : sh_Mem} {Q : Option Int → sh_St → Prop} {idx : Nat} {a0 a1 : sh_V} {Q1 : Int → sh_Mem → Prop} (hx : cx c) (hd : decode y.2.1 pc = .ok (.invokevirtual idx, 3)) (hl : sh_LV y.1.cls idx y2 2 6 9) (hz : sh_fit0 y y2 st.length = true) (hC : cc y2 [.inr 1, a0, a1] I (qi Q1)) (h : ∀ v J, Q1 v J → kl c cn y (pc + 3) ls (.inl v :: st) (mxM J I) Q) : kl c cn y pc ls (a1 :: a0 :: .inr 1 :: st) I Q :=
  l_hc (fun hc => sh_callV (as := [a0, a1]) (ci := 6) (N := 9) ⟨Nat.lt_of_lt_of_le (by decide) hx.1, by decide +kernel, by decide⟩ hd hl (hC.frame hx (sh_fit0_ok hz).2.1) rfl (l_fit hz hc) (Or.inl (sh_fit0_ok hz).2.1) (fun r σ hq => by
    obtain ⟨J, v, rfl, rfl, K, rfl, hq⟩ := hq
    rw [l_cn (sh_fit0_ok hz).2]
    exact h v K hq))
theorem l_F3 {y y2 : sh_M} {pc : Nat} {ls : List (Option sh_V)} {st : List sh_V} {cn : Nat × Nat} {c : sh_Cx} {I : sh_Mem} {Q : Option Int → sh_St → Prop} {idx : Nat} {a0 a1 a2 : sh_V} {Q1 : Int → sh_Mem → Prop} (hx : cx c) (hd : decode y.2.1 pc = .ok (.invokevirtual idx, 3)) (hl : sh_LV y.1.cls idx y2 3 6 9) (hz : sh_fit0 y y2 st.length = true) (hC : cc y2 [.inr 1, a0, a1, a2] I (qi Q1)) (h : ∀ v J, Q1 v J → kl c cn y (pc + 3) ls (.inl v :: st) (mxM J I) Q) : kl c cn y pc ls (a2 :: a1 :: a0 :: .inr 1 :: st) I Q :=
  l_hc (fun hc => sh_callV (as := [a0, a1, a2]) (ci := 6) (N := 9) ⟨Nat.lt_of_lt_of_le (by decide) hx.1, by decide +kernel, by decide⟩ hd hl (hC.frame hx (sh_fit0_ok hz).2.1) rfl (l_fit hz hc) (Or.inl (sh_fit0_ok hz).2.1) (fun r σ hq => by
    obtain ⟨J, v, rfl, rfl, K, rfl, hq⟩ := hq
    rw [l_cn (sh_fit0_ok hz).2]
    exact h v K hq))
theorem l_A4 {y y2 : sh_M} {pc : Nat} {ls : List (Option sh_V)} {st : List sh_V} {cn cn' : Nat × Nat} {c : sh_Cx} {I : sh_Mem} {Q : Option Int → sh_St → Prop} {idx : Nat} {a0 a1 a2 a3 : sh_V} {Q1 : Int → sh_Mem → Prop} (hd : decode y.2.1 pc = .ok (.invokestatic idx, 3)) (hl : sh_LS y.1.cls idx y2 4) (hf : sh_fit y y2 cn st.length) (hst : sh_noref c.1 st ∧ ∀ o : Nat, some (Sum.inr o) ∈ ls → o < c.1) (hcn : (cn.1 + y2.2.2.2.2.2.1, cn.2 + y2.2.2.2.2.2.2) = cn') (hC : cl c y2 [a0, a1, a2, a3] I (li c Q1)) (h : ∀ v J, Q1 v J → kl c cn' y (pc + 3) ls (.inl v :: st) J Q) : kl c cn y pc ls (a3 :: a2 :: a1 :: a0 :: st) I Q :=
  sh_callS (as := [a0, a1, a2, a3]) hd hl hC rfl hf (Or.inr hst) (fun r σ hq => by
    obtain ⟨J, v, rfl, rfl, hq⟩ := hq
    rw [hcn]
    exact h v J hq)
theorem l_A5 {y y2 : sh_M} {pc : Nat} {ls : List (Option sh_V)} {st : List sh_V} {cn cn' : Nat × Nat} {c : sh_Cx} {I : sh_Mem} {Q : Option Int → sh_St → Prop} {idx : Nat} {a0 a1 a2 a3 a4 : sh_V} {Q1 : Int → sh_Mem → Prop} (hd : decode y.2.1 pc = .ok (.invokestatic idx, 3)) (hl : sh_LS y.1.cls idx y2 5) (hf : sh_fit y y2 cn st.length) (hst : sh_noref c.1 st ∧ ∀ o : Nat, some (Sum.inr o) ∈ ls → o < c.1) (hcn : (cn.1 + y2.2.2.2.2.2.1, cn.2 + y2.2.2.2.2.2.2) = cn') (hC : cl c y2 [a0, a1, a2, a3, a4] I (li c Q1)) (h : ∀ v J, Q1 v J → kl c cn' y (pc + 3) ls (.inl v :: st) J Q) : kl c cn y pc ls (a4 :: a3 :: a2 :: a1 :: a0 :: st) I Q :=
  sh_callS (as := [a0, a1, a2, a3, a4]) hd hl hC rfl hf (Or.inr hst) (fun r σ hq => by
    obtain ⟨J, v, rfl, rfl, hq⟩ := hq
    rw [hcn]
    exact h v J hq)
end
